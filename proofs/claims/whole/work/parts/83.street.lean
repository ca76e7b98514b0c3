/-! Written by a program (wip/whole/p83.py): fault; street. -/
theorem RelAB.txt {m : Mem} (R : RelAB m) {a n : Nat} (ha : a < 4) (hn : n ≤ 80) (s2 : gI m (1, 5, 0) a = nI n) (s3 : ∀ k, k < n → gI m (0, 2, 6 + a) k = gI m (1, 6, 0) (80 * a + k)) : TM a n (fun k => gI m (0, 2, 6 + a) k) m := ⟨ha, hn, s2, fun k hk => (s3 k hk).symm⟩
theorem ln26 {a : Nat} : ln (0, 2, 6 + a) = 80 := if_neg (show ¬ 6 + a < 6 by omega)

theorem p_fault {d : Nat} {m : Mem} {K : Option Vv → Option Vv → Mem → Prop} (R : RelAB m) {r : Int32} (h : ∀ v m', RelAB m' → K v v m') : cW (d + 6) n_X_fault [vo 0 0 0, vi r] m (fun v m1 => cW (d + 6) n_M_fault [vo 1 0 0, vi r] m1 (fun w m2 => K v w m2)) := by
  have hR := R.1
  rcases R.textCase r with q | ⟨a, ha, rfl, s1, s2⟩ | ⟨a, n, ha, rfl, hn, s1, s2, s3⟩
  · refine w_X_fault (Go.runR (callT_mono MT _) [] 200 (by repeat' (first | exact hR | apply OKR.pI | apply OKR.pL | apply OKR.cpI | apply OKR.wI)) ?_)
    refine m_X_isText0 (by repeat' (first | exact hR | apply OKR.pI | apply OKR.pL | apply OKR.cpI | apply OKR.wI)) q (And.intro (by repeat' (first | exact hR | apply OKR.pI | apply OKR.pL | apply OKR.cpI | apply OKR.wI)) ?_)
    refine And.intro (fun c3 => ?_) (fun c3 => ?_)
    · try dsimp only at c3
      refine And.intro trivial ?_
      refine w_M_fault (Go.runR (callT_mono MT _) [] 200 (by repeat' (first | exact hR | apply OKR.pI | apply OKR.pL | apply OKR.cpI | apply OKR.wI)) ?_)
      refine m_M_askedText (by repeat' (first | exact hR | apply OKR.pI | apply OKR.pL | apply OKR.cpI | apply OKR.wI)) (fun _ => And.intro (by repeat' (first | exact hR | apply OKR.pI | apply OKR.pL | apply OKR.cpI | apply OKR.wI)) ?_) (fun z _ => absurd z q) (fun z _ => absurd z q)
      refine And.intro (fun c5 => ?_) (fun c5 => ?_)
      · first | exact absurd c5 (by decide) | exact absurd (by decide) c5 | (exfalso; grind)
      · try dsimp only at c5
        refine And.intro trivial ?_
        exact h _ _ R
    · first | exact absurd c3 (by decide) | exact absurd (by decide) c3 | (exfalso; grind)
  · have e0 : (nI a).toNatClampNeg = a := nI_clamp (by omega)
    refine w_X_fault (Go.runR (callT_mono MT _) [] 200 (by repeat' (first | exact hR | apply OKR.pI | apply OKR.pL | apply OKR.cpI | apply OKR.wI)) ?_)
    refine m_X_isText1 (by repeat' (first | exact hR | apply OKR.pI | apply OKR.pL | apply OKR.cpI | apply OKR.wI)) ha (And.intro (by repeat' (first | exact hR | apply OKR.pI | apply OKR.pL | apply OKR.cpI | apply OKR.wI)) ?_)
    refine And.intro (fun c3 => ?_) (fun c3 => ?_)
    · first | exact absurd c3 (by decide) | exact absurd (by decide) c3 | (exfalso; grind)
    · try dsimp only at c3
      refine And.intro ⟨(by first | decide | assumption | omega), (by first | decide | assumption | omega)⟩ ?_
      refine And.intro ⟨(vp_nI (N := 4) ha (by decide)), ⟨rfl, by rw [e0]; exact ha⟩⟩ ?_
      rw [show (nI a).toNatClampNeg = a from e0]
      refine m_Ce_isMissing1 (by repeat' (first | exact hR | apply OKR.pI | apply OKR.pL | apply OKR.cpI | apply OKR.wI)) s1 (And.intro (by repeat' (first | exact hR | apply OKR.pI | apply OKR.pL | apply OKR.cpI | apply OKR.wI)) ?_)
      refine And.intro (fun c11 => ?_) (fun c11 => ?_)
      · first | exact absurd c11 (by decide) | exact absurd (by decide) c11 | (exfalso; grind)
      · try dsimp only at c11
        refine m_X_found1 (by repeat' (first | exact hR | apply OKR.pI | apply OKR.pL | apply OKR.cpI | apply OKR.wI))  (And.intro (by repeat' (first | exact hR | apply OKR.pI | apply OKR.pL | apply OKR.cpI | apply OKR.wI)) ?_)
        refine And.intro trivial ?_
        refine w_M_fault (Go.runR (callT_mono MT _) [] 200 (by repeat' (first | exact hR | apply OKR.pI | apply OKR.pL | apply OKR.cpI | apply OKR.wI)) ?_)
        refine m_M_askedText (by repeat' (first | exact hR | apply OKR.pI | apply OKR.pL | apply OKR.cpI | apply OKR.wI)) (fun z => absurd (istext_in ha) z) (fun _ _ => And.intro (by repeat' (first | exact hR | apply OKR.pI | apply OKR.pL | apply OKR.cpI | apply OKR.wI)) ?_) (fun _ z => absurd z (by rw [e0]; show ¬ 0 ≤ gI m (1, 5, 0) a; rw [s2]; decide))
        refine And.intro (fun c5 => ?_) (fun c5 => ?_)
        · first | exact absurd c5 (by decide) | exact absurd (by decide) c5 | (exfalso; grind)
        · try dsimp only at c5
          refine And.intro trivial ?_
          exact h _ _ (R.meet (by omega) (by omega))
  · have e0 : (nI a).toNatClampNeg = a := nI_clamp (by omega)
    have T := R.txt ha hn s2 s3
    refine w_X_fault (Go.runR (callT_mono MT _) [] 200 (by repeat' (first | exact hR | apply OKR.pI | apply OKR.pL | apply OKR.cpI | apply OKR.wI)) ?_)
    refine m_X_isText1 (by repeat' (first | exact hR | apply OKR.pI | apply OKR.pL | apply OKR.cpI | apply OKR.wI)) ha (And.intro (by repeat' (first | exact hR | apply OKR.pI | apply OKR.pL | apply OKR.cpI | apply OKR.wI)) ?_)
    refine And.intro (fun c3 => ?_) (fun c3 => ?_)
    · first | exact absurd c3 (by decide) | exact absurd (by decide) c3 | (exfalso; grind)
    · try dsimp only at c3
      refine And.intro ⟨(by first | decide | assumption | omega), (by first | decide | assumption | omega)⟩ ?_
      refine And.intro ⟨(vp_nI (N := 4) ha (by decide)), ⟨rfl, by rw [e0]; exact ha⟩⟩ ?_
      rw [show (nI a).toNatClampNeg = a from e0]
      refine m_Ce_isMissing0 (by repeat' (first | exact hR | apply OKR.pI | apply OKR.pL | apply OKR.cpI | apply OKR.wI)) (n := n) hn s1 (And.intro (by repeat' (first | exact hR | apply OKR.pI | apply OKR.pL | apply OKR.cpI | apply OKR.wI)) ?_)
      refine And.intro (fun c11 => ?_) (fun c11 => ?_)
      · try dsimp only at c11
        refine And.intro ⟨(by first | decide | assumption | omega), (by first | decide | assumption | omega)⟩ ?_
        refine And.intro ⟨(vp_nI (N := 4) ha (by decide)), ⟨rfl, by rw [e0]; exact ha⟩⟩ ?_
        refine m_Gr_faultOf hR (c := 6 + a) (n := n) (b := fun k => gI m (0, 2, 6 + a) k) (by omega) (by rw [ln26]; exact hn) hn s1 (fun k _ => rfl) (by rw [e0]) (And.intro hR ?_)
        refine And.intro trivial ?_
        refine w_M_fault (Go.runR (callT_mono MT _) [] 200 (by repeat' (first | exact hR | apply OKR.pI | apply OKR.pL | apply OKR.cpI | apply OKR.wI)) ?_)
        refine m_M_askedText (by repeat' (first | exact hR | apply OKR.pI | apply OKR.pL | apply OKR.cpI | apply OKR.wI)) (fun z => absurd (istext_in ha) z) (fun _ z => absurd z (by rw [e0]; show ¬ gI m (1, 5, 0) a < 0; rw [s2]; exact (szneg hn).1)) (fun _ _ => And.intro (by repeat' (first | exact hR | apply OKR.pI | apply OKR.pL | apply OKR.cpI | apply OKR.wI)) ?_)
        refine And.intro (fun c5 => ?_) (fun c5 => ?_)
        · try dsimp only at c5
          refine m_M_goesOn hR T rfl (fun m1 G _ => And.intro G.ok ?_)
          refine And.intro trivial ?_
          exact h _ _ (G.rel R)
        · first | exact absurd c5 (by decide) | exact absurd (by decide) c5 | (exfalso; grind)
      · first | exact absurd c11 (by decide) | exact absurd (by decide) c11 | (exfalso; grind)

theorem clrM_x {m m' : Mem} {s : Nat} (h : Nx [5] [] m m') : Nx [5] [] m (clrM m' s) := by
  unfold clrM
  exact (((((h.p0 (by simp)).p0 (by simp)).p0 (by simp)).p0 (by simp)).p0 (by simp)).p0 (by simp)

theorem l_X_street27 {d : Nat} {v : Int32} {m0 : Mem} {K : Option Vv → Mem → Prop} (h : ∀ m, Nx [5] [] m0 m → (∀ j, j < 3 → gI m (0, 5, 1 + j) 3 = 0) → Go (cW (d + 3)) i_X_street (0, 0) K 39 [vo 0 0 0, vi v, vi (nI 3)] [] m 0 0) (k : Nat) (m : Mem) (H : Nx [5] [] m0 m) (H2 : ∀ j, j < k → gI m (0, 5, 1 + j) 3 = 0) (hk : k ≤ 3) : Go (cW (d + 3)) i_X_street (0, 0) K 27 [vo 0 0 0, vi v, vi (nI k)] [] m 0 0 := by
  have hR := H.1
  have e0 : (nI k).toNatClampNeg = k := nI_clamp (by omega)
  refine Go.runR (callT_mono MT _) [27, 39] 200 hR ?_
  refine And.intro ⟨(by first | decide | assumption | omega), (by first | decide | assumption | omega)⟩ ?_
  refine And.intro (fun c31 => ?_) (fun c31 => ?_)
  · try dsimp only at c31
    obtain rfl := lq_e (n := 3) c31 rfl rfl hk (by omega)
    exact h m H H2
  · try dsimp only at c31
    have hk2 := lq_m (n := 3) c31 rfl rfl hk (by omega)
    refine And.intro ⟨(by first | decide | assumption | omega), (by first | decide | assumption | omega)⟩ ?_
    refine And.intro ⟨(vp_nI (k := k) (N := 3) (by omega) (by decide)), ⟨rfl, by rw [e0]; exact hk2⟩⟩ ?_
    rw [show (nI k).toNatClampNeg = k from e0]
    refine m_St_clear hR (And.intro (clrM_x H).1 ?_)
    refine go_eq (by rw [← nI_succ]; first | done | rfl) rfl (l_X_street27 h (k + 1) (clrM m (1 + k)) (clrM_x H) (fun j hj => ?_) hk2)
    rw [clrM_r]
    by_cases z : j = k
    · rw [if_pos ⟨rfl, by omega, by decide, by decide⟩]
    · rw [if_neg (by omega)]
      exact H2 j (by omega)
termination_by 3 - k
decreasing_by all_goals omega

def SI (m0 m : Mem) (k : Nat) : Prop := Nx [] [7, 8, 9, 10, 11] m0 m ∧ (∀ t q, t = 7 ∨ t = 8 ∨ t = 9 → gI m (1, t, 0) q = if q < k then gI m0 (1, t, 0) (8 + q) else gI m0 (1, t, 0) q) ∧ ∀ q, q < k → gI m (1, 10, 0) q = 0 ∧ gI m (1, 11, 0) q = 0
def SJ (m0 m : Mem) (k : Nat) : Prop := Nx [] [18] m0 m ∧ ∀ q, q < k → gI m (1, 18, 0) q = 0
def SK (m0 m : Mem) (k : Nat) : Prop := Nx [] [13] m0 m ∧ ∀ q, q < k → gI m (1, 13, 0) (580 * q) = -9
theorem if_t {t k k' q q' : Nat} {x y z : Int32} (h : q = k) : (if t = t ∧ 0 = 0 ∧ q = k then x else y) = x := if_pos ⟨rfl, rfl, h⟩

theorem l_M_street107 {d : Nat} {u w : Int32} {m0 : Mem} {K : Option Vv → Mem → Prop} (h : ∀ m, SK m0 m 3 → K (some (vi (gI m0 (1, 0, 0) 10))) m) (k : Nat) (m : Mem) (H : SK m0 m k) (hk : k ≤ 3) : Go (cW d) i_M_street (0, 0) K 107 [vo 1 0 0, vi u, vi w, vi (nI k)] [] m 0 0 := by
  have hR := H.1.1
  have e1 : 580 * nI k = nI (580 * k) := pk580 k
  have e2 : (580 * nI k).toNatClampNeg = 580 * k := by rw [e1, nI_clamp (by omega)]
  refine Go.runR (callT_mono MT _) [107] 200 hR ?_
  refine And.intro (fun c109 => ?_) (fun c109 => ?_)
  · try dsimp only at c109
    obtain rfl := lq_e (n := 3) c109 rfl rfl hk (by omega)
    refine And.intro trivial ?_
    exact kvi (H.1.2.2.2.2 0 0 10 (by simp)) (h m H)
  · try dsimp only at c109
    have hk2 := lq_m (n := 3) c109 rfl rfl hk (by omega)
    refine And.intro ⟨rfl, rfl, rfl⟩ ?_
    refine And.intro (by show vp_in (580 * nI k) 1740; rw [e1]; exact vp_nI (by omega) (by decide)) ?_
    refine go_eq (m' := pI m (1, 13, 0) (580 * k) (-9)) (by rw [← nI_succ]; first | done | rfl) (by show pI m (1, 13, 0) (580 * nI k).toNatClampNeg (-9) = _; rw [e2]) (l_M_street107 h (k + 1) _ ⟨H.1.p1 (by simp), fun q hq => ?_⟩ hk2)
    rw [rd11]
    by_cases z : q = k
    · rw [if_pos ⟨rfl, rfl, by omega⟩]
    · rw [if_neg (by omega)]
      exact H.2 q (by omega)
termination_by 3 - k
decreasing_by all_goals omega

theorem l_M_street86 {d : Nat} {u w : Int32} {m0 : Mem} {K : Option Vv → Mem → Prop} (h : ∀ m, SJ m0 m 64 → Go (cW d) i_M_street (0, 0) K 107 [vo 1 0 0, vi u, vi w, vi (nI 0)] [] (pI (pI (pI m (1, 0, 0) 20 0) (1, 0, 0) 21 0) (1, 0, 0) 22 0) 0 0) (k : Nat) (m : Mem) (H : SJ m0 m k) (hk : k ≤ 64) : Go (cW d) i_M_street (0, 0) K 86 [vo 1 0 0, vi u, vi w, vi (nI k)] [] m 0 0 := by
  have hR := H.1.1
  have e0 : (nI k).toNatClampNeg = k := nI_clamp (by omega)
  refine Go.runR (callT_mono MT _) [86, 107] 200 hR ?_
  refine And.intro (fun c88 => ?_) (fun c88 => ?_)
  · try dsimp only at c88
    obtain rfl := lq_e (n := 64) c88 rfl rfl hk (by omega)
    exact h m H
  · try dsimp only at c88
    have hk2 := lq_m (n := 64) c88 rfl rfl hk (by omega)
    refine And.intro ⟨rfl, rfl, rfl⟩ ?_
    refine And.intro (vp_nI (k := k) (N := 64) (by omega) (by decide)) ?_
    refine go_eq (m' := pI m (1, 18, 0) k 0) (by rw [← nI_succ]; first | done | rfl) (by show pI m (1, 18, 0) (nI k).toNatClampNeg 0 = _; rw [e0]) (l_M_street86 h (k + 1) _ ⟨H.1.p1 (by simp), fun q hq => ?_⟩ hk2)
    rw [rd11]
    by_cases z : q = k
    · rw [if_pos ⟨rfl, rfl, by omega⟩]
    · rw [if_neg (by omega)]
      exact H.2 q (by omega)
termination_by 64 - k
decreasing_by all_goals omega

theorem l_M_street39 {d : Nat} {u w : Int32} {m0 : Mem} {K : Option Vv → Mem → Prop} (h : ∀ m, SI m0 m 8 → Go (cW d) i_M_street (0, 0) K 86 [vo 1 0 0, vi u, vi w, vi (nI 0)] [] m 0 0) (k : Nat) (m : Mem) (H : SI m0 m k) (hk : k ≤ 8) : Go (cW d) i_M_street (0, 0) K 39 [vo 1 0 0, vi u, vi w, vi (nI k)] [] m 0 0 := by
  have hR := H.1.1
  have e0 : (nI k).toNatClampNeg = k := nI_clamp (by omega)
  have e8 : 8 + nI k = nI (8 + k) := by rw [show (8 : Int32) = nI 8 from rfl, nI_add]
  have e9 : (8 + nI k).toNatClampNeg = 8 + k := by rw [e8, nI_clamp (by omega)]
  have hv : ∀ t, t = 7 ∨ t = 8 ∨ t = 9 → gI m (1, t, 0) (8 + k) = gI m0 (1, t, 0) (8 + k) := fun t ht => by rw [H.2.1 t _ ht, if_neg (by omega)]
  have key : ∀ x y z : Int32, x = gI m0 (1, 7, 0) (8 + k) → y = gI m0 (1, 8, 0) (8 + k) → z = gI m0 (1, 9, 0) (8 + k) → k < 8 → Go (cW d) i_M_street (0, 0) K 39 [vo 1 0 0, vi u, vi w, vi (nI k + 1)] [] (pI (pI (pI (pI (pI m (1, 7, 0) (nI k).toNatClampNeg x) (1, 8, 0) (nI k).toNatClampNeg y) (1, 9, 0) (nI k).toNatClampNeg z) (1, 10, 0) (nI k).toNatClampNeg 0) (1, 11, 0) (nI k).toNatClampNeg 0) 0 0 := fun x y z ex ey ez hk2 => by
    subst ex; subst ey; subst ez
    refine go_eq (m' := pI (pI (pI (pI (pI m (1, 7, 0) k (gI m0 (1, 7, 0) (8 + k))) (1, 8, 0) k (gI m0 (1, 8, 0) (8 + k))) (1, 9, 0) k (gI m0 (1, 9, 0) (8 + k))) (1, 10, 0) k 0) (1, 11, 0) k 0) (by rw [← nI_succ]; first | done | rfl) (by rw [e0]) (l_M_street39 h (k + 1) _ ⟨((((H.1.p1 (by simp)).p1 (by simp)).p1 (by simp)).p1 (by simp)).p1 (by simp), fun t q ht => ?_, fun q hq => ?_⟩ hk2)
    · by_cases z : q = k
      · rw [if_pos (by omega), z]
        rcases ht with rfl | rfl | rfl
        · rw [rd11, if_neg (by omega), rd11, if_neg (by omega), rd11, if_neg (by omega), rd11, if_neg (by omega), rd11, if_pos ⟨rfl, rfl, rfl⟩]
        · rw [rd11, if_neg (by omega), rd11, if_neg (by omega), rd11, if_neg (by omega), rd11, if_pos ⟨rfl, rfl, rfl⟩]
        · rw [rd11, if_neg (by omega), rd11, if_neg (by omega), rd11, if_pos ⟨rfl, rfl, rfl⟩]
      · rw [rd11, if_neg (by omega), rd11, if_neg (by omega), rd11, if_neg (by omega), rd11, if_neg (by omega), rd11, if_neg (by omega), H.2.1 t q ht]
        by_cases y : q < k
        · rw [if_pos y, if_pos (by omega)]
        · rw [if_neg y, if_neg (by omega)]
    · by_cases z : q = k
      · rw [rd11, if_neg (by omega), rd11, if_pos ⟨rfl, rfl, z⟩, rd11, if_pos ⟨rfl, rfl, z⟩]
        exact ⟨rfl, rfl⟩
      · rw [rd11, if_neg (by omega), rd11, if_neg (by omega), rd11, if_neg (by omega), rd11, if_neg (by omega), rd11, if_neg (by omega), rd11, if_neg (by omega), rd11, if_neg (by omega), rd11, if_neg (by omega), rd11, if_neg (by omega), rd11, if_neg (by omega)]
        exact H.2.2 q (by omega)
  refine Go.runR (callT_mono MT _) [39, 86] 200 hR ?_
  refine And.intro (fun c41 => ?_) (fun c41 => ?_)
  · try dsimp only at c41
    obtain rfl := lq_e (n := 8) c41 rfl rfl hk (by omega)
    exact h m H
  · try dsimp only at c41
    have hk2 := lq_m (n := 8) c41 rfl rfl hk (by omega)
    refine And.intro ⟨rfl, rfl, rfl⟩ ?_
    refine And.intro ⟨rfl, rfl, rfl⟩ ?_
    refine And.intro (by show vp_in (8 + nI k) 16; rw [e8]; exact vp_nI (by omega) (by decide)) ?_
    refine And.intro (by first | exact vp_nI (k := k) (N := 16) (by omega) (by decide) | exact vp_nI (k := k) (N := 8) (by omega) (by decide)) ?_
    refine And.intro ⟨rfl, rfl, rfl⟩ ?_
    refine And.intro ⟨rfl, rfl, rfl⟩ ?_
    refine And.intro (by show vp_in (8 + nI k) 16; rw [e8]; exact vp_nI (by omega) (by decide)) ?_
    refine And.intro (by first | exact vp_nI (k := k) (N := 16) (by omega) (by decide) | exact vp_nI (k := k) (N := 8) (by omega) (by decide)) ?_
    refine And.intro ⟨rfl, rfl, rfl⟩ ?_
    refine And.intro ⟨rfl, rfl, rfl⟩ ?_
    refine And.intro (by show vp_in (8 + nI k) 16; rw [e8]; exact vp_nI (by omega) (by decide)) ?_
    refine And.intro (by first | exact vp_nI (k := k) (N := 16) (by omega) (by decide) | exact vp_nI (k := k) (N := 8) (by omega) (by decide)) ?_
    refine And.intro ⟨rfl, rfl, rfl⟩ ?_
    refine And.intro (by first | exact vp_nI (k := k) (N := 16) (by omega) (by decide) | exact vp_nI (k := k) (N := 8) (by omega) (by decide)) ?_
    refine And.intro ⟨rfl, rfl, rfl⟩ ?_
    refine And.intro (by first | exact vp_nI (k := k) (N := 16) (by omega) (by decide) | exact vp_nI (k := k) (N := 8) (by omega) (by decide)) ?_
    refine key _ _ _ ?_ ?_ ?_ hk2
    · show gI m (1, 7, 0) (8 + nI k).toNatClampNeg = _
      rw [e9]; exact hv 7 (by omega)
    · rw [e9, rd11, if_neg (by omega)]; exact hv 8 (by omega)
    · rw [e9, rd11, if_neg (by omega), rd11, if_neg (by omega)]; exact hv 9 (by omega)
termination_by 8 - k
decreasing_by all_goals omega
