/-! Written by a program (wip/whole/p30.py): mean. -/
def sm (f : Nat → Int32) : Nat → Int64
  | 0 => 0
  | n + 1 => sm f n + (f n).toInt64
theorem sm_cg {f g : Nat → Int32} : ∀ {n : Nat}, (∀ k, k < n → f k = g k) → sm f n = sm g n
  | 0, _ => rfl
  | n + 1, h => by
    unfold sm
    rw [sm_cg (n := n) fun k hk => h k (by omega), h n (by omega)]
theorem szL {n : Nat} (h0 : 0 < n) (h : n ≤ 80) : ¬ (nI n).toInt64 = 0 := by
  rw [nI_l (by omega)]
  intro e
  have := congrArg Int64.toInt e
  rw [lN_toInt (by omega)] at this
  simp at this
  omega
theorem sz0 {n : Nat} (h0 : 0 < n) (h : n ≤ 80) : ¬ nI n = 0 := nI_ne0 h0 (by omega)

theorem l_Ce_sum {d : Nat} {K : Option Vv → Mem → Prop} {m : Mem} {c n : Nat} (hR : OKR m) (hc : c < 10) (hn : n ≤ ln (0, 2, c)) (q : gI m (0, 1, c) 1 = nI n) (h : K (some (vl (sm (gI m (0, 2, c)) n))) m) (k : Nat) (hk : k ≤ n) : Go (cW d) i_Ce_sum (0, 0) K 4 [vo 0 1 c, vl (sm (gI m (0, 2, c)) k), vu, vi (nI k)] [] m 0 0 := by
  have h80 := ln2_le c
  refine Go.runR (callT_mono MT _) [4] 200 hR ?_
  refine And.intro (fun c7 => ?_) (fun c7 => ?_)
  · try dsimp only at c7
    refine And.intro trivial ?_
    obtain rfl : k = n := by have := (nI_leI (a := n) (b := k) (by omega) (by omega)).mp (by rw [← q]; exact c7); omega
    exact h
  · try dsimp only at c7
    have hk2 : k < n := by have := mt (nI_leI (a := n) (b := k) (by omega) (by omega)).mpr (by rw [← q]; exact c7); omega
    refine And.intro ⟨(by first | decide | assumption | omega), (by first | decide | assumption | omega)⟩ ?_
    refine And.intro (vp_nI (by omega) (ln2_lt c)) ?_
    refine go_eq (ls' := [vo 0 1 c, vl (sm (gI m (0, 2, c)) (k + 1)), vu, vi (nI (k + 1))]) ?_ rfl (l_Ce_sum hR hc hn q h (k + 1) hk2)
    rw [nI_succ]
    show [vo 0 1 c, vl (sm (gI m (0, 2, c)) k + (gI m (0, 2, c) (nI k).toNatClampNeg).toInt64), vu, vi (nI k + 1)] = _
    rw [nI_clamp (by omega)]
    rfl
termination_by n - k
decreasing_by omega
theorem m_Ce_sum {d : Nat} {m : Mem} {K : Option Vv → Mem → Prop} (hR : OKR m) {c n : Nat} (hc : c < 10) (hn : n ≤ ln (0, 2, c)) (q : gI m (0, 1, c) 1 = nI n) (h : K (some (vl (sm (gI m (0, 2, c)) n))) m) : cW (d + 1) n_Ce_sum [vo 0 1 c] m K := by
  refine w_Ce_sum (Go.runR (callT_mono MT _) [4] 200 hR ?_)
  exact l_Ce_sum hR hc hn q h 0 (by omega)
theorem l_M_mean {d : Nat} {K : Option Vv → Mem → Prop} {m : Mem} {a n : Nat} (hR : OKR m) (ha : a < 6) (hn : n ≤ 40) (q : gI m (1, 2, 0) a = nI n) (hz : n = 0 → K (some (vi (-3))) (meetM m 4)) (h : 0 < n → K (some (vi 1)) (askM m (sm (fun k => gI m (1, 3, 0) (40 * a + k)) n / (nI n).toInt64).toInt32)) (k : Nat) (hk : k ≤ n) : Go (cW (d + 1)) i_M_mean (0, 0) K 12 [vo 1 0 0, vi (nI a), vi 0, vl (sm (fun k => gI m (1, 3, 0) (40 * a + k)) k), vu, vi (nI k)] [] m 0 0 := by
  have e0 : (nI a).toNatClampNeg = a := nI_clamp (by omega)
  have q0 : gI m (1, 2, 0) (nI a).toNatClampNeg = nI n := by rw [e0]; exact q
  refine Go.runR (callT_mono MT _) [12] 200 hR ?_
  refine And.intro ⟨rfl, rfl, rfl⟩ ?_
  refine And.intro (vp_nI (N := 6) ha (by decide)) ?_
  refine And.intro (fun c17 => ?_) (fun c17 => ?_)
  · try dsimp only at c17
    obtain rfl : k = n := by have := (nI_leI (a := n) (b := k) (by omega) (by omega)).mp (by rw [← q0]; exact c17); omega
    refine And.intro ⟨rfl, rfl, rfl⟩ ?_
    refine And.intro (vp_nI (N := 6) ha (by decide)) ?_
    refine And.intro (fun c32 => ?_) (fun c32 => ?_)
    · try dsimp only at c32
      have z : k = 0 := (Nat.eq_zero_or_pos k).elim id (fun z => absurd (by rw [← q0]; exact c32) (sz0 z (by omega)))
      refine m_M_meet4 (by repeat' (first | exact hR | apply OKR.pI | apply OKR.pL | apply OKR.cpI | apply OKR.wI))  (And.intro (by repeat' (first | exact hR | apply OKR.pI | apply OKR.pL | apply OKR.cpI | apply OKR.wI)) ?_)
      refine And.intro trivial ?_
      first | exact hz z | (rw [q0]; exact h z)
    · try dsimp only at c32
      have z : 0 < k := (Nat.eq_zero_or_pos k).elim (fun z => absurd (by rw [q0, z]; rfl) c32) id
      refine And.intro ⟨rfl, rfl, rfl⟩ ?_
      refine And.intro (vp_nI (N := 6) ha (by decide)) ?_
      refine And.intro (by rw [q0]; exact szL z (by omega)) ?_
      refine m_M_ask (by repeat' (first | exact hR | apply OKR.pI | apply OKR.pL | apply OKR.cpI)) (And.intro (by repeat' (first | exact hR | apply OKR.pI | apply OKR.pL | apply OKR.cpI)) ?_)
      refine And.intro trivial ?_
      first | exact hz z | (rw [q0]; exact h z)
  · try dsimp only at c17
    have hk2 : k < n := by have := mt (nI_leI (a := n) (b := k) (by omega) (by omega)).mpr (by rw [← q0]; exact c17); omega
    refine m_M_rowAt (by repeat' (first | exact hR | apply OKR.pI | apply OKR.pL | apply OKR.cpI | apply OKR.wI)) ha (by omega) (And.intro (by repeat' (first | exact hR | apply OKR.pI | apply OKR.pL | apply OKR.cpI | apply OKR.wI)) ?_)
    refine go_eq (ls' := [vo 1 0 0, vi (nI a), vi 0, vl (sm (fun k => gI m (1, 3, 0) (40 * a + k)) (k + 1)), vu, vi (nI (k + 1))]) (by rw [nI_succ]; rfl) rfl (l_M_mean hR ha hn q hz h (k + 1) hk2)
termination_by n - k
decreasing_by omega
theorem p_mean {d : Nat} {m : Mem} {K : Option Vv → Option Vv → Mem → Prop} (R : RelAB m) {r : Int32} (h : ∀ v m', RelAB m' → K v v m') : cW (d + 4) n_X_mean [vo 0 0 0, vi r] m (fun v m1 => cW (d + 4) n_M_mean [vo 1 0 0, vi r] m1 (fun w m2 => K v w m2)) := by
  have hR := R.1
  rcases R.rowCase r with q | ⟨a, ha, rfl, s1, s2⟩ | ⟨a, n, ha, rfl, hn, s1, s2, s3⟩
  · refine w_X_mean (Go.runR (callT_mono MT _) [] 200 (by repeat' (first | exact hR | apply OKR.pI | apply OKR.pL | apply OKR.cpI | apply OKR.wI)) ?_)
    refine m_X_isRow0 (by repeat' (first | exact hR | apply OKR.pI | apply OKR.pL | apply OKR.cpI | apply OKR.wI)) q (And.intro (by repeat' (first | exact hR | apply OKR.pI | apply OKR.pL | apply OKR.cpI | apply OKR.wI)) ?_)
    refine And.intro (fun c3 => ?_) (fun c3 => ?_)
    · try dsimp only at c3
      refine And.intro trivial ?_
      refine w_M_mean (Go.runR (callT_mono MT _) [12] 200 (by repeat' (first | exact hR | apply OKR.pI | apply OKR.pL | apply OKR.cpI | apply OKR.wI)) ?_)
      refine m_M_askedRow0 (by repeat' (first | exact hR | apply OKR.pI | apply OKR.pL | apply OKR.cpI | apply OKR.wI)) q (And.intro (by repeat' (first | exact hR | apply OKR.pI | apply OKR.pL | apply OKR.cpI | apply OKR.wI)) ?_)
      refine And.intro (fun c5 => ?_) (fun c5 => ?_)
      · first | exact absurd c5 (by decide) | exact absurd (by decide) c5 | (exfalso; grind)
      · try dsimp only at c5
        refine And.intro trivial ?_
        exact h _ _ R
    · first | exact absurd c3 (by decide) | exact absurd (by decide) c3 | (exfalso; grind)
  · have e0 : (nI a).toNatClampNeg = a := nI_clamp (by omega)
    refine w_X_mean (Go.runR (callT_mono MT _) [] 200 (by repeat' (first | exact hR | apply OKR.pI | apply OKR.pL | apply OKR.cpI | apply OKR.wI)) ?_)
    refine m_X_isRow1 (by repeat' (first | exact hR | apply OKR.pI | apply OKR.pL | apply OKR.cpI | apply OKR.wI)) ha (And.intro (by repeat' (first | exact hR | apply OKR.pI | apply OKR.pL | apply OKR.cpI | apply OKR.wI)) ?_)
    refine And.intro (fun c3 => ?_) (fun c3 => ?_)
    · first | exact absurd c3 (by decide) | exact absurd (by decide) c3 | (exfalso; grind)
    · try dsimp only at c3
      refine And.intro ⟨(by first | decide | assumption | omega), (by first | decide | assumption | omega)⟩ ?_
      refine And.intro ⟨(vp_nI (N := 6) ha (by decide)), ⟨rfl, by rw [e0]; exact ha⟩⟩ ?_
      rw [show (nI a).toNatClampNeg = a from e0]
      refine m_Ce_isMissing1 (by repeat' (first | exact hR | apply OKR.pI | apply OKR.pL | apply OKR.cpI | apply OKR.wI)) s1 (And.intro (by repeat' (first | exact hR | apply OKR.pI | apply OKR.pL | apply OKR.cpI | apply OKR.wI)) ?_)
      refine And.intro (fun c13 => ?_) (fun c13 => ?_)
      · first | exact absurd c13 (by decide) | exact absurd (by decide) c13 | (exfalso; grind)
      · try dsimp only at c13
        refine m_X_found1 (by repeat' (first | exact hR | apply OKR.pI | apply OKR.pL | apply OKR.cpI | apply OKR.wI))  (And.intro (by repeat' (first | exact hR | apply OKR.pI | apply OKR.pL | apply OKR.cpI | apply OKR.wI)) ?_)
        refine And.intro trivial ?_
        refine w_M_mean (Go.runR (callT_mono MT _) [12] 200 (by repeat' (first | exact hR | apply OKR.pI | apply OKR.pL | apply OKR.cpI | apply OKR.wI)) ?_)
        refine m_M_askedRow1 (by repeat' (first | exact hR | apply OKR.pI | apply OKR.pL | apply OKR.cpI | apply OKR.wI)) ha (by exact s2) (And.intro (by repeat' (first | exact hR | apply OKR.pI | apply OKR.pL | apply OKR.cpI | apply OKR.wI)) ?_)
        refine And.intro (fun c5 => ?_) (fun c5 => ?_)
        · first | exact absurd c5 (by decide) | exact absurd (by decide) c5 | (exfalso; grind)
        · try dsimp only at c5
          refine And.intro trivial ?_
          exact h _ _ (R.meet (by omega) (by omega))
  · have e0 : (nI a).toNatClampNeg = a := nI_clamp (by omega)
    have hl : n ≤ ln (0, 2, a) := by rw [show ln (0, 2, a) = 40 from if_pos ha]; exact hn
    have es := sm_cg (n := n) s3
    rcases Nat.eq_zero_or_pos n with z | z
    · subst z
      refine w_X_mean (Go.runR (callT_mono MT _) [] 200 (by repeat' (first | exact hR | apply OKR.pI | apply OKR.pL | apply OKR.cpI | apply OKR.wI)) ?_)
      refine m_X_isRow1 (by repeat' (first | exact hR | apply OKR.pI | apply OKR.pL | apply OKR.cpI | apply OKR.wI)) ha (And.intro (by repeat' (first | exact hR | apply OKR.pI | apply OKR.pL | apply OKR.cpI | apply OKR.wI)) ?_)
      refine And.intro (fun c3 => ?_) (fun c3 => ?_)
      · first | exact absurd c3 (by decide) | exact absurd (by decide) c3 | (exfalso; grind)
      · try dsimp only at c3
        refine And.intro ⟨(by first | decide | assumption | omega), (by first | decide | assumption | omega)⟩ ?_
        refine And.intro ⟨(vp_nI (N := 6) ha (by decide)), ⟨rfl, by rw [e0]; exact ha⟩⟩ ?_
        rw [show (nI a).toNatClampNeg = a from e0]
        refine m_Ce_isMissing0 (by repeat' (first | exact hR | apply OKR.pI | apply OKR.pL | apply OKR.cpI | apply OKR.wI)) (n := 0) (by omega) s1 (And.intro (by repeat' (first | exact hR | apply OKR.pI | apply OKR.pL | apply OKR.cpI | apply OKR.wI)) ?_)
        refine And.intro (fun c13 => ?_) (fun c13 => ?_)
        · try dsimp only at c13
          refine And.intro (fun c20 => ?_) (fun c20 => ?_)
          · try dsimp only at c20
            refine m_X_found4 (by repeat' (first | exact hR | apply OKR.pI | apply OKR.pL | apply OKR.cpI | apply OKR.wI))  (And.intro (by repeat' (first | exact hR | apply OKR.pI | apply OKR.pL | apply OKR.cpI | apply OKR.wI)) ?_)
            refine And.intro trivial ?_
            refine w_M_mean (Go.runR (callT_mono MT _) [12] 200 (by repeat' (first | exact hR | apply OKR.pI | apply OKR.pL | apply OKR.cpI | apply OKR.wI)) ?_)
            refine m_M_askedRow2 (by repeat' (first | exact hR | apply OKR.pI | apply OKR.pL | apply OKR.cpI | apply OKR.wI)) (n := 0) ha (by omega) (by exact s2) (And.intro (by repeat' (first | exact hR | apply OKR.pI | apply OKR.pL | apply OKR.cpI | apply OKR.wI)) ?_)
            refine And.intro (fun c5 => ?_) (fun c5 => ?_)
            · try dsimp only at c5
              refine go_eq (ls' := [vo 1 0 0, vi (nI a), vi 0, vl (sm (fun k => gI (foundM m 4) (1, 3, 0) (40 * a + k)) 0), vu, vi (nI 0)]) rfl rfl (l_M_mean (m := foundM m 4) hR.pI.pI ha (by omega) s2 (fun _ => h _ _ (R.meet (by omega) (by omega))) (fun y => absurd y (by omega)) 0 (by omega))
            · first | exact absurd c5 (by decide) | exact absurd (by decide) c5 | (exfalso; grind)
          · exact absurd (show gI m (0, 1, a) 1 = 0 from s1) c20
        · first | exact absurd c13 (by decide) | exact absurd (by decide) c13 | (exfalso; grind)
    · refine w_X_mean (Go.runR (callT_mono MT _) [] 200 (by repeat' (first | exact hR | apply OKR.pI | apply OKR.pL | apply OKR.cpI | apply OKR.wI)) ?_)
      refine m_X_isRow1 (by repeat' (first | exact hR | apply OKR.pI | apply OKR.pL | apply OKR.cpI | apply OKR.wI)) ha (And.intro (by repeat' (first | exact hR | apply OKR.pI | apply OKR.pL | apply OKR.cpI | apply OKR.wI)) ?_)
      refine And.intro (fun c3 => ?_) (fun c3 => ?_)
      · first | exact absurd c3 (by decide) | exact absurd (by decide) c3 | (exfalso; grind)
      · try dsimp only at c3
        refine And.intro ⟨(by first | decide | assumption | omega), (by first | decide | assumption | omega)⟩ ?_
        refine And.intro ⟨(vp_nI (N := 6) ha (by decide)), ⟨rfl, by rw [e0]; exact ha⟩⟩ ?_
        rw [show (nI a).toNatClampNeg = a from e0]
        refine m_Ce_isMissing0 (by repeat' (first | exact hR | apply OKR.pI | apply OKR.pL | apply OKR.cpI | apply OKR.wI)) (n := n) (by omega) s1 (And.intro (by repeat' (first | exact hR | apply OKR.pI | apply OKR.pL | apply OKR.cpI | apply OKR.wI)) ?_)
        refine And.intro (fun c13 => ?_) (fun c13 => ?_)
        · try dsimp only at c13
          refine And.intro (fun c20 => ?_) (fun c20 => ?_)
          · exact absurd (by rw [← s1]; exact c20) (sz0 z (by omega))
          · try dsimp only at c20
            refine m_Ce_sum (by repeat' (first | exact hR | apply OKR.pI | apply OKR.pL | apply OKR.cpI | apply OKR.wI)) (n := n) (by omega) hl s1 (And.intro (by repeat' (first | exact hR | apply OKR.pI | apply OKR.pL | apply OKR.cpI | apply OKR.wI)) ?_)
            refine And.intro (by rw [s1]; exact szL z (by omega)) ?_
            refine m_X_tell (by repeat' (first | exact hR | apply OKR.pI | apply OKR.pL | apply OKR.cpI | apply OKR.wI)) (And.intro (by repeat' (first | exact hR | apply OKR.pI | apply OKR.pL | apply OKR.cpI | apply OKR.wI)) ?_)
            refine And.intro trivial ?_
            refine w_M_mean (Go.runR (callT_mono MT _) [12] 200 (by repeat' (first | exact hR | apply OKR.pI | apply OKR.pL | apply OKR.cpI | apply OKR.wI)) ?_)
            refine m_M_askedRow2 (by repeat' (first | exact hR | apply OKR.pI | apply OKR.pL | apply OKR.cpI | apply OKR.wI)) (n := n) ha (by omega) (by exact s2) (And.intro (by repeat' (first | exact hR | apply OKR.pI | apply OKR.pL | apply OKR.cpI | apply OKR.wI)) ?_)
            refine And.intro (fun c5 => ?_) (fun c5 => ?_)
            · try dsimp only at c5
              refine go_eq (ls' := [vo 1 0 0, vi (nI a), vi 0, vl (sm (fun k => gI m (1, 3, 0) (40 * a + k)) 0), vu, vi (nI 0)]) rfl rfl (l_M_mean (n := n) hR.pI ha hn (by exact s2) (fun y => absurd y (by omega)) (fun _ => ?_) 0 (by omega))
              rw [s1, es]
              exact h _ _ (R.tell _)
            · first | exact absurd c5 (by decide) | exact absurd (by decide) c5 | (exfalso; grind)
        · first | exact absurd c13 (by decide) | exact absurd (by decide) c13 | (exfalso; grind)
