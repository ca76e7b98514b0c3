/-! Written by a program (wip/whole/p62.py): what a call writes; undo. -/
/-- m' is m but for ints of the objects of the tags a (the class) and b (the reference) -/
def Nx (a b : List Nat) (m m' : Mem) : Prop := OKR m' ∧ (∀ o k, gR m' o k = gR m o k) ∧ (∀ o k, gL m' o k = gL m o k) ∧ (∀ t i k, t ∉ a → gI m' (0, t, i) k = gI m (0, t, i) k) ∧ ∀ t i k, t ∉ b → gI m' (1, t, i) k = gI m (1, t, i) k
theorem Nx.refl {a b : List Nat} {m : Mem} (h : OKR m) : Nx a b m m := ⟨h, fun _ _ => rfl, fun _ _ => rfl, fun _ _ _ _ => rfl, fun _ _ _ _ => rfl⟩
theorem Nx.ok {a b : List Nat} {m m' : Mem} (h : Nx a b m m') : OKR m' := h.1
theorem Nx.p0 {a b : List Nat} {m m' : Mem} (h : Nx a b m m') {t i k : Nat} {v : Int32} (ht : t ∈ a) : Nx a b m (pI m' (0, t, i) k v) :=
  ⟨h.1.pI, fun o k => (gR_pI ..).trans (h.2.1 o k), fun o k => (gL_pI ..).trans (h.2.2.1 o k), fun t' i' k' q => by
    rw [rd00, if_neg (fun z : t' = t ∧ i' = i ∧ k' = k => q (z.1 ▸ ht))]; exact h.2.2.2.1 t' i' k' q, fun t' i' k' q => h.2.2.2.2 t' i' k' q⟩
theorem Nx.p1 {a b : List Nat} {m m' : Mem} (h : Nx a b m m') {t i k : Nat} {v : Int32} (ht : t ∈ b) : Nx a b m (pI m' (1, t, i) k v) :=
  ⟨h.1.pI, fun o k => (gR_pI ..).trans (h.2.1 o k), fun o k => (gL_pI ..).trans (h.2.2.1 o k), fun t' i' k' q => h.2.2.2.1 t' i' k' q, fun t' i' k' q => by
    rw [rd11, if_neg (fun z : t' = t ∧ i' = i ∧ k' = k => q (z.1 ▸ ht))]; exact h.2.2.2.2 t' i' k' q⟩
theorem Nx.kn {a b : List Nat} {m m' : Mem} (h : Nx a b m m') (i : Nat) : kn m' i = kn m i := kn_cg h.2.1 i
/-- the class's part of undo -/
def BkA (m0 m : Mem) (j k : Nat) : Prop := Nx [5, 8] [] m0 m ∧ (∀ s q, gI m (0, 5, s) q = if s = 0 ∧ q = 7 then gI m0 (0, 10, j) 3 else if s = 0 ∧ q = 8 then gI m0 (0, 10, j) 4 else gI m0 (0, 5, s) q) ∧ ∀ i q, gI m (0, 8, i) q = if i < k ∧ q = 3 then gI m0 (0, 11, j) i else gI m0 (0, 8, i) q
def BkZ (n : Nat) (m0 m : Mem) (j : Nat) : Prop := Nx [5, 8] [] m0 m ∧ (∀ s q, gI m (0, 5, s) q = if s = 0 ∧ q = 4 then nI j else if s = 0 ∧ q = 7 then gI m0 (0, 10, j) 3 else if s = 0 ∧ q = 8 then gI m0 (0, 10, j) 4 else gI m0 (0, 5, s) q) ∧ ∀ i q, gI m (0, 8, i) q = if i < n ∧ q = 3 then gI m0 (0, 11, j) i else gI m0 (0, 8, i) q

theorem l_St_goBackTo {d n : Nat} {m0 : Mem} {K : Option Vv → Mem → Prop} {j : Nat} (h8 : n ≤ 8) (hj : j < 40) (q1 : gI m0 (0, 5, 0) 3 = nI n) (h : ∀ m, BkZ n m0 m j → K none m) (k : Nat) (m : Mem) (H : BkA m0 m j k) (hk : k ≤ n) : Go (cW d) i_St_goBackTo (0, 0) K 22 [vo 0 5 0, vi (nI j), vo 0 10 j, vi (nI k)] [] m 0 0 := by
  have hR := H.1.ok
  have qn : gI m (0, 5, 0) 3 = nI n := by rw [H.2.1]; exact q1
  have e0 : (nI k).toNatClampNeg = k := nI_clamp (by omega)
  refine Go.runR (callT_mono MT _) [22] 200 hR ?_
  refine And.intro (fun c25 => ?_) (fun c25 => ?_)
  · try dsimp only at c25
    obtain rfl := lq_e c25 qn rfl hk (by omega)
    refine And.intro trivial ?_
    refine h _ ⟨H.1.p0 (by decide), fun s q => ?_, H.2.2⟩
    rw [rd00, H.2.1]
    by_cases z : s = 0 ∧ q = 4
    · rw [if_pos z, if_pos ⟨rfl, z.1, z.2⟩]
    · rw [if_neg z, if_neg (fun y => z ⟨y.2.1, y.2.2⟩)]
  · try dsimp only at c25
    have hk2 := lq_m c25 qn rfl hk (by omega)
    refine And.intro ⟨(by first | decide | assumption | omega), (by first | decide | assumption | omega)⟩ ?_
    refine And.intro ⟨(vp_nI (k := k) (N := 8) (by omega) (by decide)), ⟨(by decide), by rw [e0]; omega⟩⟩ ?_
    refine And.intro ⟨(by first | decide | assumption | omega), (by first | decide | assumption | omega)⟩ ?_
    refine And.intro (vp_nI (k := k) (N := 8) (by omega) (by decide)) ?_
    refine go_eq (ls' := [vo 0 5 0, vi (nI j), vo 0 10 j, vi (nI (k + 1))]) (by rw [nI_succ]; rfl) rfl (l_St_goBackTo h8 hj q1 h (k + 1) _ ⟨H.1.p0 (by decide), H.2.1, fun i q => ?_⟩ hk2)
    rw [rd00, e0, show 8 * 0 + k = k by omega, H.2.2]
    have e1 : gI m (0, 11, j) k = gI m0 (0, 11, j) k := H.1.2.2.2.1 11 j k (by decide)
    by_cases z : i = k ∧ q = 3
    · rw [if_pos ⟨rfl, z.1, z.2⟩, if_pos ⟨by omega, z.2⟩, e1, z.1]
    · rw [if_neg (fun y => z ⟨y.2.1, y.2.2⟩)]
      by_cases y : i < k ∧ q = 3
      · rw [if_pos y, if_pos ⟨by omega, y.2⟩]
      · rw [if_neg y, if_neg (fun x => by omega)]
termination_by n - k
decreasing_by all_goals omega

theorem m_St_goBackTo1 {d n T : Nat} {m : Mem} {K : Option Vv → Mem → Prop} {u : Int32} {j : Nat} (hR : OKR m) (h8 : n ≤ 8) (hT : T ≤ 40) (hu : u = nI j) (hj : j < T) (q1 : gI m (0, 5, 0) 3 = nI n) (q4 : gI m (0, 5, 0) 4 = nI T) (h : ∀ m', BkZ n m m' j → K none m') : cW (d + 1) n_St_goBackTo [vo 0 5 0, vi u] m K := by
  subst hu
  have e0 : (nI j).toNatClampNeg = j := nI_clamp (by omega)
  refine w_St_goBackTo (Go.runR (callT_mono MT _) [22] 200 hR ?_)
  refine And.intro (fun c1 => ?_) (fun c1 => ?_)
  · exact absurd c1 (nI_pos (by omega))
  · try dsimp only at c1
    refine And.intro (fun c5 => ?_) (fun c5 => ?_)
    · try dsimp only at c5
      refine And.intro ⟨(by first | decide | assumption | omega), (by first | decide | assumption | omega)⟩ ?_
      refine And.intro ⟨(vp_nI (k := j) (N := 40) (by omega) (by decide)), ⟨(by decide), by rw [e0]; omega⟩⟩ ?_
      refine go_eq (ls' := [vo 0 5 0, vi (nI j), vo 0 10 j, vi (nI 0)]) (by rw [e0]; show [vo 0 5 0, vi (nI j), vo 0 10 (40 * 0 + j), vi 0] = _; rw [show 40 * 0 + j = j by omega]; rfl) rfl (l_St_goBackTo (m0 := m) h8 (by omega) q1 h 0 _ ⟨((Nx.refl hR).p0 (by decide)).p0 (by decide), fun s q => ?_, fun i q => ?_⟩ (Nat.zero_le _))
      · rw [e0, show 40 * 0 + j = j by omega, rd00]
        by_cases z : s = 0 ∧ q = 8
        · rw [if_pos ⟨rfl, z.1, z.2⟩, if_neg (by omega : ¬ (s = 0 ∧ q = 7)), if_pos z, rd00, if_neg (by omega)]
        · rw [if_neg (fun y => z ⟨y.2.1, y.2.2⟩), rd00]
          by_cases y : s = 0 ∧ q = 7
          · rw [if_pos ⟨rfl, y.1, y.2⟩, if_pos y]
          · rw [if_neg (fun x => y ⟨x.2.1, x.2.2⟩), if_neg y, if_neg z]
      · rw [if_neg (by omega)]
        rfl
    · exact absurd (by show nI j < gI m (0, 5, 0) 4; rw [q4]; exact nI_lt hj (by omega)) c5

theorem m_St_goBackTo0 {d T : Nat} {m : Mem} {K : Option Vv → Mem → Prop} {u : Int32} (hR : OKR m) (hT : T ≤ 40) (hu : u = nI T) (q4 : gI m (0, 5, 0) 4 = nI T) (h : K none m) : cW (d + 1) n_St_goBackTo [vo 0 5 0, vi u] m K := by
  subst hu
  refine w_St_goBackTo (Go.runR (callT_mono MT _) [22] 200 hR ?_)
  refine And.intro (fun c1 => ?_) (fun c1 => ?_)
  · exact absurd c1 (nI_pos (by omega))
  · try dsimp only at c1
    refine And.intro (fun c5 => ?_) (fun c5 => ?_)
    · exact absurd c5 (by show ¬ nI T < gI m (0, 5, 0) 4; rw [q4]; exact nI_nlt (Nat.le_refl _) (by omega))
    · try dsimp only at c5
      refine And.intro trivial ?_
      exact h

def BkB (m0 m : Mem) (j k : Nat) : Prop := Nx [] [0, 10] m0 m ∧ (∀ q, gI m (1, 0, 0) q = if q = 21 then gI m0 (1, 12, 0) (12 * j + 2) else if q = 22 then gI m0 (1, 12, 0) (12 * j + 3) else gI m0 (1, 0, 0) q) ∧ ∀ i, gI m (1, 10, 0) i = if i < k then gI m0 (1, 12, 0) (12 * j + 4 + i) else gI m0 (1, 10, 0) i
def BkY (m0 m : Mem) (j : Nat) : Prop := Nx [] [0, 10] m0 m ∧ (∀ q, gI m (1, 0, 0) q = if q = 20 then nI j else if q = 21 then gI m0 (1, 12, 0) (12 * j + 2) else if q = 22 then gI m0 (1, 12, 0) (12 * j + 3) else gI m0 (1, 0, 0) q) ∧ ∀ i, gI m (1, 10, 0) i = if i < 8 then gI m0 (1, 12, 0) (12 * j + 4 + i) else gI m0 (1, 10, 0) i
theorem pk4 (a k : Nat) : nI a + 4 + nI k = nI (a + 4 + k) := by rw [show (4 : Int32) = nI 4 from rfl, nI_add, nI_add]

theorem l_M_undo {d : Nat} {m0 : Mem} {K : Option Vv → Mem → Prop} {j : Nat} {w : Int32} (hj : j < 40) (h : ∀ m, BkY m0 m j → K (some (vi w)) m) (k : Nat) (m : Mem) (H : BkB m0 m j k) (hk : k ≤ 8) : Go (cW d) i_M_undo (0, 0) K 37 [vo 1 0 0, vi (nI j), vi w, vi (nI (12 * j)), vi (nI k)] [] m 0 0 := by
  have hR := H.1.ok
  have e0 : (nI k).toNatClampNeg = k := nI_clamp (by omega)
  refine Go.runR (callT_mono MT _) [37] 200 hR ?_
  refine And.intro (fun c39 => ?_) (fun c39 => ?_)
  · try dsimp only at c39
    obtain rfl := lq_e (n := 8) c39 rfl rfl hk (by omega)
    refine And.intro trivial ?_
    refine h _ ⟨H.1.p1 (by decide), fun q => ?_, H.2.2⟩
    rw [rd11, H.2.1]
    by_cases z : q = 20
    · rw [if_pos z, if_pos ⟨rfl, rfl, z⟩]
    · rw [if_neg z, if_neg (fun y => z y.2.2)]
  · try dsimp only at c39
    have hk2 := lq_m (n := 8) c39 rfl rfl hk (by omega)
    refine And.intro ⟨rfl, rfl, rfl⟩ ?_
    refine And.intro ⟨rfl, rfl, rfl⟩ ?_
    refine And.intro (by show vp_in (nI (12 * j) + 4 + nI k) 480; rw [pk4]; exact vp_nI (by omega) (by decide)) ?_
    refine And.intro (by first | exact vp_nI (k := k) (N := 8) (by omega) (by decide) | (show vp_in (nI (12 * j) + 4 + nI k) 480; rw [pk4]; exact vp_nI (by omega) (by decide))) ?_
    refine go_eq (ls' := [vo 1 0 0, vi (nI j), vi w, vi (nI (12 * j)), vi (nI (k + 1))]) (by rw [nI_succ]; rfl) rfl (l_M_undo hj h (k + 1) _ ⟨H.1.p1 (by decide), H.2.1, fun i => ?_⟩ hk2)
    have ep : (nI (12 * j) + 4 + nI k).toNatClampNeg = 12 * j + 4 + k := by rw [pk4, nI_clamp (by omega)]
    rw [rd11, e0]
    dsimp only
    rw [ep, H.2.2]
    have e1 : gI m (1, 12, 0) (12 * j + 4 + k) = gI m0 (1, 12, 0) (12 * j + 4 + k) := H.1.2.2.2.2 12 0 _ (by decide)
    by_cases z : i = k
    · rw [if_pos ⟨rfl, rfl, z⟩, if_pos (by omega), e1, z]
    · rw [if_neg (fun y => z y.2.2)]
      by_cases y : i < k
      · rw [if_pos y, if_pos (by omega)]
      · rw [if_neg y, if_neg (by omega)]
termination_by 8 - k
decreasing_by all_goals omega

theorem CurR.pos {n T : Nat} {m : Mem} (H : CurR n m) (hT : 0 < T) (h : T ≤ 40) (q : gI m (0, 5, 0) 4 = nI T) : 0 < n := by
  rcases Nat.eq_zero_or_pos n with z | z
  · exact absurd (q.symm.trans (H.2.2.1 z).2.1) (sz0 hT (by omega))
  · exact z
theorem RelAB.undo {n T j : Nat} {m m1 m2 : Mem} (R : RelAB m) (hc : CurR n m) (hn : 0 < n) (hT : T ≤ 40) (q4 : gI m (0, 5, 0) 4 = nI T) (hj : j < T) (A : BkZ n m m1 j) (B : BkY m1 m2 j) : RelAB m2 := by
  have hh := hc
  obtain ⟨h8, hm, -, h1⟩ := hc
  obtain ⟨hl, ⟨T', s1, s2⟩, hk⟩ := h1 hn
  obtain ⟨a1, a2, a3, a4, a5, a6, a7, a8, a9⟩ := s2
  obtain rfl : T' = T := nI_in1 (by omega) (by omega) (a2.symm.trans q4)
  have k2 : ∀ i, kn m2 i = kn m i := fun i => (B.1.kn i).trans (A.1.kn i)
  have c0 : ∀ t i k, t ≠ 5 → t ≠ 8 → gI m2 (0, t, i) k = gI m (0, t, i) k := fun t i k h5 h8 => (B.1.2.2.2.1 t i k (by simp)).trans (A.1.2.2.2.1 t i k (by simp [h5, h8]))
  have c1 : ∀ t k, t ≠ 0 → t ≠ 10 → gI m2 (1, t, 0) k = gI m (1, t, 0) k := fun t k h0 h10 => (B.1.2.2.2.2 t 0 k (by simp [h0, h10])).trans (A.1.2.2.2.2 t 0 k (by simp))
  have c5 : ∀ s q, gI m2 (0, 5, s) q = if s = 0 ∧ q = 4 then nI j else if s = 0 ∧ q = 7 then gI m (0, 10, j) 3 else if s = 0 ∧ q = 8 then gI m (0, 10, j) 4 else gI m (0, 5, s) q := fun s q => (B.1.2.2.2.1 5 s q (by simp)).trans (A.2.1 s q)
  have c8 : ∀ i q, gI m2 (0, 8, i) q = if i < n ∧ q = 3 then gI m (0, 11, j) i else gI m (0, 8, i) q := fun i q => (B.1.2.2.2.1 8 i q (by simp)).trans (A.2.2 i q)
  have n12 : ∀ q, gI m1 (1, 12, 0) q = gI m (1, 12, 0) q := fun q => A.1.2.2.2.2 12 0 q (by simp)
  have n0 : ∀ q, gI m1 (1, 0, 0) q = gI m (1, 0, 0) q := fun q => A.1.2.2.2.2 0 0 q (by simp)
  have d0 : ∀ q, gI m2 (1, 0, 0) q = if q = 20 then nI j else if q = 21 then gI m (1, 12, 0) (12 * j + 2) else if q = 22 then gI m (1, 12, 0) (12 * j + 3) else gI m (1, 0, 0) q := fun q => by rw [B.2.1 q, n12, n12, n0]
  have d10 : ∀ i, i < 8 → gI m2 (1, 10, 0) i = gI m (1, 12, 0) (12 * j + 4 + i) := fun i hi => by rw [B.2.2 i, if_pos hi, n12]
  have hr := a9 j hj
  rw [show 40 * 0 + j = j by omega] at hr
  obtain ⟨r1, r2, r3, r4, r5, r6⟩ := hr
  refine R.ofCur (n := n) B.1.ok ⟨h8, by rw [d0]; exact hm, fun z => absurd z (by omega), fun _ => ⟨LoudR.cg (m := m) h8 k2 (fun i => c1 7 i (by omega) (by omega)) (fun i => c1 8 i (by omega) (by omega)) (fun i _ => by rw [c8, if_neg (by omega)]) (by rw [c5]; simp) (by rw [d0]; simp) hl, ⟨j, by rw [d0]; simp, ?_⟩, fun k hk3 => KeptR.cg (m := m) h8 (fun q => by rw [c5, if_neg (by omega), if_neg (by omega), if_neg (by omega)]) (fun i q _ => by rw [c8, if_neg (by omega)]) (fun t q _ => c0 10 _ _ (by omega) (by omega)) (fun t q _ => c0 11 _ _ (by omega) (by omega)) (fun t q _ => c0 13 _ _ (by omega) (by omega)) (fun q => c1 13 q (by omega) (by omega)) k2 (fun i _ => by rw [c8, if_neg (by omega)]) (by rw [c5]; simp) (hk k hk3)⟩⟩ (fun t i k q => c0 t i k (by omega) (by omega)) (fun t k q => c1 t k (by omega) (by omega)) ?_
  · refine ⟨by rw [c5]; simp [a1], by rw [c5]; simp, by omega, ⟨by rw [c5, d0]; simp [a4.1], by rw [d0]; simp only [show ¬ (11 = 20) by decide, show ¬ (11 = 21) by decide, show ¬ (11 = 22) by decide, if_false]; exact a4.2⟩, ⟨by rw [c5, d0]; simp; exact r3, by rw [d0]; simp only [show ¬ (21 = 20) by decide, if_false, if_true]; exact r4⟩, by rw [c5, d0]; simp; exact r5, fun i hi => ?_, fun i k hi hk => ?_, fun t ht => ?_⟩
    · have := a7 i hi
      unfold HoR at *
      rw [show 8 * 0 + i = i by omega] at *
      rw [c8, c8, c8, if_neg (by omega), if_pos ⟨hi, rfl⟩, if_neg (by omega), c1 9 i (by omega) (by omega), c1 11 i (by omega) (by omega), d10 i (by omega)]
      refine ⟨this.1, this.2.1, ?_, this.2.2.2⟩
      rw [r6 i hi]
      show gI m (1, 12, 0) (12 * j + (4 + i)) = _
      rw [show 12 * j + (4 + i) = 12 * j + 4 + i by omega]
    · rw [c0 13 _ _ (by omega) (by omega), c1 18 _ (by omega) (by omega)]
      exact a8 i k hi hk
    · have := a9 t (by omega)
      unfold HrR at *
      simp only [c0 10 _ _ (by omega) (by omega), c0 11 _ _ (by omega) (by omega), c1 12 _ (by omega) (by omega)]
      exact this
  · have d := R.2.2.2.1
    unfold TellR at *
    rw [c0 0 0 7 (by omega) (by omega), c0 0 0 8 (by omega) (by omega), d0, d0, B.1.2.2.1, B.1.2.2.1, B.1.2.2.1, B.1.2.2.1, A.1.2.2.1, A.1.2.2.1, A.1.2.2.1, A.1.2.2.1, c0 15 0 0 (by omega) (by omega), c0 16 0 0 (by omega) (by omega)]
    refine ⟨d.1, d.2.1, fun f f1 f5 => ?_, d.2.2.2⟩
    rw [c0 19 0 f (by omega) (by omega), c1 1 f (by omega) (by omega)]
    exact d.2.2.1 f f1 f5

theorem p_undo {d : Nat} {m : Mem} {K : Option Vv → Option Vv → Mem → Prop} (R : RelAB m) {v : Int32} (h : ∀ v m', RelAB m' → K v v m') : cW (d + 5) n_X_undo [vo 0 0 0, vi v] m (fun u m1 => cW (d + 5) n_M_undo [vo 1 0 0, vi v] m1 (fun w m2 => K u w m2)) := by
  have hR := R.1
  obtain ⟨n, hc⟩ := R.2.2.2.2
  obtain ⟨D, hS⟩ := hc.sc hR
  have ht := R.2.2.2.1
  obtain ⟨q1, q2⟩ := hc.many
  have h8 := hc.le
  obtain ⟨T, hT, t1, t2, t3⟩ := hc.hrs
  by_cases q : 0 ≤ v ∧ v ≤ nI T
  · obtain ⟨j, hjm, rfl⟩ := nI_of (Int32.not_lt.mpr q.1)
    have hjT : j ≤ T := (nI_leI hjm (by omega)).mp q.2
    rcases Nat.lt_or_ge j T with z | z
    · have hn := hc.pos (by omega) hT t1
      refine w_X_undo (Go.runR (callT_mono MT _) [] 200 (by repeat' (first | exact hR | exact g1.ok | exact g2.ok | exact g3.ok | apply OKR.pI | apply OKR.pL | apply OKR.cpI | apply OKR.wI)) ?_)
      refine And.intro ⟨(by first | decide | assumption | omega), (by first | decide | assumption | omega)⟩ ?_
      refine m_X_isWithin (by repeat' (first | exact hR | exact g1.ok | exact g2.ok | exact g3.ok | apply OKR.pI | apply OKR.pL | apply OKR.cpI | apply OKR.wI)) (And.intro (by repeat' (first | exact hR | exact g1.ok | exact g2.ok | exact g3.ok | apply OKR.pI | apply OKR.pL | apply OKR.cpI | apply OKR.wI)) ?_)
      rw [show b2 (0 ≤ nI j ∧ nI j ≤ gI m (0, 5, 0) 4) = 1 from if_pos (by rw [t1]; exact q)]
      refine And.intro (fun c6 => ?_) (fun c6 => ?_)
      · first | exact absurd c6 (by decide) | exact absurd (by decide) c6 | (exfalso; grind)
      · try dsimp only at c6
        refine And.intro ⟨(by first | decide | assumption | omega), (by first | decide | assumption | omega)⟩ ?_
        refine And.intro ⟨(by first | decide | assumption | omega), (by first | decide | assumption | omega)⟩ ?_
        refine m_St_goBackTo1 (by repeat' (first | exact hR | exact g1.ok | exact g2.ok | exact g3.ok | apply OKR.pI | apply OKR.pL | apply OKR.cpI | apply OKR.wI)) h8 hT rfl z q1 t1 (fun m1 A => And.intro A.1.ok ?_)
        have g1 := A.1
        have t2b : gI m1 (1, 0, 0) 20 = nI T := (A.1.2.2.2.2 0 0 20 (by simp)).trans t2
        refine And.intro trivial ?_
        refine w_M_undo (Go.runR (callT_mono MT _) [37] 200 (by repeat' (first | exact hR | exact g1.ok | exact g2.ok | exact g3.ok | apply OKR.pI | apply OKR.pL | apply OKR.cpI | apply OKR.wI)) ?_)
        refine m_M_in (by repeat' (first | exact hR | exact g1.ok | exact g2.ok | exact g3.ok | apply OKR.pI | apply OKR.pL | apply OKR.cpI | apply OKR.wI)) (And.intro (by repeat' (first | exact hR | exact g1.ok | exact g2.ok | exact g3.ok | apply OKR.pI | apply OKR.pL | apply OKR.cpI | apply OKR.wI)) ?_)
        rw [show b2 (0 ≤ nI j ∧ nI j ≤ gI m1 (1, 0, 0) 20) = 1 from if_pos (by rw [t2b]; exact q)]
        refine And.intro (fun c5 => ?_) (fun c5 => ?_)
        · first | exact absurd c5 (by decide) | exact absurd (by decide) c5 | (exfalso; grind)
        · try dsimp only at c5
          refine And.intro (fun c14 => ?_) (fun c14 => ?_)
          · exact absurd c14 (by show ¬ gI m1 (1, 0, 0) 20 - nI j ≤ 0; rw [t2b, pk_sub (by omega)]; exact nI_nle (by omega) (by omega))
          · try dsimp only at c14
            refine And.intro ⟨rfl, rfl, rfl⟩ ?_
            refine And.intro (by show vp_in (12 * nI j + 2) 480; rw [pk12, show (2 : Int32) = nI 2 from rfl, nI_add]; exact vp_nI (by omega) (by decide)) ?_
            refine And.intro ⟨rfl, rfl, rfl⟩ ?_
            refine And.intro (by show vp_in (12 * nI j + 3) 480; rw [pk12, show (3 : Int32) = nI 3 from rfl, nI_add]; exact vp_nI (by omega) (by decide)) ?_
            refine go_eq (ls' := [vo 1 0 0, vi (nI j), vi (gI m1 (1, 0, 0) 20 - nI j), vi (nI (12 * j)), vi (nI 0)]) (by rw [← pk12]; rfl) rfl (l_M_undo (m0 := m1) (by omega) (fun m2 B => ?_) 0 _ ⟨((Nx.refl A.1.ok).p1 (by decide)).p1 (by decide), fun q => ?_, fun i => ?_⟩ (by omega))
            · rw [t1, t2b]
              exact h _ _ (R.undo hc hn hT t1 z A B)
            · have ep2 : ((12 : Int32) * nI j + 2).toNatClampNeg = 12 * j + 2 := by rw [pk12, show (2 : Int32) = nI 2 from rfl, nI_add, nI_clamp (by omega)]
              have ep3 : ((12 : Int32) * nI j + 3).toNatClampNeg = 12 * j + 3 := by rw [pk12, show (3 : Int32) = nI 3 from rfl, nI_add, nI_clamp (by omega)]
              rw [rd11]
              dsimp only
              rw [ep2, ep3]
              by_cases y : q = 22
              · rw [if_pos ⟨rfl, rfl, y⟩, if_neg (by omega : ¬ q = 21), if_pos y, rd11, if_neg (by omega)]
              · rw [if_neg (fun x => y x.2.2), rd11]
                by_cases x : q = 21
                · rw [if_pos ⟨rfl, rfl, x⟩, if_pos x]
                · rw [if_neg (fun w => x w.2.2), if_neg x, if_neg y]
            · rw [if_neg (by omega)]
              rfl
    · obtain rfl : j = T := by omega
      refine w_X_undo (Go.runR (callT_mono MT _) [] 200 (by repeat' (first | exact hR | exact g1.ok | exact g2.ok | exact g3.ok | apply OKR.pI | apply OKR.pL | apply OKR.cpI | apply OKR.wI)) ?_)
      refine And.intro ⟨(by first | decide | assumption | omega), (by first | decide | assumption | omega)⟩ ?_
      refine m_X_isWithin (by repeat' (first | exact hR | exact g1.ok | exact g2.ok | exact g3.ok | apply OKR.pI | apply OKR.pL | apply OKR.cpI | apply OKR.wI)) (And.intro (by repeat' (first | exact hR | exact g1.ok | exact g2.ok | exact g3.ok | apply OKR.pI | apply OKR.pL | apply OKR.cpI | apply OKR.wI)) ?_)
      rw [show b2 (0 ≤ nI j ∧ nI j ≤ gI m (0, 5, 0) 4) = 1 from if_pos (by rw [t1]; exact q)]
      refine And.intro (fun c6 => ?_) (fun c6 => ?_)
      · first | exact absurd c6 (by decide) | exact absurd (by decide) c6 | (exfalso; grind)
      · try dsimp only at c6
        refine And.intro ⟨(by first | decide | assumption | omega), (by first | decide | assumption | omega)⟩ ?_
        refine And.intro ⟨(by first | decide | assumption | omega), (by first | decide | assumption | omega)⟩ ?_
        refine m_St_goBackTo0 (by repeat' (first | exact hR | exact g1.ok | exact g2.ok | exact g3.ok | apply OKR.pI | apply OKR.pL | apply OKR.cpI | apply OKR.wI)) hT rfl t1 (And.intro (by repeat' (first | exact hR | exact g1.ok | exact g2.ok | exact g3.ok | apply OKR.pI | apply OKR.pL | apply OKR.cpI | apply OKR.wI)) ?_)
        refine And.intro trivial ?_
        refine w_M_undo (Go.runR (callT_mono MT _) [37] 200 (by repeat' (first | exact hR | exact g1.ok | exact g2.ok | exact g3.ok | apply OKR.pI | apply OKR.pL | apply OKR.cpI | apply OKR.wI)) ?_)
        refine m_M_in (by repeat' (first | exact hR | exact g1.ok | exact g2.ok | exact g3.ok | apply OKR.pI | apply OKR.pL | apply OKR.cpI | apply OKR.wI)) (And.intro (by repeat' (first | exact hR | exact g1.ok | exact g2.ok | exact g3.ok | apply OKR.pI | apply OKR.pL | apply OKR.cpI | apply OKR.wI)) ?_)
        rw [show b2 (0 ≤ nI j ∧ nI j ≤ gI m (1, 0, 0) 20) = 1 from if_pos (by rw [t2]; exact q)]
        refine And.intro (fun c5 => ?_) (fun c5 => ?_)
        · first | exact absurd c5 (by decide) | exact absurd (by decide) c5 | (exfalso; grind)
        · try dsimp only at c5
          refine And.intro (fun c14 => ?_) (fun c14 => ?_)
          · try dsimp only at c14
            refine And.intro trivial ?_
            rw [t1, t2]
            exact h _ _ R
          · exact absurd (by show gI m (1, 0, 0) 20 - nI j ≤ 0; rw [t2, Int32.sub_self]; decide) c14
  · refine w_X_undo (Go.runR (callT_mono MT _) [] 200 (by repeat' (first | exact hR | exact g1.ok | exact g2.ok | exact g3.ok | apply OKR.pI | apply OKR.pL | apply OKR.cpI | apply OKR.wI)) ?_)
    refine And.intro ⟨(by first | decide | assumption | omega), (by first | decide | assumption | omega)⟩ ?_
    refine m_X_isWithin (by repeat' (first | exact hR | exact g1.ok | exact g2.ok | exact g3.ok | apply OKR.pI | apply OKR.pL | apply OKR.cpI | apply OKR.wI)) (And.intro (by repeat' (first | exact hR | exact g1.ok | exact g2.ok | exact g3.ok | apply OKR.pI | apply OKR.pL | apply OKR.cpI | apply OKR.wI)) ?_)
    rw [show b2 (0 ≤ v ∧ v ≤ gI m (0, 5, 0) 4) = 0 from if_neg (by rw [t1]; exact q)]
    refine And.intro (fun c6 => ?_) (fun c6 => ?_)
    · try dsimp only at c6
      refine And.intro trivial ?_
      refine w_M_undo (Go.runR (callT_mono MT _) [37] 200 (by repeat' (first | exact hR | exact g1.ok | exact g2.ok | exact g3.ok | apply OKR.pI | apply OKR.pL | apply OKR.cpI | apply OKR.wI)) ?_)
      refine m_M_in (by repeat' (first | exact hR | exact g1.ok | exact g2.ok | exact g3.ok | apply OKR.pI | apply OKR.pL | apply OKR.cpI | apply OKR.wI)) (And.intro (by repeat' (first | exact hR | exact g1.ok | exact g2.ok | exact g3.ok | apply OKR.pI | apply OKR.pL | apply OKR.cpI | apply OKR.wI)) ?_)
      rw [show b2 (0 ≤ v ∧ v ≤ gI m (1, 0, 0) 20) = 0 from if_neg (by rw [t2]; exact q)]
      refine And.intro (fun c5 => ?_) (fun c5 => ?_)
      · try dsimp only at c5
        refine And.intro trivial ?_
        exact h _ _ R
      · first | exact absurd c5 (by decide) | exact absurd (by decide) c5 | (exfalso; grind)
    · first | exact absurd c6 (by decide) | exact absurd (by decide) c6 | (exfalso; grind)
