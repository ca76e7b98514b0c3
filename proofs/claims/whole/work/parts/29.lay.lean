/-! Written by a program (wip/whole/p29.py): lay. -/
theorem RelAB.placeCase {n : Nat} (hn : n ≤ 80) (i : Int32) : ¬ (0 ≤ i ∧ i < nI n) ∨ ∃ j, j < n ∧ i = nI j := by
  by_cases h : 0 ≤ i ∧ i < nI n
  · obtain ⟨j, hj, rfl⟩ := nI_of (Int32.not_lt.mpr h.1)
    exact Or.inr ⟨j, (nI_ltI hj (by omega)).mp h.2, rfl⟩
  · exact Or.inl h
theorem place_in {j n : Nat} (h : j < n) (hn : n ≤ 80) : 0 ≤ nI j ∧ nI j < nI n := ⟨nI_pos' (by omega), nI_lt h (by omega)⟩
theorem m_X_refusal1 {d : Nat} {m : Mem} {K : Option Vv → Mem → Prop} (hR : OKR m) {c : Nat} {i : Int32} (q : gI m (0, 1, c) 1 = -1) (h : K (some (vi (-3))) (foundM m 1)) : cW (d + 3) n_X_refusalOfPlace [vo 0 0 0, vo 0 1 c, vi i] m K := m_X_refusalOfPlace hR (fun _ => h) (fun z => absurd q z) (fun z => absurd q z)
theorem m_X_refusal2 {d : Nat} {m : Mem} {K : Option Vv → Mem → Prop} (hR : OKR m) {c n : Nat} {i : Int32} (hn : n ≤ 80) (q : gI m (0, 1, c) 1 = nI n) (hi : ¬ (0 ≤ i ∧ i < nI n)) (h : K (some (vi (-3))) (foundM m 2)) : cW (d + 3) n_X_refusalOfPlace [vo 0 0 0, vo 0 1 c, vi i] m K := m_X_refusalOfPlace hR (fun z => absurd (q.symm.trans z) (szneg hn).2.2) (fun _ _ => h) (fun _ z => absurd (by rw [q] at z; exact z) hi)
theorem m_X_refusal0 {d : Nat} {m : Mem} {K : Option Vv → Mem → Prop} (hR : OKR m) {c n j : Nat} (hn : n ≤ 80) (q : gI m (0, 1, c) 1 = nI n) (hj : j < n) (h : K (some (vi 0)) m) : cW (d + 3) n_X_refusalOfPlace [vo 0 0 0, vo 0 1 c, vi (nI j)] m K := m_X_refusalOfPlace hR (fun z => absurd (q.symm.trans z) (szneg hn).2.2) (fun _ z => absurd (by rw [q]; exact place_in hj hn) z) (fun _ _ => h)
theorem m_Ce_get1 {d : Nat} {m : Mem} {K : Option Vv → Mem → Prop} (hR : OKR m) {c n j : Nat} (hc : c < 10) (hn : n ≤ ln (0, 2, c)) (q : gI m (0, 1, c) 1 = nI n) (hj : j < n) (h : K (some (vi (gI m (0, 2, c) j))) m) : cW (d + 2) n_Ce_get [vo 0 1 c, vi (nI j)] m K := by
  have h80 := ln2_le c
  refine m_Ce_get hR hc (by rw [q]; exact nI_le hn (by omega)) (kvi ?_ h)
  rw [if_pos (by rw [q]; exact place_in hj (by omega)), nI_clamp (by omega)]
theorem m_M_at0 {d : Nat} {m : Mem} {K : Option Vv → Mem → Prop} (hR : OKR m) (hs : ∀ a, a < 6 → gI m (1, 2, 0) a ≤ nI 40) {r i : Int32} (q : ¬ (0 ≤ r ∧ r ≤ 5)) (h : K (some (vi (-1))) m) : cW (d + 4) n_M_at [vo 1 0 0, vi r, vi i] m K :=
  m_M_at hR hs (fun _ => h) (fun b hb e => absurd (by rw [e]; exact isrow_in hb) q) (fun b hb e => absurd (by rw [e]; exact isrow_in hb) q) (fun b j hb hj e => absurd (by rw [e]; exact isrow_in hb) q)
theorem m_M_at1 {d : Nat} {m : Mem} {K : Option Vv → Mem → Prop} (hR : OKR m) (hs : ∀ a, a < 6 → gI m (1, 2, 0) a ≤ nI 40) {a : Nat} {i : Int32} (ha : a < 6) (q : gI m (1, 2, 0) a = -9) (h : K (some (vi (-3))) (meetM m 1)) : cW (d + 4) n_M_at [vo 1 0 0, vi (nI a), vi i] m K :=
  m_M_at hR hs (fun z => absurd (isrow_in ha) z) (fun b hb e z => h) (fun b hb e z => by obtain rfl := nI_in1 (by omega) (by omega) e; rw [q] at z; exact absurd z (by decide)) (fun b j hb hj e e2 z => by
    obtain rfl := nI_in1 (by omega) (by omega) e
    rw [q] at z
    exact absurd (Int32.lt_of_le_of_lt (nI_pos' (n := j) (by omega)) z) (by decide))
theorem m_M_at2 {d : Nat} {m : Mem} {K : Option Vv → Mem → Prop} (hR : OKR m) (hs : ∀ a, a < 6 → gI m (1, 2, 0) a ≤ nI 40) {a n : Nat} {i : Int32} (ha : a < 6) (hn : n ≤ 40) (q : gI m (1, 2, 0) a = nI n) (hi : ¬ (0 ≤ i ∧ i < nI n)) (h : K (some (vi (-3))) (meetM m 2)) : cW (d + 4) n_M_at [vo 1 0 0, vi (nI a), vi i] m K :=
  m_M_at hR hs (fun z => absurd (isrow_in ha) z) (fun b hb e z => by obtain rfl := nI_in1 (by omega) (by omega) e; rw [q] at z; exact absurd z (szneg (by omega)).1) (fun b hb e z y => h) (fun b j hb hj e e2 z => by
    obtain rfl := nI_in1 (by omega) (by omega) e
    rw [q] at z
    exact absurd ⟨by rw [e2]; exact nI_pos' (by omega), by rw [e2]; exact z⟩ hi)
theorem m_M_at3 {d : Nat} {m : Mem} {K : Option Vv → Mem → Prop} (hR : OKR m) (hs : ∀ a, a < 6 → gI m (1, 2, 0) a ≤ nI 40) {a n j : Nat} (ha : a < 6) (hn : n ≤ 40) (q : gI m (1, 2, 0) a = nI n) (hj : j < n) (h : K (some (vi 1)) (askM m (gI m (1, 3, 0) (40 * a + j)))) : cW (d + 4) n_M_at [vo 1 0 0, vi (nI a), vi (nI j)] m K :=
  m_M_at hR hs (fun z => absurd (isrow_in ha) z) (fun b hb e z => by obtain rfl := nI_in1 (by omega) (by omega) e; rw [q] at z; exact absurd z (szneg (by omega)).1) (fun b hb e z y => by obtain rfl := nI_in1 (by omega) (by omega) e; rw [q] at y; exact absurd (place_in hj (by omega)) y) (fun b l hb hl e e2 z => by
    obtain rfl := nI_in1 (by omega) (by omega) e
    obtain rfl := nI_in1 (by omega) (by omega) e2
    exact h)

theorem m_Ce_set1 {d : Nat} {m : Mem} {K : Option Vv → Mem → Prop} (hR : OKR m) {c n j : Nat} {v : Int32} (hc : c < 10) (hn : n ≤ ln (0, 2, c)) (q : gI m (0, 1, c) 1 = nI n) (hj : j < n) (h : K none (pI m (0, 2, c) j v)) : cW (d + 2) n_Ce_set [vo 0 1 c, vi (nI j), vi v] m K := by
  have h80 := ln2_le c
  have e0 : (nI j).toNatClampNeg = j := nI_clamp (by omega)
  refine w_Ce_set (Go.runR (callT_mono MT _) [] 200 hR ?_)
  refine m_Ce_has (by repeat' (first | exact hR | apply OKR.pI | apply OKR.pL | apply OKR.cpI | apply OKR.wI)) (And.intro (by repeat' (first | exact hR | apply OKR.pI | apply OKR.pL | apply OKR.cpI | apply OKR.wI)) ?_)
  rw [show b2 (0 ≤ nI j ∧ nI j < gI m (0, 1, c) 1) = 1 from if_pos (by rw [q]; exact place_in hj (by omega))]
  refine And.intro (fun c3 => ?_) (fun c3 => ?_)
  · first | exact absurd c3 (by decide) | exact absurd (by decide) c3 | (exfalso; grind)
  · try dsimp only at c3
    refine And.intro ⟨(by first | decide | assumption | omega), (by first | decide | assumption | omega)⟩ ?_
    refine And.intro (vp_nI (by omega) (ln2_lt c)) ?_
    refine And.intro trivial ?_
    rw [e0]
    exact h

theorem pI_comm1 (m : Mem) (t i k : Nat) (v : Int32) (t' i' k' : Nat) (v' : Int32) (h : t ≠ t') : pI (pI m (1, t, i) k v) (1, t', i') k' v' = pI (pI m (1, t', i') k' v') (1, t, i) k v := by
  refine Prod.ext rfl (Prod.ext (Prod.ext ?_ rfl) rfl)
  funext a b c
  show (if a = t' ∧ b = i' ∧ c = k' then v' else if a = t ∧ b = i ∧ c = k then v else m.2.1.1 a b c) = if a = t ∧ b = i ∧ c = k then v else if a = t' ∧ b = i' ∧ c = k' then v' else m.2.1.1 a b c
  grind
theorem RelAB.lay {m : Mem} (R : RelAB m) {a n j : Nat} {v w : Int32} (ha : a < 6) (hn : n ≤ 40) (hj : j < n) (s : gI m (0, 1, a) 1 = nI n) (e : gI m (0, 2, a) j = w) : RelAB (pI (askM (tellM (pI m (0, 2, a) j v) w) w) (1, 3, 0) (40 * a + j) v) := by
  have R2 : RelAB (pI (pI m (0, 2, a) j v) (1, 3, 0) (40 * a + j) v) := by
    refine R.cells R.1.pI.pI ?_ ?_ (fun t i q h1 h2 => ?_) (fun t i q h1 h2 h3 h4 h5 => ?_) (fun o q => by rw [gL_pI, gL_pI]) (fun o q => by rw [gR_pI, gR_pI])
    · intro r hr
      have e3 : ∀ k, gI (pI (pI m (0, 2, a) j v) (1, 3, 0) (40 * a + j) v) (0, 2, r) k = if r = a ∧ k = j then v else gI m (0, 2, r) k := fun k => by rw [rd10, rd00]; simp
      have e4 : ∀ k, gI (pI (pI m (0, 2, a) j v) (1, 3, 0) (40 * a + j) v) (1, 3, 0) k = if k = 40 * a + j then v else gI m (1, 3, 0) k := fun k => by rw [rd11, rd01]; simp
      rcases R.2.1 r hr with q | ⟨l, q1, q2, q3, q4⟩
      · exact Or.inl q
      · refine Or.inr ⟨l, q1, q2, q3, fun k hk => ?_⟩
        rw [e3, e4, q4 k hk]
        by_cases h : r = a ∧ k = j
        · rw [if_pos h, if_pos (by omega)]
        · rw [if_neg h, if_neg (by omega)]
    · refine TextsR.cg (m := m) (fun r => rfl) (fun r k => ?_) (fun k => rfl) (fun k => rfl) R.2.2.1
      rw [rd10, rd00, if_neg (by omega)]
    · rw [rd10, rd00, if_neg (by omega)]
    · rw [rd11, rd01, if_neg (by omega)]
  unfold askM
  rw [pI_comm1 _ 0 0 2 w 3 0 (40 * a + j) v (by decide)]
  exact R2.tell w

theorem p_lay {d : Nat} {m : Mem} {K : Option Vv → Option Vv → Mem → Prop} (R : RelAB m) {r i v : Int32} (h : ∀ v m', RelAB m' → K v v m') : cW (d + 5) n_X_lay [vo 0 0 0, vi r, vi i, vi v] m (fun v' m1 => cW (d + 5) n_M_lay [vo 1 0 0, vi r, vi i, vi v] m1 (fun w m2 => K v' w m2)) := by
  have hR := R.1
  have hA := R.2.1.le2
  rcases R.rowCase r with q | ⟨a, ha, rfl, s1, s2⟩ | ⟨a, n, ha, rfl, hn, s1, s2, s3⟩
  · refine w_X_lay (Go.runR (callT_mono MT _) [] 200 (by repeat' (first | exact hR | apply OKR.pI | apply OKR.pL | apply OKR.cpI | apply OKR.wI)) ?_)
    refine m_X_isRow0 (by repeat' (first | exact hR | apply OKR.pI | apply OKR.pL | apply OKR.cpI | apply OKR.wI)) q (And.intro (by repeat' (first | exact hR | apply OKR.pI | apply OKR.pL | apply OKR.cpI | apply OKR.wI)) ?_)
    refine And.intro (fun c3 => ?_) (fun c3 => ?_)
    · try dsimp only at c3
      refine And.intro trivial ?_
      refine w_M_lay (Go.runR (callT_mono MT _) [] 200 (by repeat' (first | exact hR | apply OKR.pI | apply OKR.pL | apply OKR.cpI | apply OKR.wI)) ?_)
      refine m_M_at0 (by repeat' (first | exact hR | apply OKR.pI | apply OKR.pL | apply OKR.cpI | apply OKR.wI)) hA q (And.intro (by repeat' (first | exact hR | apply OKR.pI | apply OKR.pL | apply OKR.cpI | apply OKR.wI)) ?_)
      refine And.intro (fun c6 => ?_) (fun c6 => ?_)
      · first | exact absurd c6 (by decide) | exact absurd (by decide) c6 | (exfalso; grind)
      · try dsimp only at c6
        refine And.intro trivial ?_
        exact h _ _ R
    · first | exact absurd c3 (by decide) | exact absurd (by decide) c3 | (exfalso; grind)
  · have e0 : (nI a).toNatClampNeg = a := nI_clamp (by omega)
    refine w_X_lay (Go.runR (callT_mono MT _) [] 200 (by repeat' (first | exact hR | apply OKR.pI | apply OKR.pL | apply OKR.cpI | apply OKR.wI)) ?_)
    refine m_X_isRow1 (by repeat' (first | exact hR | apply OKR.pI | apply OKR.pL | apply OKR.cpI | apply OKR.wI)) ha (And.intro (by repeat' (first | exact hR | apply OKR.pI | apply OKR.pL | apply OKR.cpI | apply OKR.wI)) ?_)
    refine And.intro (fun c3 => ?_) (fun c3 => ?_)
    · first | exact absurd c3 (by decide) | exact absurd (by decide) c3 | (exfalso; grind)
    · try dsimp only at c3
      refine And.intro ⟨(by first | decide | assumption | omega), (by first | decide | assumption | omega)⟩ ?_
      refine And.intro ⟨(vp_nI (N := 6) ha (by decide)), ⟨rfl, by rw [e0]; exact ha⟩⟩ ?_
      rw [show (nI a).toNatClampNeg = a from e0]
      refine m_X_refusal1 (by repeat' (first | exact hR | apply OKR.pI | apply OKR.pL | apply OKR.cpI | apply OKR.wI)) s1 (And.intro (by repeat' (first | exact hR | apply OKR.pI | apply OKR.pL | apply OKR.cpI | apply OKR.wI)) ?_)
      refine And.intro (fun c15 => ?_) (fun c15 => ?_)
      · first | exact absurd c15 (by decide) | exact absurd (by decide) c15 | (exfalso; grind)
      · try dsimp only at c15
        refine And.intro trivial ?_
        refine w_M_lay (Go.runR (callT_mono MT _) [] 200 (by repeat' (first | exact hR | apply OKR.pI | apply OKR.pL | apply OKR.cpI | apply OKR.wI)) ?_)
        refine m_M_at1 (by repeat' (first | exact hR | apply OKR.pI | apply OKR.pL | apply OKR.cpI | apply OKR.wI)) (by exact hA) ha (by exact s2) (And.intro (by repeat' (first | exact hR | apply OKR.pI | apply OKR.pL | apply OKR.cpI | apply OKR.wI)) ?_)
        refine And.intro (fun c6 => ?_) (fun c6 => ?_)
        · first | exact absurd c6 (by decide) | exact absurd (by decide) c6 | (exfalso; grind)
        · try dsimp only at c6
          refine And.intro trivial ?_
          exact h _ _ (R.meet (by omega) (by omega))
  · have e0 : (nI a).toNatClampNeg = a := nI_clamp (by omega)
    have hl : n ≤ ln (0, 2, a) := by rw [show ln (0, 2, a) = 40 from if_pos ha]; exact hn
    rcases RelAB.placeCase (n := n) (by omega) i with q | ⟨j, hj, rfl⟩
    · refine w_X_lay (Go.runR (callT_mono MT _) [] 200 (by repeat' (first | exact hR | apply OKR.pI | apply OKR.pL | apply OKR.cpI | apply OKR.wI)) ?_)
      refine m_X_isRow1 (by repeat' (first | exact hR | apply OKR.pI | apply OKR.pL | apply OKR.cpI | apply OKR.wI)) ha (And.intro (by repeat' (first | exact hR | apply OKR.pI | apply OKR.pL | apply OKR.cpI | apply OKR.wI)) ?_)
      refine And.intro (fun c3 => ?_) (fun c3 => ?_)
      · first | exact absurd c3 (by decide) | exact absurd (by decide) c3 | (exfalso; grind)
      · try dsimp only at c3
        refine And.intro ⟨(by first | decide | assumption | omega), (by first | decide | assumption | omega)⟩ ?_
        refine And.intro ⟨(vp_nI (N := 6) ha (by decide)), ⟨rfl, by rw [e0]; exact ha⟩⟩ ?_
        rw [show (nI a).toNatClampNeg = a from e0]
        refine m_X_refusal2 (by repeat' (first | exact hR | apply OKR.pI | apply OKR.pL | apply OKR.cpI | apply OKR.wI)) (n := n) (by omega) s1 q (And.intro (by repeat' (first | exact hR | apply OKR.pI | apply OKR.pL | apply OKR.cpI | apply OKR.wI)) ?_)
        refine And.intro (fun c15 => ?_) (fun c15 => ?_)
        · first | exact absurd c15 (by decide) | exact absurd (by decide) c15 | (exfalso; grind)
        · try dsimp only at c15
          refine And.intro trivial ?_
          refine w_M_lay (Go.runR (callT_mono MT _) [] 200 (by repeat' (first | exact hR | apply OKR.pI | apply OKR.pL | apply OKR.cpI | apply OKR.wI)) ?_)
          refine m_M_at2 (by repeat' (first | exact hR | apply OKR.pI | apply OKR.pL | apply OKR.cpI | apply OKR.wI)) (by exact hA) (n := n) ha hn (by exact s2) q (And.intro (by repeat' (first | exact hR | apply OKR.pI | apply OKR.pL | apply OKR.cpI | apply OKR.wI)) ?_)
          refine And.intro (fun c6 => ?_) (fun c6 => ?_)
          · first | exact absurd c6 (by decide) | exact absurd (by decide) c6 | (exfalso; grind)
          · try dsimp only at c6
            refine And.intro trivial ?_
            exact h _ _ (R.meet (by omega) (by omega))
    · refine w_X_lay (Go.runR (callT_mono MT _) [] 200 (by repeat' (first | exact hR | apply OKR.pI | apply OKR.pL | apply OKR.cpI | apply OKR.wI)) ?_)
      refine m_X_isRow1 (by repeat' (first | exact hR | apply OKR.pI | apply OKR.pL | apply OKR.cpI | apply OKR.wI)) ha (And.intro (by repeat' (first | exact hR | apply OKR.pI | apply OKR.pL | apply OKR.cpI | apply OKR.wI)) ?_)
      refine And.intro (fun c3 => ?_) (fun c3 => ?_)
      · first | exact absurd c3 (by decide) | exact absurd (by decide) c3 | (exfalso; grind)
      · try dsimp only at c3
        refine And.intro ⟨(by first | decide | assumption | omega), (by first | decide | assumption | omega)⟩ ?_
        refine And.intro ⟨(vp_nI (N := 6) ha (by decide)), ⟨rfl, by rw [e0]; exact ha⟩⟩ ?_
        rw [show (nI a).toNatClampNeg = a from e0]
        refine m_X_refusal0 (by repeat' (first | exact hR | apply OKR.pI | apply OKR.pL | apply OKR.cpI | apply OKR.wI)) (n := n) (by omega) s1 hj (And.intro (by repeat' (first | exact hR | apply OKR.pI | apply OKR.pL | apply OKR.cpI | apply OKR.wI)) ?_)
        refine And.intro (fun c15 => ?_) (fun c15 => ?_)
        · try dsimp only at c15
          refine And.intro ⟨(by first | decide | assumption | omega), (by first | decide | assumption | omega)⟩ ?_
          refine And.intro ⟨(vp_nI (N := 6) ha (by decide)), ⟨rfl, by rw [e0]; exact ha⟩⟩ ?_
          rw [show (nI a).toNatClampNeg = a from e0]
          refine m_Ce_get1 (by repeat' (first | exact hR | apply OKR.pI | apply OKR.pL | apply OKR.cpI | apply OKR.wI)) (n := n) (by omega) hl s1 hj (And.intro (by repeat' (first | exact hR | apply OKR.pI | apply OKR.pL | apply OKR.cpI | apply OKR.wI)) ?_)
          refine And.intro ⟨(by first | decide | assumption | omega), (by first | decide | assumption | omega)⟩ ?_
          refine And.intro ⟨(vp_nI (N := 6) ha (by decide)), ⟨rfl, by rw [e0]; exact ha⟩⟩ ?_
          rw [show (nI a).toNatClampNeg = a from e0]
          refine m_Ce_set1 (by repeat' (first | exact hR | apply OKR.pI | apply OKR.pL | apply OKR.cpI | apply OKR.wI)) (n := n) (by omega) hl (by exact s1) hj (And.intro (by repeat' (first | exact hR | apply OKR.pI | apply OKR.pL | apply OKR.cpI | apply OKR.wI)) ?_)
          refine m_X_tell (by repeat' (first | exact hR | apply OKR.pI | apply OKR.pL | apply OKR.cpI | apply OKR.wI)) (And.intro (by repeat' (first | exact hR | apply OKR.pI | apply OKR.pL | apply OKR.cpI | apply OKR.wI)) ?_)
          refine And.intro trivial ?_
          refine w_M_lay (Go.runR (callT_mono MT _) [] 200 (by repeat' (first | exact hR | apply OKR.pI | apply OKR.pL | apply OKR.cpI | apply OKR.wI)) ?_)
          rw [s3 j hj]
          refine m_M_at3 (by repeat' (first | exact hR | apply OKR.pI | apply OKR.pL | apply OKR.cpI | apply OKR.wI)) (by exact hA) (n := n) ha hn (by exact s2) hj (And.intro (by repeat' (first | exact hR | apply OKR.pI | apply OKR.pL | apply OKR.cpI | apply OKR.wI)) ?_)
          refine And.intro (fun c6 => ?_) (fun c6 => ?_)
          · try dsimp only at c6
            refine m_M_setRow (by repeat' (first | exact hR | apply OKR.pI | apply OKR.pL | apply OKR.cpI | apply OKR.wI)) ha (by omega) (And.intro (by repeat' (first | exact hR | apply OKR.pI | apply OKR.pL | apply OKR.cpI | apply OKR.wI)) ?_)
            refine And.intro trivial ?_
            exact h _ _ (R.lay ha hn hj s1 (s3 j hj))
          · first | exact absurd c6 (by decide) | exact absurd (by decide) c6 | (exfalso; grind)
        · first | exact absurd c15 (by decide) | exact absurd (by decide) c15 | (exfalso; grind)
