/-! Written by a program (wip/whole/p32.py): texts, case by case; put. -/
theorem RelAB.textCase {m : Mem} (R : RelAB m) (r : Int32) : ¬ (0 ≤ r ∧ r ≤ 3) ∨ (∃ a, a < 4 ∧ r = nI a ∧ gI m (0, 1, 6 + a) 1 = -1 ∧ gI m (1, 5, 0) a = -9) ∨ ∃ a n, a < 4 ∧ r = nI a ∧ n ≤ 80 ∧ gI m (0, 1, 6 + a) 1 = nI n ∧ gI m (1, 5, 0) a = nI n ∧ ∀ k, k < n → gI m (0, 2, 6 + a) k = gI m (1, 6, 0) (80 * a + k) := by
  by_cases h : 0 ≤ r ∧ r ≤ 3
  · obtain ⟨a, ha, rfl⟩ := text_of2 h
    rcases R.2.2.1 a ha with q | ⟨n, q⟩
    · exact Or.inr (Or.inl ⟨a, ha, rfl, q.1, q.2⟩)
    · exact Or.inr (Or.inr ⟨a, n, ha, rfl, q⟩)
  · exact Or.inl h
theorem m_X_isText1 {d : Nat} {m : Mem} {K : Option Vv → Mem → Prop} (hR : OKR m) {a : Nat} (ha : a < 4) (h : K (some (vi 1)) m) : cW (d + 1) n_X_isText [vo 0 0 0, vi (nI a)] m K := m_X_isText hR (kvi (if_pos (istext_in ha)) h)
theorem m_X_isText0 {d : Nat} {m : Mem} {K : Option Vv → Mem → Prop} (hR : OKR m) {r : Int32} (q : ¬ (0 ≤ r ∧ r ≤ 3)) (h : K (some (vi 0)) m) : cW (d + 1) n_X_isText [vo 0 0 0, vi r] m K := m_X_isText hR (kvi (if_neg q) h)
theorem fa4 : nI 4 = 4 := rfl

theorem m_M_askedText {d : Nat} {m : Mem} {K : Option Vv → Mem → Prop} (hR : OKR m) {r : Int32} (hb : ¬ (0 ≤ r ∧ r ≤ 3) → K (some (vi (-1))) m) (hm : (0 ≤ r ∧ r ≤ 3) → gI m (1, 5, 0) r.toNatClampNeg < 0 → K (some (vi (-3))) (meetM m 1)) (h : (0 ≤ r ∧ r ≤ 3) → 0 ≤ gI m (1, 5, 0) r.toNatClampNeg → K (some (vi 0)) m) : cW (d + 3) n_M_askedText [vo 1 0 0, vi r] m K := by
  refine w_M_askedText (Go.runR (callT_mono MT _) [] 200 hR ?_)
  refine m_M_isText (by repeat' (first | exact hR | apply OKR.pI | apply OKR.pL | apply OKR.cpI)) (And.intro (by repeat' (first | exact hR | apply OKR.pI | apply OKR.pL | apply OKR.cpI)) ?_)
  refine And.intro (fun c2 => ?_) (fun c2 => ?_)
  · try dsimp only at c2
    refine And.intro trivial ?_
    first | exact hb (by grind) | exact hm (by grind) (by grind) | exact h (by grind) (by grind)
  · try dsimp only at c2
    refine And.intro ⟨rfl, rfl, rfl⟩ ?_
    refine And.intro (vp_lt (N := 4) (by grind) (by grind [fa4]) (by decide)) ?_
    refine And.intro (fun c9 => ?_) (fun c9 => ?_)
    · try dsimp only at c9
      refine And.intro trivial ?_
      first | exact hb (by grind) | exact hm (by grind) (by grind) | exact h (by grind) (by grind)
    · try dsimp only at c9
      refine m_M_meet1 (by repeat' (first | exact hR | apply OKR.pI | apply OKR.pL | apply OKR.cpI | apply OKR.wI)) (And.intro (by repeat' (first | exact hR | apply OKR.pI | apply OKR.pL | apply OKR.cpI | apply OKR.wI)) ?_)
      refine And.intro trivial ?_
      first | exact hb (by grind) | exact hm (by grind) (by grind) | exact h (by grind) (by grind)

theorem m_M_askedText0 {d : Nat} {m : Mem} {K : Option Vv → Mem → Prop} (hR : OKR m) {r : Int32} (q : ¬ (0 ≤ r ∧ r ≤ 3)) (h : K (some (vi (-1))) m) : cW (d + 3) n_M_askedText [vo 1 0 0, vi r] m K := m_M_askedText hR (fun _ => h) (fun z _ => absurd z q) (fun z _ => absurd z q)
theorem m_M_askedText1 {d : Nat} {m : Mem} {K : Option Vv → Mem → Prop} (hR : OKR m) {a : Nat} (ha : a < 4) (q : gI m (1, 5, 0) a = -9) (h : K (some (vi (-3))) (meetM m 1)) : cW (d + 3) n_M_askedText [vo 1 0 0, vi (nI a)] m K := m_M_askedText hR (fun z => absurd (istext_in ha) z) (fun _ _ => h) (fun _ z => by rw [nI_clamp (by omega), q] at z; exact absurd z (by decide))
theorem m_M_askedText2 {d : Nat} {m : Mem} {K : Option Vv → Mem → Prop} (hR : OKR m) {a n : Nat} (ha : a < 4) (hn : n ≤ 80) (q : gI m (1, 5, 0) a = nI n) (h : K (some (vi 0)) m) : cW (d + 3) n_M_askedText [vo 1 0 0, vi (nI a)] m K := m_M_askedText hR (fun z => absurd (istext_in ha) z) (fun _ z => by rw [nI_clamp (by omega), q] at z; exact absurd z (szneg hn).1) (fun _ _ => h)
theorem sub1_in {i : Int32} {n : Nat} (hn : n ≤ 80) : (0 ≤ i ∧ i ≤ nI n - 1) ↔ (0 ≤ i ∧ i < nI n) := by
  have h0 := nI_pos' (n := n) (by omega)
  grind
theorem RelAB.put {m : Mem} (R : RelAB m) {a n j : Nat} {v : Int32} (ha : a < 4) (hn : n ≤ 80) (hj : j < n) (s : gI m (0, 1, 6 + a) 1 = nI n) : RelAB (pI (pI m (0, 2, 6 + a) j v) (1, 6, 0) (80 * a + j) v) := by
  refine R.cells R.1.pI.pI ?_ ?_ (fun t i q h1 h2 => ?_) (fun t i q h1 h2 h3 h4 h5 => ?_) (fun o q => by rw [gL_pI, gL_pI]) (fun o q => by rw [gR_pI, gR_pI])
  · refine RowsR.cg (m := m) (fun r _ => rfl) (fun r k hr => ?_) (fun k => rfl) (fun k => rfl) R.2.1
    rw [rd10, rd00, if_neg (by omega)]
  · intro r hr
    have e3 : ∀ k, gI (pI (pI m (0, 2, 6 + a) j v) (1, 6, 0) (80 * a + j) v) (0, 2, 6 + r) k = if r = a ∧ k = j then v else gI m (0, 2, 6 + r) k := fun k => by rw [rd10, rd00]; simp
    have e4 : ∀ k, gI (pI (pI m (0, 2, 6 + a) j v) (1, 6, 0) (80 * a + j) v) (1, 6, 0) k = if k = 80 * a + j then v else gI m (1, 6, 0) k := fun k => by rw [rd11, rd01]; simp
    rcases R.2.2.1 r hr with q | ⟨l, q1, q2, q3, q4⟩
    · exact Or.inl q
    · refine Or.inr ⟨l, q1, q2, q3, fun k hk => ?_⟩
      rw [e3, e4, q4 k hk]
      by_cases h : r = a ∧ k = j
      · rw [if_pos h, if_pos (by omega)]
      · rw [if_neg h, if_neg (by omega)]
  · rw [rd10, rd00, if_neg (by omega)]
  · rw [rd11, rd01, if_neg (by omega)]

theorem p_put {d : Nat} {m : Mem} {K : Option Vv → Option Vv → Mem → Prop} (R : RelAB m) {r i v : Int32} (h : ∀ v m', RelAB m' → K v v m') : cW (d + 5) n_X_put [vo 0 0 0, vi r, vi i, vi v] m (fun v' m1 => cW (d + 5) n_M_put [vo 1 0 0, vi r, vi i, vi v] m1 (fun w m2 => K v' w m2)) := by
  have hR := R.1
  rcases R.textCase r with q | ⟨a, ha, rfl, s1, s2⟩ | ⟨a, n, ha, rfl, hn, s1, s2, s3⟩
  · refine w_X_put (Go.runR (callT_mono MT _) [] 200 (by repeat' (first | exact hR | apply OKR.pI | apply OKR.pL | apply OKR.cpI | apply OKR.wI)) ?_)
    refine m_X_isText0 (by repeat' (first | exact hR | apply OKR.pI | apply OKR.pL | apply OKR.cpI | apply OKR.wI)) q (And.intro (by repeat' (first | exact hR | apply OKR.pI | apply OKR.pL | apply OKR.cpI | apply OKR.wI)) ?_)
    refine And.intro (fun c3 => ?_) (fun c3 => ?_)
    · try dsimp only at c3
      refine And.intro trivial ?_
      refine w_M_put (Go.runR (callT_mono MT _) [] 200 (by repeat' (first | exact hR | apply OKR.pI | apply OKR.pL | apply OKR.cpI | apply OKR.wI)) ?_)
      refine m_M_askedText0 (by repeat' (first | exact hR | apply OKR.pI | apply OKR.pL | apply OKR.cpI | apply OKR.wI)) q (And.intro (by repeat' (first | exact hR | apply OKR.pI | apply OKR.pL | apply OKR.cpI | apply OKR.wI)) ?_)
      refine And.intro (fun c5 => ?_) (fun c5 => ?_)
      · first | exact absurd c5 (by decide) | exact absurd (by decide) c5 | (exfalso; grind)
      · try dsimp only at c5
        refine And.intro trivial ?_
        exact h _ _ R
    · first | exact absurd c3 (by decide) | exact absurd (by decide) c3 | (exfalso; grind)
  · have e0 : (nI a).toNatClampNeg = a := nI_clamp (by omega)
    refine w_X_put (Go.runR (callT_mono MT _) [] 200 (by repeat' (first | exact hR | apply OKR.pI | apply OKR.pL | apply OKR.cpI | apply OKR.wI)) ?_)
    refine m_X_isText1 (by repeat' (first | exact hR | apply OKR.pI | apply OKR.pL | apply OKR.cpI | apply OKR.wI)) ha (And.intro (by repeat' (first | exact hR | apply OKR.pI | apply OKR.pL | apply OKR.cpI | apply OKR.wI)) ?_)
    refine And.intro (fun c3 => ?_) (fun c3 => ?_)
    · first | exact absurd c3 (by decide) | exact absurd (by decide) c3 | (exfalso; grind)
    · try dsimp only at c3
      refine And.intro ⟨(by first | decide | assumption | omega), (by first | decide | assumption | omega)⟩ ?_
      refine And.intro ⟨(vp_nI (N := 4) ha (by decide)), ⟨rfl, by rw [e0]; exact ha⟩⟩ ?_
      rw [show (nI a).toNatClampNeg = a from e0]
      refine m_X_refusal1 (by repeat' (first | exact hR | apply OKR.pI | apply OKR.pL | apply OKR.cpI | apply OKR.wI)) s1 (And.intro (by repeat' (first | exact hR | apply OKR.pI | apply OKR.pL | apply OKR.cpI | apply OKR.wI)) ?_)
      refine And.intro (fun c15 => ?_) (fun c15 => ?_)
      · first | exact absurd c15 (by decide) | exact absurd (by decide) c15 | (exfalso; grind)
      · try dsimp only at c15
        refine And.intro trivial ?_
        refine w_M_put (Go.runR (callT_mono MT _) [] 200 (by repeat' (first | exact hR | apply OKR.pI | apply OKR.pL | apply OKR.cpI | apply OKR.wI)) ?_)
        refine m_M_askedText1 (by repeat' (first | exact hR | apply OKR.pI | apply OKR.pL | apply OKR.cpI | apply OKR.wI)) ha (by exact s2) (And.intro (by repeat' (first | exact hR | apply OKR.pI | apply OKR.pL | apply OKR.cpI | apply OKR.wI)) ?_)
        refine And.intro (fun c5 => ?_) (fun c5 => ?_)
        · first | exact absurd c5 (by decide) | exact absurd (by decide) c5 | (exfalso; grind)
        · try dsimp only at c5
          refine And.intro trivial ?_
          exact h _ _ (R.meet (by omega) (by omega))
  · have e0 : (nI a).toNatClampNeg = a := nI_clamp (by omega)
    have hl : n ≤ ln (0, 2, 6 + a) := by rw [show ln (0, 2, 6 + a) = 80 from if_neg (show ¬ 6 + a < 6 by omega)]; exact hn
    rcases RelAB.placeCase (n := n) (by omega) i with q | ⟨j, hj, rfl⟩
    · refine w_X_put (Go.runR (callT_mono MT _) [] 200 (by repeat' (first | exact hR | apply OKR.pI | apply OKR.pL | apply OKR.cpI | apply OKR.wI)) ?_)
      refine m_X_isText1 (by repeat' (first | exact hR | apply OKR.pI | apply OKR.pL | apply OKR.cpI | apply OKR.wI)) ha (And.intro (by repeat' (first | exact hR | apply OKR.pI | apply OKR.pL | apply OKR.cpI | apply OKR.wI)) ?_)
      refine And.intro (fun c3 => ?_) (fun c3 => ?_)
      · first | exact absurd c3 (by decide) | exact absurd (by decide) c3 | (exfalso; grind)
      · try dsimp only at c3
        refine And.intro ⟨(by first | decide | assumption | omega), (by first | decide | assumption | omega)⟩ ?_
        refine And.intro ⟨(vp_nI (N := 4) ha (by decide)), ⟨rfl, by rw [e0]; exact ha⟩⟩ ?_
        rw [show (nI a).toNatClampNeg = a from e0]
        refine m_X_refusal2 (by repeat' (first | exact hR | apply OKR.pI | apply OKR.pL | apply OKR.cpI | apply OKR.wI)) (n := n) (by omega) s1 q (And.intro (by repeat' (first | exact hR | apply OKR.pI | apply OKR.pL | apply OKR.cpI | apply OKR.wI)) ?_)
        refine And.intro (fun c15 => ?_) (fun c15 => ?_)
        · first | exact absurd c15 (by decide) | exact absurd (by decide) c15 | (exfalso; grind)
        · try dsimp only at c15
          refine And.intro trivial ?_
          refine w_M_put (Go.runR (callT_mono MT _) [] 200 (by repeat' (first | exact hR | apply OKR.pI | apply OKR.pL | apply OKR.cpI | apply OKR.wI)) ?_)
          refine m_M_askedText2 (by repeat' (first | exact hR | apply OKR.pI | apply OKR.pL | apply OKR.cpI | apply OKR.wI)) (n := n) ha hn (by exact s2) (And.intro (by repeat' (first | exact hR | apply OKR.pI | apply OKR.pL | apply OKR.cpI | apply OKR.wI)) ?_)
          refine And.intro (fun c5 => ?_) (fun c5 => ?_)
          · try dsimp only at c5
            refine And.intro ⟨rfl, rfl, rfl⟩ ?_
            refine And.intro (vp_nI (N := 4) ha (by decide)) ?_
            refine m_M_in (by repeat' (first | exact hR | apply OKR.pI | apply OKR.pL | apply OKR.cpI | apply OKR.wI)) (And.intro (by repeat' (first | exact hR | apply OKR.pI | apply OKR.pL | apply OKR.cpI | apply OKR.wI)) ?_)
            rw [show b2 (0 ≤ i ∧ i ≤ gI (foundM m 2) (1, 5, 0) (nI a).toNatClampNeg - 1) = 0 from if_neg (by rw [e0, show gI (foundM m 2) (1, 5, 0) a = nI n from s2, sub1_in (by omega)]; exact q)]
            refine And.intro (fun c17 => ?_) (fun c17 => ?_)
            · try dsimp only at c17
              refine m_M_meet2 (by repeat' (first | exact hR | apply OKR.pI | apply OKR.pL | apply OKR.cpI | apply OKR.wI))  (And.intro (by repeat' (first | exact hR | apply OKR.pI | apply OKR.pL | apply OKR.cpI | apply OKR.wI)) ?_)
              refine And.intro trivial ?_
              exact h _ _ (R.meet (by omega) (by omega))
            · first | exact absurd c17 (by decide) | exact absurd (by decide) c17 | (exfalso; grind)
          · first | exact absurd c5 (by decide) | exact absurd (by decide) c5 | (exfalso; grind)
    · have e1 : (80 : Int32) * nI a + nI j = nI (80 * a + j) := by rw [show (80 : Int32) = nI 80 from rfl, pk_mul, nI_add]
      refine w_X_put (Go.runR (callT_mono MT _) [] 200 (by repeat' (first | exact hR | apply OKR.pI | apply OKR.pL | apply OKR.cpI | apply OKR.wI)) ?_)
      refine m_X_isText1 (by repeat' (first | exact hR | apply OKR.pI | apply OKR.pL | apply OKR.cpI | apply OKR.wI)) ha (And.intro (by repeat' (first | exact hR | apply OKR.pI | apply OKR.pL | apply OKR.cpI | apply OKR.wI)) ?_)
      refine And.intro (fun c3 => ?_) (fun c3 => ?_)
      · first | exact absurd c3 (by decide) | exact absurd (by decide) c3 | (exfalso; grind)
      · try dsimp only at c3
        refine And.intro ⟨(by first | decide | assumption | omega), (by first | decide | assumption | omega)⟩ ?_
        refine And.intro ⟨(vp_nI (N := 4) ha (by decide)), ⟨rfl, by rw [e0]; exact ha⟩⟩ ?_
        rw [show (nI a).toNatClampNeg = a from e0]
        refine m_X_refusal0 (by repeat' (first | exact hR | apply OKR.pI | apply OKR.pL | apply OKR.cpI | apply OKR.wI)) (n := n) (by omega) s1 hj (And.intro (by repeat' (first | exact hR | apply OKR.pI | apply OKR.pL | apply OKR.cpI | apply OKR.wI)) ?_)
        refine And.intro (fun c15 => ?_) (fun c15 => ?_)
        · try dsimp only at c15
          refine And.intro ⟨(by first | decide | assumption | omega), (by first | decide | assumption | omega)⟩ ?_
          refine And.intro ⟨(vp_nI (N := 4) ha (by decide)), ⟨rfl, by rw [e0]; exact ha⟩⟩ ?_
          rw [show (nI a).toNatClampNeg = a from e0]
          refine m_Ce_get1 (by repeat' (first | exact hR | apply OKR.pI | apply OKR.pL | apply OKR.cpI | apply OKR.wI)) (n := n) (by omega) hl s1 hj (And.intro (by repeat' (first | exact hR | apply OKR.pI | apply OKR.pL | apply OKR.cpI | apply OKR.wI)) ?_)
          refine And.intro ⟨(by first | decide | assumption | omega), (by first | decide | assumption | omega)⟩ ?_
          refine And.intro ⟨(vp_nI (N := 4) ha (by decide)), ⟨rfl, by rw [e0]; exact ha⟩⟩ ?_
          rw [show (nI a).toNatClampNeg = a from e0]
          refine m_Ce_set1 (by repeat' (first | exact hR | apply OKR.pI | apply OKR.pL | apply OKR.cpI | apply OKR.wI)) (n := n) (by omega) hl (by exact s1) hj (And.intro (by repeat' (first | exact hR | apply OKR.pI | apply OKR.pL | apply OKR.cpI | apply OKR.wI)) ?_)
          refine And.intro trivial ?_
          refine w_M_put (Go.runR (callT_mono MT _) [] 200 (by repeat' (first | exact hR | apply OKR.pI | apply OKR.pL | apply OKR.cpI | apply OKR.wI)) ?_)
          refine m_M_askedText2 (by repeat' (first | exact hR | apply OKR.pI | apply OKR.pL | apply OKR.cpI | apply OKR.wI)) (n := n) ha hn (by exact s2) (And.intro (by repeat' (first | exact hR | apply OKR.pI | apply OKR.pL | apply OKR.cpI | apply OKR.wI)) ?_)
          refine And.intro (fun c5 => ?_) (fun c5 => ?_)
          · try dsimp only at c5
            refine And.intro ⟨rfl, rfl, rfl⟩ ?_
            refine And.intro (vp_nI (N := 4) ha (by decide)) ?_
            refine m_M_in (by repeat' (first | exact hR | apply OKR.pI | apply OKR.pL | apply OKR.cpI | apply OKR.wI)) (And.intro (by repeat' (first | exact hR | apply OKR.pI | apply OKR.pL | apply OKR.cpI | apply OKR.wI)) ?_)
            rw [show b2 (0 ≤ nI j ∧ nI j ≤ gI (pI m (0, 2, 6 + a) j v.toInt8.toInt32) (1, 5, 0) (nI a).toNatClampNeg - 1) = 1 from if_pos (by rw [e0, show gI (pI m (0, 2, 6 + a) j v.toInt8.toInt32) (1, 5, 0) a = nI n from s2, sub1_in (by omega)]; exact place_in hj (by omega))]
            refine And.intro (fun c17 => ?_) (fun c17 => ?_)
            · first | exact absurd c17 (by decide) | exact absurd (by decide) c17 | (exfalso; grind)
            · try dsimp only at c17
              refine And.intro ⟨rfl, rfl, rfl⟩ ?_
              refine And.intro (by dsimp only; rw [e1]; exact vp_nI (N := 320) (by omega) (by decide)) ?_
              refine And.intro ⟨rfl, rfl, rfl⟩ ?_
              refine And.intro (by dsimp only; rw [e1]; exact vp_nI (N := 320) (by omega) (by decide)) ?_
              refine And.intro trivial ?_
              dsimp only
              rw [e1, nI_clamp (by omega)]
              rw [show gI (pI m (0, 2, 6 + a) j v.toInt8.toInt32) (1, 6, 0) (80 * a + j) = gI m (0, 2, 6 + a) j from (s3 j hj).symm]
              exact h _ _ (R.put ha hn hj s1)
          · first | exact absurd c5 (by decide) | exact absurd (by decide) c5 | (exfalso; grind)
        · first | exact absurd c15 (by decide) | exact absurd (by decide) c15 | (exfalso; grind)
