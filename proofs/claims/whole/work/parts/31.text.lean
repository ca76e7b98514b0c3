/-! Written by a program (wip/whole/p31.py): text. -/
theorem istext_in {a : Nat} (ha : a < 4) : 0 ≤ nI a ∧ nI a ≤ 3 := ⟨nI_pos' (by omega), nI_le (b := 3) (by omega) (by decide)⟩
theorem text_of2 {r : Int32} (h : 0 ≤ r ∧ r ≤ 3) : ∃ a, a < 4 ∧ r = nI a := by
  obtain ⟨j, h1, h2⟩ := nI_of2 (M := 3) (n := 3) rfl (Int32.not_lt.mpr h.1) h.2
  exact ⟨j, by omega, h2⟩

theorem l_M_text {d : Nat} {K : Option Vv → Mem → Prop} {a : Nat} {n : Int32} (ha : a < 4) (k : Nat) (m : Mem) (hR : OKR m) (hk : k ≤ 80) (h : K (some (vi n)) (sI m (1, 6, 0) (fun j => if 80 * a + k ≤ j ∧ j < 80 * a + 80 then 32 else gI m (1, 6, 0) j))) : Go (cW d) i_M_text (0, 0) K 21 [vo 1 0 0, vi (nI a), vi n, vi (nI k)] [] m 0 0 := by
  have e1 : (80 : Int32) * nI a + nI k = nI (80 * a + k) := by rw [show (80 : Int32) = nI 80 from rfl, pk_mul, nI_add]
  refine Go.runR (callT_mono MT _) [21] 200 hR ?_
  refine And.intro (fun c23 => ?_) (fun c23 => ?_)
  · try dsimp only at c23
    refine And.intro trivial ?_
    have q : 80 ≤ k := (nI_leI (a := 80) (by omega) (by omega)).mp c23
    rw [sI_self1] at h
    · exact h
    · intro j; rw [if_neg (by omega)]
  · try dsimp only at c23
    have q : k < 80 := by have := mt (nI_leI (a := 80) (b := k) (by omega) (by omega)).mpr c23; omega
    refine And.intro ⟨rfl, rfl, rfl⟩ ?_
    refine And.intro (by dsimp only; rw [e1]; exact vp_nI (N := 320) (by omega) (by decide)) ?_
    refine go_eq (ls' := [vo 1 0 0, vi (nI a), vi n, vi (nI (k + 1))]) (by rw [nI_succ]; rfl) (m' := pI m (1, 6, 0) (80 * a + k) 32) (congrArg (fun z => pI m (1, 6, 0) z 32) (show (80 * nI a + nI k).toNatClampNeg = 80 * a + k by rw [e1, nI_clamp (by omega)])) (l_M_text ha (k + 1) _ hR.pI (by omega) ?_)
    rw [sI_pI1]
    have e : (fun j => if 80 * a + (k + 1) ≤ j ∧ j < 80 * a + 80 then 32 else gI (pI m (1, 6, 0) (80 * a + k) 32) (1, 6, 0) j) = (fun j => if 80 * a + k ≤ j ∧ j < 80 * a + 80 then 32 else gI m (1, 6, 0) j) := by
      funext j
      rw [rd11]
      grind
    rw [e]
    exact h
termination_by 80 - k
decreasing_by omega

theorem m_X_text {d : Nat} {m : Mem} {K : Option Vv → Mem → Prop} (hR : OKR m) {r n : Int32} (hb : ¬ ((0 ≤ r ∧ r ≤ 3) ∧ n ≤ 80) → K (some (vi (-1))) m) (hz : (0 ≤ r ∧ r ≤ 3) → n < 0 → K (some (vi (-3))) (foundM m 5)) (h : ∀ a k, a < 4 → k ≤ 80 → r = nI a → n = nI k → K (some (vi (nI k))) (sI (pI m (0, 1, 6 + a) 1 (nI k)) (0, 2, 6 + a) (fun j => if j < k then 32 else gI m (0, 2, 6 + a) j))) : cW (d + 3) n_X_text [vo 0 0 0, vi r, vi n] m K := by
  refine w_X_text (Go.runR (callT_mono MT _) [] 200 hR ?_)
  refine m_X_isText (by repeat' (first | exact hR | apply OKR.pI | apply OKR.pL | apply OKR.cpI)) (And.intro (by repeat' (first | exact hR | apply OKR.pI | apply OKR.pL | apply OKR.cpI)) ?_)
  refine And.intro (fun c3 => ?_) (fun c3 => ?_)
  · try dsimp only at c3
    refine And.intro trivial ?_
    first | exact hb (by grind) | exact hz (by grind) (by grind) | exact h a k ha hk rfl rfl
  · try dsimp only at c3
    refine And.intro (fun c6 => ?_) (fun c6 => ?_)
    · try dsimp only at c6
      refine And.intro (fun c10 => ?_) (fun c10 => ?_)
      · try dsimp only at c10
        obtain ⟨a, ha, rfl⟩ := text_of2 (r := r) (by grind)
        obtain ⟨k, hk, rfl⟩ := nI_of2 (x := n) (M := 80) (n := 80) rfl (by grind) (by grind)
        have e0 : (nI a).toNatClampNeg = a := nI_clamp (by omega)
        refine And.intro ⟨(by first | decide | assumption | omega), (by first | decide | assumption | omega)⟩ ?_
        refine And.intro ⟨(vp_nI (N := 4) ha (by decide)), ⟨rfl, by rw [e0]; exact ha⟩⟩ ?_
        rw [show (nI a).toNatClampNeg = a from e0]
        refine m_Ce_renew (by repeat' (first | exact hR | apply OKR.pI | apply OKR.pL | apply OKR.cpI | apply OKR.wI)) (by omega) (by rw [show ln (0, 2, 6 + a) = 80 from if_neg (show ¬ 6 + a < 6 by omega)]; exact hk) (And.intro (by repeat' (first | exact hR | apply OKR.pI | apply OKR.pL | apply OKR.cpI | apply OKR.wI)) ?_)
        refine And.intro trivial ?_
        first | exact hb (by grind) | exact hz (by grind) (by grind) | exact h a k ha hk rfl rfl
      · try dsimp only at c10
        refine m_X_found5 (by repeat' (first | exact hR | apply OKR.pI | apply OKR.pL | apply OKR.cpI | apply OKR.wI)) (And.intro (by repeat' (first | exact hR | apply OKR.pI | apply OKR.pL | apply OKR.cpI | apply OKR.wI)) ?_)
        refine And.intro trivial ?_
        first | exact hb (by grind) | exact hz (by grind) (by grind) | exact h a k ha hk rfl rfl
    · try dsimp only at c6
      refine And.intro trivial ?_
      first | exact hb (by grind) | exact hz (by grind) (by grind) | exact h a k ha hk rfl rfl

theorem m_M_text {d : Nat} {m : Mem} {K : Option Vv → Mem → Prop} (hR : OKR m) {r n : Int32} (hb : ¬ ((0 ≤ r ∧ r ≤ 3) ∧ n ≤ 80) → K (some (vi (-1))) m) (hz : (0 ≤ r ∧ r ≤ 3) → n < 0 → K (some (vi (-3))) (meetM m 5)) (h : ∀ a k, a < 4 → k ≤ 80 → r = nI a → n = nI k → K (some (vi (nI k))) (sI (pI m (1, 5, 0) a (nI k)) (1, 6, 0) (fun j => if 80 * a + 0 ≤ j ∧ j < 80 * a + 80 then 32 else gI m (1, 6, 0) j))) : cW (d + 3) n_M_text [vo 1 0 0, vi r, vi n] m K := by
  refine w_M_text (Go.runR (callT_mono MT _) [21] 200 hR ?_)
  refine m_M_isText (by repeat' (first | exact hR | apply OKR.pI | apply OKR.pL | apply OKR.cpI)) (And.intro (by repeat' (first | exact hR | apply OKR.pI | apply OKR.pL | apply OKR.cpI)) ?_)
  refine And.intro (fun c2 => ?_) (fun c2 => ?_)
  · try dsimp only at c2
    refine And.intro trivial ?_
    first | exact hb (by grind) | exact hz (by grind) (by grind) | exact h a k ha hk rfl rfl
  · try dsimp only at c2
    refine And.intro (fun c5 => ?_) (fun c5 => ?_)
    · try dsimp only at c5
      refine And.intro (fun c9 => ?_) (fun c9 => ?_)
      · try dsimp only at c9
        obtain ⟨a, ha, rfl⟩ := text_of2 (r := r) (by grind)
        obtain ⟨k, hk, rfl⟩ := nI_of2 (x := n) (M := 80) (n := 80) rfl (by grind) (by grind)
        have e0 : (nI a).toNatClampNeg = a := nI_clamp (by omega)
        refine And.intro ⟨rfl, rfl, rfl⟩ ?_
        refine And.intro (vp_nI (N := 4) ha (by decide)) ?_
        refine go_eq (ls' := [vo 1 0 0, vi (nI a), vi (nI k), vi (nI 0)]) rfl (congrArg (fun z => pI m (1, 5, 0) z (nI k)) e0) (l_M_text ha 0 _ hR.pI (by omega) ?_)
        exact h a k ha hk rfl rfl
      · try dsimp only at c9
        refine m_M_meet5 (by repeat' (first | exact hR | apply OKR.pI | apply OKR.pL | apply OKR.cpI | apply OKR.wI)) (And.intro (by repeat' (first | exact hR | apply OKR.pI | apply OKR.pL | apply OKR.cpI | apply OKR.wI)) ?_)
        refine And.intro trivial ?_
        first | exact hb (by grind) | exact hz (by grind) (by grind) | exact h a k ha hk rfl rfl
    · try dsimp only at c5
      refine And.intro trivial ?_
      first | exact hb (by grind) | exact hz (by grind) (by grind) | exact h a k ha hk rfl rfl

theorem RelAB.text {m : Mem} (R : RelAB m) {a k : Nat} (ha : a < 4) (hk : k ≤ 80) {f g : Nat → Int32} (hf : ∀ j, j < k → f j = g (80 * a + j)) (hg : ∀ b j, b < 4 → b ≠ a → j < 80 → g (80 * b + j) = gI m (1, 6, 0) (80 * b + j)) : RelAB (sI (pI (sI (pI m (0, 1, 6 + a) 1 (nI k)) (0, 2, 6 + a) f) (1, 5, 0) a (nI k)) (1, 6, 0) g) := by
  refine R.cells R.1.pI.wI.pI.wI ?_ ?_ (fun t i q h1 h2 => ?_) (fun t i q h1 h2 h3 h4 h5 => ?_) (fun o q => by rw [gL_sI, gL_pI, gL_sI, gL_pI]) (fun o q => by rw [gR_sI, gR_pI, gR_sI, gR_pI])
  · refine RowsR.cg (m := m) (fun r hr => ?_) (fun r j hr => ?_) (fun j => rfl) (fun j => rfl) R.2.1
    · rw [sI10, rd10, sI00, rd00, if_neg (by omega), if_neg (by omega)]
    · rw [sI10, rd10, sI00, rd00, if_neg (by omega), if_neg (by omega)]
  · intro r hr
    have e1 : gI (sI (pI (sI (pI m (0, 1, 6 + a) 1 (nI k)) (0, 2, 6 + a) f) (1, 5, 0) a (nI k)) (1, 6, 0) g) (0, 1, 6 + r) 1 = if r = a then nI k else gI m (0, 1, 6 + r) 1 := by
      rw [sI10, rd10, sI00, rd00]; simp
    have e2 : gI (sI (pI (sI (pI m (0, 1, 6 + a) 1 (nI k)) (0, 2, 6 + a) f) (1, 5, 0) a (nI k)) (1, 6, 0) g) (1, 5, 0) r = if r = a then nI k else gI m (1, 5, 0) r := by
      rw [sI11, rd11, sI01, rd01]; simp
    have e3 : ∀ j, gI (sI (pI (sI (pI m (0, 1, 6 + a) 1 (nI k)) (0, 2, 6 + a) f) (1, 5, 0) a (nI k)) (1, 6, 0) g) (0, 2, 6 + r) j = if r = a then f j else gI m (0, 2, 6 + r) j := fun j => by
      rw [sI10, rd10, sI00, rd00]; simp
    have e4 : ∀ j, gI (sI (pI (sI (pI m (0, 1, 6 + a) 1 (nI k)) (0, 2, 6 + a) f) (1, 5, 0) a (nI k)) (1, 6, 0) g) (1, 6, 0) j = g j := fun j => by
      rw [sI11]; simp
    rw [e1, e2]
    simp only [e3, e4]
    by_cases h : r = a
    · subst h
      simp only [if_true]
      exact Or.inr ⟨k, hk, rfl, rfl, hf⟩
    · simp only [if_neg h]
      rcases R.2.2.1 r hr with q | ⟨n, q1, q2, q3, q4⟩
      · exact Or.inl q
      · exact Or.inr ⟨n, q1, q2, q3, fun j hj => by rw [hg r j hr h (by omega)]; exact q4 j hj⟩
  · rw [sI10, rd10, sI00, rd00, if_neg (by omega), if_neg (by omega)]
  · rw [sI11, rd11, sI01, rd01, if_neg (by omega), if_neg (by omega)]
theorem p_text {d : Nat} {m : Mem} {K : Option Vv → Option Vv → Mem → Prop} (R : RelAB m) {r n : Int32} (h : ∀ v m', RelAB m' → K v v m') : cW (d + 3) n_X_text [vo 0 0 0, vi r, vi n] m (fun v m1 => cW (d + 3) n_M_text [vo 1 0 0, vi r, vi n] m1 (fun w m2 => K v w m2)) := by
  have hok := R.1
  have bad : ∀ b k : Nat, b < 4 → k ≤ 80 → r = nI b → n = nI k → ((0 ≤ r ∧ r ≤ 3) ∧ n ≤ 80) ∧ ¬ n < 0 := fun b k hb hk e1 e2 => by
    subst e1; subst e2
    exact ⟨⟨istext_in hb, nI_le (b := 80) hk (by decide)⟩, nI_pos (by omega)⟩
  have neg : n < 0 → n ≤ 80 := fun q => by grind
  refine m_X_text hok (fun q => ?_) (fun q z => ?_) (fun a k ha hk e1 e2 => ?_)
  · exact m_M_text hok (fun _ => h _ _ R) (fun q2 z => absurd ⟨q2, neg z⟩ q) (fun b k hb hk e1 e2 => absurd (bad b k hb hk e1 e2).1 q)
  · exact m_M_text hok.pI.pI (fun q2 => absurd ⟨q, neg z⟩ q2) (fun _ _ => h _ _ (R.meet (by omega) (by omega))) (fun b k hb hk e1 e2 => absurd z (bad b k hb hk e1 e2).2)
  · refine m_M_text hok.pI.wI (fun q2 => absurd (bad a k ha hk e1 e2).1 q2) (fun _ z => absurd z (bad a k ha hk e1 e2).2) (fun b l hb hl e3 e4 => ?_)
    obtain rfl := nI_in1 (by omega) (by omega) (e1.symm.trans e3)
    obtain rfl := nI_in1 (by omega) (by omega) (e2.symm.trans e4)
    refine h _ _ (R.text ha hk (fun j hj => ?_) (fun b j hb hn hj => ?_))
    · rw [if_pos hj, if_pos (by omega)]
    · rw [if_neg (by omega)]
      rfl
