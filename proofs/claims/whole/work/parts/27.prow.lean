/-! row: both sides. -/
theorem gL_sI (m : Mem) (o : Id3) (f : Nat → Int32) (o' : Id3) (k : Nat) : gL (sI m o f) o' k = gL m o' k := by
  obtain ⟨a, t, i⟩ := o
  obtain ⟨a', t', i'⟩ := o'
  rcases a with _ | _ | a <;> rcases a' with _ | _ | a' <;> rfl
theorem RelAB.row {m : Mem} (R : RelAB m) {a k : Nat} (ha : a < 6) (hk : k ≤ 40) {f g : Nat → Int32} (hf : ∀ j, j < k → f j = g (40 * a + j)) (hg : ∀ b j, b < 6 → b ≠ a → j < 40 → g (40 * b + j) = gI m (1, 3, 0) (40 * b + j)) : RelAB (sI (pI (sI (pI m (0, 1, a) 1 (nI k)) (0, 2, a) f) (1, 2, 0) a (nI k)) (1, 3, 0) g) := by
  refine R.cells R.1.pI.wI.pI.wI ?_ ?_ (fun t i q h1 h2 => ?_) (fun t i q h1 h2 h3 h4 h5 => ?_) (fun o q => by rw [gL_sI, gL_pI, gL_sI, gL_pI]) (fun o q => by rw [gR_sI, gR_pI, gR_sI, gR_pI])
  · intro r hr
    have e1 : gI (sI (pI (sI (pI m (0, 1, a) 1 (nI k)) (0, 2, a) f) (1, 2, 0) a (nI k)) (1, 3, 0) g) (0, 1, r) 1 = if r = a then nI k else gI m (0, 1, r) 1 := by
      rw [sI10, rd10, sI00, rd00]; simp
    have e2 : gI (sI (pI (sI (pI m (0, 1, a) 1 (nI k)) (0, 2, a) f) (1, 2, 0) a (nI k)) (1, 3, 0) g) (1, 2, 0) r = if r = a then nI k else gI m (1, 2, 0) r := by
      rw [sI11, rd11, sI01, rd01]; simp
    have e3 : ∀ j, gI (sI (pI (sI (pI m (0, 1, a) 1 (nI k)) (0, 2, a) f) (1, 2, 0) a (nI k)) (1, 3, 0) g) (0, 2, r) j = if r = a then f j else gI m (0, 2, r) j := fun j => by
      rw [sI10, rd10, sI00, rd00]; simp
    have e4 : ∀ j, gI (sI (pI (sI (pI m (0, 1, a) 1 (nI k)) (0, 2, a) f) (1, 2, 0) a (nI k)) (1, 3, 0) g) (1, 3, 0) j = g j := fun j => by
      rw [sI11]; simp
    rw [e1, e2]
    simp only [e3, e4]
    by_cases h : r = a
    · subst h
      simp only [if_true]
      exact Or.inr ⟨k, hk, rfl, rfl, hf⟩
    · simp only [if_neg h]
      rcases R.2.1 r hr with q | ⟨n, q1, q2, q3, q4⟩
      · exact Or.inl q
      · exact Or.inr ⟨n, q1, q2, q3, fun j hj => by rw [hg r j hr h (by omega)]; exact q4 j hj⟩
  · refine R.2.2.1.cg (fun r => ?_) (fun r j => ?_) (fun j => ?_) (fun j => ?_)
    · rw [sI10, rd10, sI00, rd00, if_neg (by omega), if_neg (by omega)]
    · rw [sI10, rd10, sI00, rd00, if_neg (by omega), if_neg (by omega)]
    · rfl
    · rfl
  · rw [sI10, rd10, sI00, rd00, if_neg (by omega), if_neg (by omega)]
  · rw [sI11, rd11, sI01, rd01, if_neg (by omega), if_neg (by omega)]
theorem p_row {d : Nat} {m : Mem} {K : Option Vv → Option Vv → Mem → Prop} (R : RelAB m) {r n : Int32} (h : ∀ v m', RelAB m' → K v v m') : cW (d + 3) n_X_row [vo 0 0 0, vi r, vi n] m (fun v m1 => cW (d + 3) n_M_row [vo 1 0 0, vi r, vi n] m1 (fun w m2 => K v w m2)) := by
  have hok := R.1
  have bad : ∀ b k : Nat, b < 6 → k ≤ 40 → r = nI b → n = nI k → ((0 ≤ r ∧ r ≤ 5) ∧ n ≤ 40) ∧ ¬ n < 0 := fun b k hb hk e1 e2 => by
    subst e1; subst e2
    exact ⟨⟨isrow_in hb, nI_le (b := 40) hk (by decide)⟩, nI_pos (by omega)⟩
  have neg : n < 0 → n ≤ 40 := fun q => by grind
  refine m_X_row hok (fun q => ?_) (fun q z => ?_) (fun a k ha hk e1 e2 => ?_)
  · exact m_M_row hok (fun _ => h _ _ R) (fun q2 z => absurd ⟨q2, neg z⟩ q) (fun b k hb hk e1 e2 => absurd (bad b k hb hk e1 e2).1 q)
  · exact m_M_row hok.pI.pI (fun q2 => absurd ⟨q, neg z⟩ q2) (fun _ _ => h _ _ (R.meet (by omega) (by omega))) (fun b k hb hk e1 e2 => absurd z (bad b k hb hk e1 e2).2)
  · refine m_M_row hok.pI.wI (fun q2 => absurd (bad a k ha hk e1 e2).1 q2) (fun _ z => absurd z (bad a k ha hk e1 e2).2) (fun b l hb hl e3 e4 => ?_)
    obtain rfl := nI_in1 (by omega) (by omega) (e1.symm.trans e3)
    obtain rfl := nI_in1 (by omega) (by omega) (e2.symm.trans e4)
    refine h _ _ (R.row ha hk (fun j hj => ?_) (fun b j hb hn hj => ?_))
    · rw [if_pos hj, if_pos (by omega)]
    · rw [if_neg (by omega)]
      rfl
