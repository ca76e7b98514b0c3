/-! Written by a program (wip/whole/p26.py): row. -/
theorem clampS {n L : Nat} (h : n ≤ L) (hL : L < 2 ^ 31) : (if (0 : Int32) < (if nI L < nI n then nI L else nI n) then (if nI L < nI n then nI L else nI n) else 0) = nI n := by
  rw [if_neg (nI_nlt h (by omega))]
  split
  · rfl
  · rename_i q
    have := nI_pos' (n := n) (by omega)
    grind
theorem isrow_in {a : Nat} (ha : a < 6) : 0 ≤ nI a ∧ nI a ≤ 5 := ⟨nI_pos' (by omega), nI_le (b := 5) (by omega) (by decide)⟩

theorem m_Ce_renew {d : Nat} {m : Mem} {K : Option Vv → Mem → Prop} (hR : OKR m) {c n : Nat} {v : Int32} (hc : c < 10) (hn : n ≤ ln (0, 2, c)) (h : K none (sI (pI m (0, 1, c) 1 (nI n)) (0, 2, c) (fun j => if j < n then v else gI m (0, 2, c) j))) : cW (d + 1) n_Ce_renew [vo 0 1 c, vi (nI n), vi v] m K := by
  have h80 := ln2_le c
  refine w_Ce_renew (Go.runR (callT_mono MT _) [11] 200 hR ?_)
  refine And.intro ⟨(by first | decide | assumption | omega), (by first | decide | assumption | omega)⟩ ?_
  refine go_eq (ls' := [vo 0 1 c, vi (nI n), vi v, vi (nI 0)]) rfl (congrArg (fun z => pI m (0, 1, c) 1 z) (clampS hn (by omega))) (l_Ce_renew hc hn 0 _ hR.pI (by rw [rd00]; simp) (by omega) ?_)
  rw [show (fun j => if 0 ≤ j ∧ j < n then v else gI (pI m (0, 1, c) 1 (nI n)) (0, 2, c) j) = (fun j => if j < n then v else gI m (0, 2, c) j) from funext fun j => by simp; rfl]
  exact h

theorem l_M_row {d : Nat} {K : Option Vv → Mem → Prop} {a : Nat} {n : Int32} (ha : a < 6) (k : Nat) (m : Mem) (hR : OKR m) (hk : k ≤ 40) (h : K (some (vi n)) (sI m (1, 3, 0) (fun j => if 40 * a + k ≤ j ∧ j < 40 * a + 40 then 0 else gI m (1, 3, 0) j))) : Go (cW (d + 1)) i_M_row (0, 0) K 21 [vo 1 0 0, vi (nI a), vi n, vi (nI k)] [] m 0 0 := by
  refine Go.runR (callT_mono MT _) [21] 200 hR ?_
  refine And.intro (fun c23 => ?_) (fun c23 => ?_)
  · try dsimp only at c23
    refine And.intro trivial ?_
    have q : 40 ≤ k := (nI_leI (a := 40) (by omega) (by omega)).mp c23
    rw [sI_self1] at h
    · exact h
    · intro j; rw [if_neg (by omega)]
  · try dsimp only at c23
    have q : k < 40 := by have := mt (nI_leI (a := 40) (b := k) (by omega) (by omega)).mpr c23; omega
    refine m_M_setRow (by repeat' (first | exact hR | apply OKR.pI | apply OKR.pL | apply OKR.cpI | apply OKR.wI)) ha q (And.intro (by repeat' (first | exact hR | apply OKR.pI | apply OKR.pL | apply OKR.cpI | apply OKR.wI)) ?_)
    refine go_eq (ls' := [vo 1 0 0, vi (nI a), vi n, vi (nI (k + 1))]) (by rw [nI_succ]; rfl) rfl (l_M_row ha (k + 1) _ hR.pI (by omega) ?_)
    rw [sI_pI1]
    have e : (fun j => if 40 * a + (k + 1) ≤ j ∧ j < 40 * a + 40 then 0 else gI (pI m (1, 3, 0) (40 * a + k) 0) (1, 3, 0) j) = (fun j => if 40 * a + k ≤ j ∧ j < 40 * a + 40 then 0 else gI m (1, 3, 0) j) := by
      funext j
      rw [rd11]
      grind
    rw [e]
    exact h
termination_by 40 - k
decreasing_by omega

theorem m_X_row {d : Nat} {m : Mem} {K : Option Vv → Mem → Prop} (hR : OKR m) {r n : Int32} (hb : ¬ ((0 ≤ r ∧ r ≤ 5) ∧ n ≤ 40) → K (some (vi (-1))) m) (hz : (0 ≤ r ∧ r ≤ 5) → n < 0 → K (some (vi (-3))) (foundM m 5)) (h : ∀ a k, a < 6 → k ≤ 40 → r = nI a → n = nI k → K (some (vi (nI k))) (sI (pI m (0, 1, a) 1 (nI k)) (0, 2, a) (fun j => if j < k then 0 else gI m (0, 2, a) j))) : cW (d + 3) n_X_row [vo 0 0 0, vi r, vi n] m K := by
  refine w_X_row (Go.runR (callT_mono MT _) [] 200 hR ?_)
  refine m_X_isRow (by repeat' (first | exact hR | apply OKR.pI | apply OKR.pL | apply OKR.cpI)) (And.intro (by repeat' (first | exact hR | apply OKR.pI | apply OKR.pL | apply OKR.cpI)) ?_)
  refine And.intro (fun c3 => ?_) (fun c3 => ?_)
  · try dsimp only at c3
    refine And.intro trivial ?_
    first | exact hb (by grind) | exact hz (by grind) (by grind) | exact h a k ha hk rfl rfl
  · try dsimp only at c3
    refine And.intro (fun c6 => ?_) (fun c6 => ?_)
    · try dsimp only at c6
      refine And.intro (fun c10 => ?_) (fun c10 => ?_)
      · try dsimp only at c10
        obtain ⟨a, ha, rfl⟩ := row_of2 (r := r) (by grind)
        obtain ⟨k, hk, rfl⟩ := nI_of2 (x := n) (M := 40) (n := 40) rfl (by grind) (by grind)
        have e0 : (nI a).toNatClampNeg = a := nI_clamp (by omega)
        refine And.intro ⟨(by first | decide | assumption | omega), (by first | decide | assumption | omega)⟩ ?_
        refine And.intro ⟨(vp_nI (N := 6) ha (by decide)), ⟨rfl, by rw [e0]; exact ha⟩⟩ ?_
        rw [show (nI a).toNatClampNeg = a from e0]
        refine m_Ce_renew (by repeat' (first | exact hR | apply OKR.pI | apply OKR.pL | apply OKR.cpI | apply OKR.wI)) (by omega) (by rw [show ln (0, 2, a) = 40 from if_pos ha]; exact hk) (And.intro (by repeat' (first | exact hR | apply OKR.pI | apply OKR.pL | apply OKR.cpI | apply OKR.wI)) ?_)
        refine And.intro trivial ?_
        first | exact hb (by grind) | exact hz (by grind) (by grind) | exact h a k ha hk rfl rfl
      · try dsimp only at c10
        refine m_X_found5 (by repeat' (first | exact hR | apply OKR.pI | apply OKR.pL | apply OKR.cpI | apply OKR.wI)) (And.intro (by repeat' (first | exact hR | apply OKR.pI | apply OKR.pL | apply OKR.cpI | apply OKR.wI)) ?_)
        refine And.intro trivial ?_
        first | exact hb (by grind) | exact hz (by grind) (by grind) | exact h a k ha hk rfl rfl
    · try dsimp only at c6
      refine And.intro trivial ?_
      first | exact hb (by grind) | exact hz (by grind) (by grind) | exact h a k ha hk rfl rfl

theorem m_M_row {d : Nat} {m : Mem} {K : Option Vv → Mem → Prop} (hR : OKR m) {r n : Int32} (hb : ¬ ((0 ≤ r ∧ r ≤ 5) ∧ n ≤ 40) → K (some (vi (-1))) m) (hz : (0 ≤ r ∧ r ≤ 5) → n < 0 → K (some (vi (-3))) (meetM m 5)) (h : ∀ a k, a < 6 → k ≤ 40 → r = nI a → n = nI k → K (some (vi (nI k))) (sI (pI m (1, 2, 0) a (nI k)) (1, 3, 0) (fun j => if 40 * a + 0 ≤ j ∧ j < 40 * a + 40 then 0 else gI m (1, 3, 0) j))) : cW (d + 3) n_M_row [vo 1 0 0, vi r, vi n] m K := by
  refine w_M_row (Go.runR (callT_mono MT _) [21] 200 hR ?_)
  refine m_M_isRow (by repeat' (first | exact hR | apply OKR.pI | apply OKR.pL | apply OKR.cpI)) (And.intro (by repeat' (first | exact hR | apply OKR.pI | apply OKR.pL | apply OKR.cpI)) ?_)
  refine And.intro (fun c2 => ?_) (fun c2 => ?_)
  · try dsimp only at c2
    refine And.intro trivial ?_
    first | exact hb (by grind) | exact hz (by grind) (by grind) | exact h a k ha hk rfl rfl
  · try dsimp only at c2
    refine And.intro (fun c5 => ?_) (fun c5 => ?_)
    · try dsimp only at c5
      refine And.intro (fun c9 => ?_) (fun c9 => ?_)
      · try dsimp only at c9
        obtain ⟨a, ha, rfl⟩ := row_of2 (r := r) (by grind)
        obtain ⟨k, hk, rfl⟩ := nI_of2 (x := n) (M := 40) (n := 40) rfl (by grind) (by grind)
        have e0 : (nI a).toNatClampNeg = a := nI_clamp (by omega)
        refine And.intro ⟨rfl, rfl, rfl⟩ ?_
        refine And.intro (vp_nI (N := 6) ha (by decide)) ?_
        refine go_eq (ls' := [vo 1 0 0, vi (nI a), vi (nI k), vi (nI 0)]) rfl (congrArg (fun z => pI m (1, 2, 0) z (nI k)) e0) (l_M_row ha 0 _ hR.pI (by omega) ?_)
        exact h a k ha hk rfl rfl
      · try dsimp only at c9
        refine m_M_meet5 (by repeat' (first | exact hR | apply OKR.pI | apply OKR.pL | apply OKR.cpI | apply OKR.wI)) (And.intro (by repeat' (first | exact hR | apply OKR.pI | apply OKR.pL | apply OKR.cpI | apply OKR.wI)) ?_)
        refine And.intro trivial ?_
        first | exact hb (by grind) | exact hz (by grind) (by grind) | exact h a k ha hk rfl rfl
    · try dsimp only at c5
      refine And.intro trivial ?_
      first | exact hb (by grind) | exact hz (by grind) (by grind) | exact h a k ha hk rfl rfl
