/-! Written by a program (wip/whole/p80.py): the small language; the class reads it. -/
def kd (c : Int32) : Nat := if c = 104 then 0 else if c = 102 then 1 else if c = 109 then 2 else if c = 98 then 3 else if c = 117 then 4 else if c = 99 then 5 else 9
abbrev figP (b : Nat → Int32) (n p : Nat) : Prop := p < n ∧ 48 ≤ b p ∧ b p ≤ 57
abbrev begP (c : Int32) (i : Nat) : Prop := (i = 0 ∧ c = 97) ∨ (0 < i ∧ i ≤ 8 ∧ kd c < 6)
def fo (b : Nat → Int32) (n : Nat) : Nat → Nat → Nat → Int32
  | 0, _, _ => 0
  | f + 1, p, i => if n ≤ p then (if i = 0 then nI n else -9) else if b p = 32 then fo b n f (p + 1) i else if ¬ begP (b p) i then nI p else if ¬ figP b n (p + 1) then nI (p + 1) else if ¬ figP b n (p + 2) then nI (p + 2) else fo b n f (p + 3) (i + 1)
section FO
variable {b : Nat → Int32} {n f p i : Nat}
theorem fo_end (h : n ≤ p) : fo b n (f + 1) p i = if i = 0 then nI n else -9 := if_pos h
theorem fo_bl (h : p < n) (q : b p = 32) : fo b n (f + 1) p i = fo b n f (p + 1) i := (if_neg (Nat.not_le.mpr h)).trans (if_pos q)
theorem fo_beg (h : p < n) (q : ¬ b p = 32) (r : ¬ begP (b p) i) : fo b n (f + 1) p i = nI p := (if_neg (Nat.not_le.mpr h)).trans ((if_neg q).trans (if_pos r))
theorem fo_f1 (h : p < n) (q : ¬ b p = 32) (r : begP (b p) i) (u : ¬ figP b n (p + 1)) : fo b n (f + 1) p i = nI (p + 1) := (if_neg (Nat.not_le.mpr h)).trans ((if_neg q).trans ((if_neg (fun z => z r)).trans (if_pos u)))
theorem fo_f2 (h : p < n) (q : ¬ b p = 32) (r : begP (b p) i) (u : figP b n (p + 1)) (v : ¬ figP b n (p + 2)) : fo b n (f + 1) p i = nI (p + 2) := (if_neg (Nat.not_le.mpr h)).trans ((if_neg q).trans ((if_neg (fun z => z r)).trans ((if_neg (fun z => z u)).trans (if_pos v))))
theorem fo_on (h : p < n) (q : ¬ b p = 32) (r : begP (b p) i) (u : figP b n (p + 1)) (v : figP b n (p + 2)) : fo b n (f + 1) p i = fo b n f (p + 3) (i + 1) := (if_neg (Nat.not_le.mpr h)).trans ((if_neg q).trans ((if_neg (fun z => z r)).trans ((if_neg (fun z => z u)).trans (if_neg (fun z => z v)))))
end FO
theorem kd_9 {c : Int32} (h : ¬ kd c < 6) : kd c = 9 := by
  unfold kd at *
  by_cases h1 : c = 104
  · rw [if_pos h1] at h; omega
  · rw [if_neg h1] at h ⊢
    by_cases h2 : c = 102
    · rw [if_pos h2] at h; omega
    · rw [if_neg h2] at h ⊢
      by_cases h3 : c = 109
      · rw [if_pos h3] at h; omega
      · rw [if_neg h3] at h ⊢
        by_cases h4 : c = 98
        · rw [if_pos h4] at h; omega
        · rw [if_neg h4] at h ⊢
          by_cases h5 : c = 117
          · rw [if_pos h5] at h; omega
          · rw [if_neg h5] at h ⊢
            by_cases h6 : c = 99
            · rw [if_pos h6] at h; omega
            · rw [if_neg h6]
def gb (b : Nat → Int32) (n p : Nat) : Int32 := if p < n then b p else 0
theorem gb_fig {b : Nat → Int32} {n p : Nat} : (48 ≤ gb b n p ∧ gb b n p ≤ 57) ↔ figP b n p := by
  unfold gb figP
  by_cases h : p < n
  · rw [if_pos h]; exact ⟨fun z => ⟨h, z⟩, fun z => z.2⟩
  · rw [if_neg h]; exact ⟨fun z => absurd z.1 (by decide), fun z => absurd z.1 h⟩
theorem m_Ce_getB {d c n : Nat} {b : Nat → Int32} {m : Mem} {K : Option Vv → Mem → Prop} (hR : OKR m) (hc : c < 10) (hl : n ≤ ln (0, 2, c)) (hn : n ≤ 80) (tx : gI m (0, 1, c) 1 = nI n) (tb : ∀ k, k < n → gI m (0, 2, c) k = b k) {v : Int32} {p : Nat} (hv : v = nI p) (hp : p ≤ 200) (h : K (some (vi (gb b n p))) m) : cW (d + 2) n_Ce_get [vo 0 1 c, vi v] m K := by
  subst hv
  refine m_Ce_get hR hc (by rw [tx]; exact (nI_leI (by omega) (ln2_lt c)).mpr hl) (kvi ?_ h)
  unfold gb
  have e1 : nI p < nI n ↔ p < n := nI_ltI (by omega) (by omega)
  by_cases z : p < n
  · rw [if_pos z, if_pos ⟨nI_pos' (by omega), by rw [tx]; exact e1.mpr z⟩, nI_clamp (by omega), tb p z]
  · rw [if_neg z, if_neg (fun y => z (by rw [tx] at y; exact e1.mp y.2))]

theorem kd_lo {v : Int32} (c1 : v < nI 98 ∨ nI (98 + 20) ≤ v) : kd v = 9 := by
  have e : ∀ k, k = 104 ∨ k = 102 ∨ k = 109 ∨ k = 98 ∨ k = 117 ∨ k = 99 → ¬ v = k := fun k hk z => by
    subst z
    rcases hk with rfl | rfl | rfl | rfl | rfl | rfl <;> revert c1 <;> decide
  unfold kd
  rw [if_neg (e _ (by simp)), if_neg (e _ (by simp)), if_neg (e _ (by simp)), if_neg (e _ (by simp)), if_neg (e _ (by simp)), if_neg (e _ (by simp))]

theorem m_Ki_byLetter1 {d : Nat} {m : Mem} {K : Option Vv → Mem → Prop} (hR : OKR m) {v : Int32} (y : kd v < 6) (h : K (some (vo 0 20 (kd v))) m) : cW (d + 1) n_Ki_byLetter [vi v] m K := by
  refine w_Ki_byLetter (Go.runR (callT_mono MT _) [] 200 hR ?_)
  refine And.intro (fun c1 => ?_) (And.intro (fun c1 => ?_) (And.intro (fun c1 => ?_) (And.intro (fun c1 => ?_) (And.intro (fun c1 => ?_) (And.intro (fun c1 => ?_) (And.intro (fun c1 => ?_) (And.intro (fun c1 => ?_) (And.intro (fun c1 => ?_) (And.intro (fun c1 => ?_) (And.intro (fun c1 => ?_) (And.intro (fun c1 => ?_) (And.intro (fun c1 => ?_) (And.intro (fun c1 => ?_) (And.intro (fun c1 => ?_) (And.intro (fun c1 => ?_) (And.intro (fun c1 => ?_) (And.intro (fun c1 => ?_) (And.intro (fun c1 => ?_) (And.intro (fun c1 => ?_) (And.intro (fun c1 => ?_) (trivial)))))))))))))))))))))
  · first | exact absurd (kd_lo c1) (fun z => by rw [z] at y; omega) | (subst c1; exact absurd y (by decide))
  · have e : (some (0, 20, kd v) : Option Id3) = some (0, 20, 3) := by subst c1; decide
    refine And.intro trivial ?_
    show K (some (vr (some (0, 20, 3)))) m
    rw [← e]
    exact h
  · have e : (some (0, 20, kd v) : Option Id3) = some (0, 20, 5) := by subst c1; decide
    refine And.intro trivial ?_
    show K (some (vr (some (0, 20, 5)))) m
    rw [← e]
    exact h
  · first | exact absurd (kd_lo c1) (fun z => by rw [z] at y; omega) | (subst c1; exact absurd y (by decide))
  · first | exact absurd (kd_lo c1) (fun z => by rw [z] at y; omega) | (subst c1; exact absurd y (by decide))
  · have e : (some (0, 20, kd v) : Option Id3) = some (0, 20, 1) := by subst c1; decide
    refine And.intro trivial ?_
    show K (some (vr (some (0, 20, 1)))) m
    rw [← e]
    exact h
  · first | exact absurd (kd_lo c1) (fun z => by rw [z] at y; omega) | (subst c1; exact absurd y (by decide))
  · have e : (some (0, 20, kd v) : Option Id3) = some (0, 20, 0) := by subst c1; decide
    refine And.intro trivial ?_
    show K (some (vr (some (0, 20, 0)))) m
    rw [← e]
    exact h
  · first | exact absurd (kd_lo c1) (fun z => by rw [z] at y; omega) | (subst c1; exact absurd y (by decide))
  · first | exact absurd (kd_lo c1) (fun z => by rw [z] at y; omega) | (subst c1; exact absurd y (by decide))
  · first | exact absurd (kd_lo c1) (fun z => by rw [z] at y; omega) | (subst c1; exact absurd y (by decide))
  · first | exact absurd (kd_lo c1) (fun z => by rw [z] at y; omega) | (subst c1; exact absurd y (by decide))
  · have e : (some (0, 20, kd v) : Option Id3) = some (0, 20, 2) := by subst c1; decide
    refine And.intro trivial ?_
    show K (some (vr (some (0, 20, 2)))) m
    rw [← e]
    exact h
  · first | exact absurd (kd_lo c1) (fun z => by rw [z] at y; omega) | (subst c1; exact absurd y (by decide))
  · first | exact absurd (kd_lo c1) (fun z => by rw [z] at y; omega) | (subst c1; exact absurd y (by decide))
  · first | exact absurd (kd_lo c1) (fun z => by rw [z] at y; omega) | (subst c1; exact absurd y (by decide))
  · first | exact absurd (kd_lo c1) (fun z => by rw [z] at y; omega) | (subst c1; exact absurd y (by decide))
  · first | exact absurd (kd_lo c1) (fun z => by rw [z] at y; omega) | (subst c1; exact absurd y (by decide))
  · first | exact absurd (kd_lo c1) (fun z => by rw [z] at y; omega) | (subst c1; exact absurd y (by decide))
  · first | exact absurd (kd_lo c1) (fun z => by rw [z] at y; omega) | (subst c1; exact absurd y (by decide))
  · have e : (some (0, 20, kd v) : Option Id3) = some (0, 20, 4) := by subst c1; decide
    refine And.intro trivial ?_
    show K (some (vr (some (0, 20, 4)))) m
    rw [← e]
    exact h

theorem m_Ki_byLetter0 {d : Nat} {m : Mem} {K : Option Vv → Mem → Prop} (hR : OKR m) {v : Int32} (y : ¬ kd v < 6) (h : K (some (vr none)) m) : cW (d + 1) n_Ki_byLetter [vi v] m K := by
  refine w_Ki_byLetter (Go.runR (callT_mono MT _) [] 200 hR ?_)
  refine And.intro (fun c1 => ?_) (And.intro (fun c1 => ?_) (And.intro (fun c1 => ?_) (And.intro (fun c1 => ?_) (And.intro (fun c1 => ?_) (And.intro (fun c1 => ?_) (And.intro (fun c1 => ?_) (And.intro (fun c1 => ?_) (And.intro (fun c1 => ?_) (And.intro (fun c1 => ?_) (And.intro (fun c1 => ?_) (And.intro (fun c1 => ?_) (And.intro (fun c1 => ?_) (And.intro (fun c1 => ?_) (And.intro (fun c1 => ?_) (And.intro (fun c1 => ?_) (And.intro (fun c1 => ?_) (And.intro (fun c1 => ?_) (And.intro (fun c1 => ?_) (And.intro (fun c1 => ?_) (And.intro (fun c1 => ?_) (trivial)))))))))))))))))))))
  · try dsimp only at c1
    refine And.intro trivial ?_
    exact h
  · (subst c1; exact absurd (by decide) y)
  · (subst c1; exact absurd (by decide) y)
  · try dsimp only at c1
    refine And.intro trivial ?_
    exact h
  · try dsimp only at c1
    refine And.intro trivial ?_
    exact h
  · (subst c1; exact absurd (by decide) y)
  · try dsimp only at c1
    refine And.intro trivial ?_
    exact h
  · (subst c1; exact absurd (by decide) y)
  · try dsimp only at c1
    refine And.intro trivial ?_
    exact h
  · try dsimp only at c1
    refine And.intro trivial ?_
    exact h
  · try dsimp only at c1
    refine And.intro trivial ?_
    exact h
  · try dsimp only at c1
    refine And.intro trivial ?_
    exact h
  · (subst c1; exact absurd (by decide) y)
  · try dsimp only at c1
    refine And.intro trivial ?_
    exact h
  · try dsimp only at c1
    refine And.intro trivial ?_
    exact h
  · try dsimp only at c1
    refine And.intro trivial ?_
    exact h
  · try dsimp only at c1
    refine And.intro trivial ?_
    exact h
  · try dsimp only at c1
    refine And.intro trivial ?_
    exact h
  · try dsimp only at c1
    refine And.intro trivial ?_
    exact h
  · try dsimp only at c1
    refine And.intro trivial ?_
    exact h
  · (subst c1; exact absurd (by decide) y)

theorem m_Gr_isFigure {d : Nat} {m : Mem} {K : Option Vv → Mem → Prop} (hR : OKR m) {v : Int32} (h : K (some (vi (b2 (48 ≤ v ∧ v ≤ 57)))) m) : cW (d + 1) n_Gr_isFigure [vi v] m K := by
  refine w_Gr_isFigure (Go.runR (callT_mono MT _) [] 200 hR ?_)
  refine And.intro (fun c2 => ?_) (fun c2 => ?_)
  · try dsimp only at c2
    refine And.intro (by first | exact Or.inl rfl | exact Or.inr rfl | grind) ?_
    exact kvi (by grind) h
  · try dsimp only at c2
    refine And.intro (fun c5 => ?_) (fun c5 => ?_)
    · try dsimp only at c5
      refine And.intro (by first | exact Or.inl rfl | exact Or.inr rfl | grind) ?_
      exact kvi (by grind) h
    · try dsimp only at c5
      refine And.intro (by first | exact Or.inl rfl | exact Or.inr rfl | grind) ?_
      exact kvi (by grind) h

theorem m_Gr_canBegin {d : Nat} {m : Mem} {K : Option Vv → Mem → Prop} (hR : OKR m) {v x : Int32} {i : Nat} (hx : x = nI i) (hi : i ≤ 9) (h : K (some (vi (b2 (begP v i)))) m) : cW (d + 2) n_Gr_canBegin [vi v, vi x] m K := by
  subst hx
  have e0 : nI i = 0 ↔ i = 0 := nI_eq (b := 0) (by omega) (by omega)
  have e8 : nI 8 < nI i ↔ 8 < i := nI_ltI (by omega) (by omega)
  by_cases y : kd v < 6
  · refine w_Gr_canBegin (Go.runR (callT_mono MT _) [] 200 hR ?_)
    refine And.intro (fun c1 => ?_) (fun c1 => ?_)
    · try dsimp only at c1
      refine And.intro (fun c4 => ?_) (fun c4 => ?_)
      · try dsimp only at c4
        refine And.intro (by first | exact Or.inl rfl | exact Or.inr rfl | grind) ?_
        first | exact kvi (if_pos (Or.inl ⟨e0.mp c1, c4⟩)).symm h | exact kvi (if_neg (fun z => z.elim (fun q => c4 q.2) (fun q => by have := e0.mp c1; omega))).symm h
      · try dsimp only at c4
        refine And.intro (by first | exact Or.inl rfl | exact Or.inr rfl | grind) ?_
        first | exact kvi (if_pos (Or.inl ⟨e0.mp c1, c4⟩)).symm h | exact kvi (if_neg (fun z => z.elim (fun q => c4 q.2) (fun q => by have := e0.mp c1; omega))).symm h
    · try dsimp only at c1
      refine And.intro (fun c11 => ?_) (fun c11 => ?_)
      · try dsimp only at c11
        refine And.intro (by first | exact Or.inl rfl | exact Or.inr rfl | grind) ?_
        first | exact kvi (if_pos (Or.inr ⟨Nat.pos_of_ne_zero (fun z => c1 (e0.mpr z)), by have := mt e8.mpr c11; omega, y⟩)).symm h | exact kvi (if_neg (fun z => z.elim (fun q => c1 (e0.mpr q.1)) (fun q => by have := e8.mp c11; omega))).symm h | exact kvi (if_neg (fun z => z.elim (fun q => c1 (e0.mpr q.1)) (fun q => y q.2.2))).symm h
      · try dsimp only at c11
        refine m_Ki_byLetter1 hR y (And.intro (by repeat' (first | exact hR | apply OKR.pI | apply OKR.pL | apply OKR.cpI | apply OKR.wI)) ?_)
        refine And.intro (by first | exact Or.inl rfl | exact Or.inr rfl | grind) ?_
        first | exact kvi (if_pos (Or.inr ⟨Nat.pos_of_ne_zero (fun z => c1 (e0.mpr z)), by have := mt e8.mpr c11; omega, y⟩)).symm h | exact kvi (if_neg (fun z => z.elim (fun q => c1 (e0.mpr q.1)) (fun q => by have := e8.mp c11; omega))).symm h | exact kvi (if_neg (fun z => z.elim (fun q => c1 (e0.mpr q.1)) (fun q => y q.2.2))).symm h
  · refine w_Gr_canBegin (Go.runR (callT_mono MT _) [] 200 hR ?_)
    refine And.intro (fun c1 => ?_) (fun c1 => ?_)
    · try dsimp only at c1
      refine And.intro (fun c4 => ?_) (fun c4 => ?_)
      · try dsimp only at c4
        refine And.intro (by first | exact Or.inl rfl | exact Or.inr rfl | grind) ?_
        first | exact kvi (if_pos (Or.inl ⟨e0.mp c1, c4⟩)).symm h | exact kvi (if_neg (fun z => z.elim (fun q => c4 q.2) (fun q => by have := e0.mp c1; omega))).symm h
      · try dsimp only at c4
        refine And.intro (by first | exact Or.inl rfl | exact Or.inr rfl | grind) ?_
        first | exact kvi (if_pos (Or.inl ⟨e0.mp c1, c4⟩)).symm h | exact kvi (if_neg (fun z => z.elim (fun q => c4 q.2) (fun q => by have := e0.mp c1; omega))).symm h
    · try dsimp only at c1
      refine And.intro (fun c11 => ?_) (fun c11 => ?_)
      · try dsimp only at c11
        refine And.intro (by first | exact Or.inl rfl | exact Or.inr rfl | grind) ?_
        first | exact kvi (if_pos (Or.inr ⟨Nat.pos_of_ne_zero (fun z => c1 (e0.mpr z)), by have := mt e8.mpr c11; omega, y⟩)).symm h | exact kvi (if_neg (fun z => z.elim (fun q => c1 (e0.mpr q.1)) (fun q => by have := e8.mp c11; omega))).symm h | exact kvi (if_neg (fun z => z.elim (fun q => c1 (e0.mpr q.1)) (fun q => y q.2.2))).symm h
      · try dsimp only at c11
        refine m_Ki_byLetter0 hR y (And.intro (by repeat' (first | exact hR | apply OKR.pI | apply OKR.pL | apply OKR.cpI | apply OKR.wI)) ?_)
        refine And.intro (by first | exact Or.inl rfl | exact Or.inr rfl | grind) ?_
        first | exact kvi (if_pos (Or.inr ⟨Nat.pos_of_ne_zero (fun z => c1 (e0.mpr z)), by have := mt e8.mpr c11; omega, y⟩)).symm h | exact kvi (if_neg (fun z => z.elim (fun q => c1 (e0.mpr q.1)) (fun q => by have := e8.mp c11; omega))).symm h | exact kvi (if_neg (fun z => z.elim (fun q => c1 (e0.mpr q.1)) (fun q => y q.2.2))).symm h

theorem l_Gr_eof {d c n : Nat} {b : Nat → Int32} {m : Mem} {K : Option Vv → Mem → Prop} (hR : OKR m) (hc : c < 10) (hl : n ≤ ln (0, 2, c)) (hn : n ≤ 80) (tx : gI m (0, 1, c) 1 = nI n) (tb : ∀ k, k < n → gI m (0, 2, c) k = b k) {q : Nat} (hq : q ≤ 100) (h : ∀ e, (e = q ∧ ¬ figP b n q) ∨ (e = q + 1 ∧ figP b n q ∧ ¬ figP b n (q + 1)) ∨ (e = q + 2 ∧ figP b n q ∧ figP b n (q + 1)) → K (some (vi (nI e))) m) (k : Nat) (hk : k ≤ 2) (H : ∀ j, j < k → figP b n (q + j)) : Go (cW (d + 2)) i_Gr_endOfFigures (0, 0) K 2 [vo 0 1 c, vi (nI q), vi (nI (q + k))] [] m 0 0 := by
  have e2 : nI q + 3 - 1 = nI (q + 2) := by rw [show (3 : Int32) = nI 3 from rfl, show (1 : Int32) = nI 1 from rfl, nI_add, pk_sub (by omega)]; rfl
  have e3 : nI (q + 2) ≤ nI (q + k) ↔ q + 2 ≤ q + k := nI_leI (by omega) (by omega)
  refine Go.runR (callT_mono MT _) [2] 200 hR ?_
  refine And.intro (fun c8 => ?_) (fun c8 => ?_)
  · try dsimp only at c8
    obtain rfl : k = 2 := by rw [e2] at c8; have := e3.mp c8; omega
    refine And.intro trivial ?_
    first
    | exact h (q + 2) (Or.inr (Or.inr ⟨by omega, by have := H 0 (by omega); exact this, by have := H 1 (by omega); exact this⟩))
    | exact fin nf
  · try dsimp only at c8
    have hk2 : k < 2 := by rw [e2] at c8; have := mt e3.mpr c8; omega
    have fin : ¬ figP b n (q + k) → K (some (vi (nI (q + k)))) m := fun nf => by
      rcases Nat.lt_or_ge 0 k with z | z
      · obtain rfl : k = 1 := by omega
        exact h (q + 1) (Or.inr (Or.inl ⟨rfl, H 0 (by omega), nf⟩))
      · obtain rfl : k = 0 := by omega
        exact h q (Or.inl ⟨rfl, nf⟩)
    have fin := fin
    refine m_Ce_getB hR hc hl hn tx tb (p := q + k) rfl (by omega) (And.intro (by repeat' (first | exact hR | apply OKR.pI | apply OKR.pL | apply OKR.cpI | apply OKR.wI)) ?_)
    refine m_Gr_isFigure (by repeat' (first | exact hR | apply OKR.pI | apply OKR.pL | apply OKR.cpI | apply OKR.wI))  (And.intro (by repeat' (first | exact hR | apply OKR.pI | apply OKR.pL | apply OKR.cpI | apply OKR.wI)) ?_)
    refine And.intro (fun c13 => ?_) (fun c13 => ?_)
    · try dsimp only at c13
      have nf : ¬ figP b n (q + k) := fun z => absurd ((show b2 (48 ≤ gb b n (q + k) ∧ gb b n (q + k) ≤ 57) = 1 from if_pos (gb_fig.mpr z)).symm.trans c13) (by decide)
      refine And.intro trivial ?_
      first
      | exact h (q + 2) (Or.inr (Or.inr ⟨by omega, by have := H 0 (by omega); exact this, by have := H 1 (by omega); exact this⟩))
      | exact fin nf
    · try dsimp only at c13
      have yf : figP b n (q + k) := Classical.byContradiction fun z => c13 (if_neg (fun y => z (gb_fig.mp y)))
      exact go_eq (by rw [← nI_succ]; rfl) rfl (l_Gr_eof hR hc hl hn tx tb hq h (k + 1) (by omega) (fun j hj => by
      rcases Nat.lt_or_ge j k with z | z
      · exact H j z
      · obtain rfl : j = k := by omega
        exact yf))
termination_by 2 - k
decreasing_by all_goals omega

theorem m_Gr_endOfFigures {d c n : Nat} {b : Nat → Int32} {m : Mem} {K : Option Vv → Mem → Prop} (hR : OKR m) (hc : c < 10) (hl : n ≤ ln (0, 2, c)) (hn : n ≤ 80) (tx : gI m (0, 1, c) 1 = nI n) (tb : ∀ k, k < n → gI m (0, 2, c) k = b k) {v : Int32} {q : Nat} (hv : v = nI q) (hq : q ≤ 100) (h : ∀ e, (e = q ∧ ¬ figP b n q) ∨ (e = q + 1 ∧ figP b n q ∧ ¬ figP b n (q + 1)) ∨ (e = q + 2 ∧ figP b n q ∧ figP b n (q + 1)) → K (some (vi (nI e))) m) : cW (d + 3) n_Gr_endOfFigures [vo 0 1 c, vi v] m K := by
  subst hv
  refine w_Gr_endOfFigures (Go.runR (callT_mono MT _) [2] 200 hR ?_)
  exact l_Gr_eof hR hc hl hn tx tb hq h 0 (by omega) (fun j hj => absurd hj (by omega))

theorem l_Gr_faultOf {d c n : Nat} {b : Nat → Int32} {m : Mem} {K : Option Vv → Mem → Prop} (hR : OKR m) (hc : c < 10) (hl : n ≤ ln (0, 2, c)) (hn : n ≤ 80) (tx : gI m (0, 1, c) 1 = nI n) (tb : ∀ k, k < n → gI m (0, 2, c) k = b k) (f p i : Nat) (x : Vv) (hf : n < f + p) (hp : p ≤ n) (hi : i ≤ 9) (h : K (some (vi (fo b n f p i))) m) : Go (cW (d + 3)) i_Gr_faultOf (0, 0) K 4 [vo 0 1 c, vi (nI i), vi (nI p), x] [] m 0 0 := by
  obtain ⟨f, rfl⟩ : ∃ g, f = g + 1 := ⟨f - 1, by omega⟩
  have e0 : nI i = 0 ↔ i = 0 := nI_eq (b := 0) (by omega) (by omega)
  have e3 : nI p + 3 = nI (p + 3) := by rw [show (3 : Int32) = nI 3 from rfl, nI_add]
  refine Go.runR (callT_mono MT _) [4] 200 hR ?_
  refine And.intro (fun c7 => ?_) (fun c7 => ?_)
  · try dsimp only at c7
    have hk2 : p = n := lq_e c7 tx rfl hp (by omega)
    rw [fo_end (by omega)] at h
    refine And.intro (fun c40 => ?_) (fun c40 => ?_)
    · try dsimp only at c40
      refine And.intro trivial ?_
      first
      | (rw [if_pos (e0.mp c40)] at h; exact kvi tx h)
      | (rw [if_neg (fun z => c40 (e0.mpr z))] at h; exact h)
    · try dsimp only at c40
      refine And.intro trivial ?_
      first
      | (rw [if_pos (e0.mp c40)] at h; exact kvi tx h)
      | (rw [if_neg (fun z => c40 (e0.mpr z))] at h; exact h)
  · try dsimp only at c7
    have hk2 := lq_m c7 tx rfl hp (by omega)
    refine m_Ce_getB hR hc hl hn tx tb (p := p) rfl (by omega) (And.intro (by repeat' (first | exact hR | apply OKR.pI | apply OKR.pL | apply OKR.cpI | apply OKR.wI)) ?_)
    rw [show gb b n p = b p from if_pos hk2]
    refine And.intro (fun c12 => ?_) (fun c12 => ?_)
    · try dsimp only at c12
      first
      | exact go_eq (by rw [nI_1]; first | done | rfl) rfl (l_Gr_faultOf hR hc hl hn tx tb f (p + 1) i x (by omega) (by omega) hi (by rw [fo_bl hk2 c12] at h; exact h))
      | exact go_eq (by rw [nI_1, e3]; first | done | rfl) rfl (l_Gr_faultOf hR hc hl hn tx tb f (p + 3) (i + 1) (vi (nI e)) (by omega) (by have := ee.2.2.1; omega) (by omega) (by rw [fo_on hk2 c12 yb ee.2.1 ee.2.2] at h; exact h))
    · try dsimp only at c12
      refine m_Ce_getB hR hc hl hn tx tb (p := p) rfl (by omega) (And.intro (by repeat' (first | exact hR | apply OKR.pI | apply OKR.pL | apply OKR.cpI | apply OKR.wI)) ?_)
      rw [show gb b n p = b p from if_pos hk2]
      refine m_Gr_canBegin hR (i := i) rfl hi (And.intro (by repeat' (first | exact hR | apply OKR.pI | apply OKR.pL | apply OKR.cpI | apply OKR.wI)) ?_)
      refine And.intro (fun c20 => ?_) (fun c20 => ?_)
      · try dsimp only at c20
        have yb : ¬ begP (b p) i := fun z => absurd ((show b2 (begP (b p) i) = 1 from if_pos z).symm.trans c20) (by decide)
        refine And.intro trivial ?_
        rw [fo_beg hk2 c12 yb] at h
        exact h
      · try dsimp only at c20
        have yb : begP (b p) i := Classical.byContradiction fun z => c20 (if_neg z)
        refine m_Gr_endOfFigures hR hc hl hn tx tb (q := p + 1) (nI_1 p) (by omega) (fun e he => And.intro (by repeat' (first | exact hR | apply OKR.pI | apply OKR.pL | apply OKR.cpI | apply OKR.wI)) ?_)
        refine And.intro (fun c33 => ?_) (fun c33 => ?_)
        · try dsimp only at c33
          have ee : e = p + 3 ∧ figP b n (p + 1) ∧ figP b n (p + 2) := by
            rw [e3] at c33
            have g := (nI_leI (by omega) (by omega)).mp c33
            rcases he with z | z | z
            · omega
            · omega
            · exact ⟨by omega, z.2.1, z.2.2⟩
          have i8 : i ≤ 8 := by rcases yb with z | z <;> omega
          first
          | exact go_eq (by rw [nI_1]; first | done | rfl) rfl (l_Gr_faultOf hR hc hl hn tx tb f (p + 1) i x (by omega) (by omega) hi (by rw [fo_bl hk2 c12] at h; exact h))
          | exact go_eq (by rw [nI_1, e3]; first | done | rfl) rfl (l_Gr_faultOf hR hc hl hn tx tb f (p + 3) (i + 1) (vi (nI e)) (by omega) (by have := ee.2.2.1; omega) (by omega) (by rw [fo_on hk2 c12 yb ee.2.1 ee.2.2] at h; exact h))
        · try dsimp only at c33
          have ee : (e = p + 1 ∧ ¬ figP b n (p + 1)) ∨ (e = p + 2 ∧ figP b n (p + 1) ∧ ¬ figP b n (p + 2)) := by
            rw [e3] at c33
            have g := mt (nI_leI (by omega) (by omega)).mpr c33
            rcases he with z | z | z
            · exact Or.inl z
            · exact Or.inr z
            · omega
          have ee := ee
          refine And.intro trivial ?_
          rcases ee with ⟨rfl, z⟩ | ⟨rfl, z1, z2⟩
          · rw [fo_f1 hk2 c12 yb z] at h
            exact h
          · rw [fo_f2 hk2 c12 yb z1 z2] at h
            exact h
termination_by f
decreasing_by all_goals omega

theorem m_Gr_faultOf {d c n : Nat} {b : Nat → Int32} {m : Mem} {K : Option Vv → Mem → Prop} (hR : OKR m) (hc : c < 10) (hl : n ≤ ln (0, 2, c)) (hn : n ≤ 80) (tx : gI m (0, 1, c) 1 = nI n) (tb : ∀ k, k < n → gI m (0, 2, c) k = b k) {x : Nat} (hx : x = c) (h : K (some (vi (fo b n (n + 1) 0 0))) m) : cW (d + 4) n_Gr_faultOf [vo 0 1 x] m K := by
  subst hx
  refine w_Gr_faultOf (Go.runR (callT_mono MT _) [4] 200 hR ?_)
  exact l_Gr_faultOf hR hc hl hn tx tb (n + 1) 0 0 _ (by omega) (by omega) (by omega) h
