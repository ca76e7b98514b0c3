/-! Written by a program (wip/whole/p53.py): hours, the sets within a set. -/
theorem and_d2 (a b : Nat) : (a &&& b) / 2 = a / 2 &&& b / 2 := Nat.eq_of_testBit_eq fun i => by simp only [Nat.testBit_div_two, Nat.testBit_and]
theorem and_m2 (a b : Nat) : (a &&& b) % 2 = 1 ↔ a % 2 = 1 ∧ b % 2 = 1 := by
  rw [Nat.mod_two_eq_one_iff_testBit_zero, Nat.mod_two_eq_one_iff_testBit_zero, Nat.mod_two_eq_one_iff_testBit_zero, Nat.testBit_and, Bool.and_eq_true]
/-- the sets within s are met one after another, from above -/
theorem sub_next (p : Nat) : ∀ s q : Nat, p &&& s = p → q &&& s = q → q < p → q ≤ (p - 1) &&& s := by
  induction p using Nat.strongRecOn with
  | ind p ih =>
    intro s q hp hq h
    have p2 := and_d2 p s
    have q2 := and_d2 q s
    have n2 := and_d2 (p - 1) s
    have pm := and_m2 p s
    have qm := and_m2 q s
    have nm := and_m2 (p - 1) s
    rw [hp] at p2 pm
    rw [hq] at q2 qm
    generalize hz : (p - 1) &&& s = z at *
    rcases Nat.mod_two_eq_zero_or_one p with e | e
    · have i := ih (p / 2) (by omega) (s / 2) (q / 2) p2.symm q2.symm (by omega)
      rw [show p / 2 - 1 = (p - 1) / 2 by omega, ← n2] at i
      omega
    · have e1 : (p - 1) / 2 = p / 2 := by omega
      rw [e1, ← p2] at n2
      omega
theorem sb_iff : ∀ s, s < 256 → ∀ w, w < 256 → ((s &&& (255 ^^^ w)) = 0 ↔ s &&& w = s) := by decide +kernel
theorem sb_sub : ∀ s, s < 256 → ∀ p, p < 256 → p &&& s = p → s &&& (255 ^^^ p) = s - p := by decide +kernel
theorem pc_del : ∀ s, s < 256 → ∀ i, i < 8 → s.testBit i = true → pc (s - 2 ^ i) + 1 = pc s := by decide +kernel
theorem one_sub : ∀ s, s < 256 → ∀ i, i < 8 → s.testBit i = true → 2 ^ i &&& s = 2 ^ i := by decide +kernel
theorem sb_z {s w : Nat} (hs : s < 256) (hw : w < 256) : nI s &&& (nI w ^^^ (-1)) = 0 ↔ s &&& w = s := by
  rw [andnot hs hw, nI_z (Nat.lt_trans (and_lt256 hs) (by decide))]
  exact sb_iff s hs w hw
theorem sb_le {p s : Nat} (h : p &&& s = p) : p ≤ s := by rw [← h]; exact Nat.and_le_right
theorem sb_rest {s p w : Nat} (hs : s < 256) (hp : p &&& s = p) (hw : s &&& w = s) : (s - p) &&& w = s - p := by
  rw [← sb_sub s hs p (Nat.lt_of_le_of_lt (sb_le hp) hs) hp, Nat.and_assoc, Nat.and_comm (255 ^^^ p) w, ← Nat.and_assoc, hw]
/-- v is the least of B and of one more than what is left costs, over the parts that hold -/
def Mn (B : Nat) (V : Nat → Prop) (s : Nat) (T : Nat → Nat) (p v : Nat) : Prop := v ≤ B ∧ (∀ q, p < q → q &&& s = q → V q → v ≤ T (s - q) + 1) ∧ (v = B ∨ ∃ q, p < q ∧ q &&& s = q ∧ V q ∧ v = T (s - q) + 1)
theorem Mn.uniq {B : Nat} {V : Nat → Prop} {s : Nat} {T : Nat → Nat} {p v w : Nat} (h : Mn B V s T p v) (g : Mn B V s T p w) : v = w := by
  have a : v ≤ w := by
    rcases g.2.2 with e | ⟨q, h1, h2, h3, e⟩
    · rw [e]; exact h.1
    · rw [e]; exact h.2.1 q h1 h2 h3
  have b : w ≤ v := by
    rcases h.2.2 with e | ⟨q, h1, h2, h3, e⟩
    · rw [e]; exact g.1
    · rw [e]; exact g.2.1 q h1 h2 h3
  omega
theorem Mn.top (B : Nat) (V : Nat → Prop) (s : Nat) (T : Nat → Nat) : Mn B V s T s B := ⟨Nat.le_refl _, fun q h1 h2 => absurd (sb_le h2) (by omega), Or.inl rfl⟩
theorem Mn.step {B : Nat} {V : Nat → Prop} {s : Nat} {T : Nat → Nat} {p v w : Nat} (h : Mn B V s T p v) (hp0 : 0 < p) (hp : p &&& s = p) (hw : (V p ∧ w = if T (s - p) + 1 < v then T (s - p) + 1 else v) ∨ (¬ V p ∧ w = v)) : Mn B V s T ((p - 1) &&& s) w := by
  have lt : (p - 1) &&& s < p := Nat.lt_of_le_of_lt Nat.and_le_left (by omega)
  have cs : ∀ q, (p - 1) &&& s < q → q &&& s = q → q = p ∨ p < q := fun q h1 h2 => by
    rcases Nat.lt_or_ge p q with z | z
    · exact Or.inr z
    · rcases Nat.lt_or_ge q p with y | y
      · have := sub_next p s q hp h2 y
        omega
      · exact Or.inl (by omega)
  obtain ⟨a, b, c⟩ := h
  rcases hw with ⟨hv, e⟩ | ⟨hv, e⟩
  · refine ⟨by rw [e]; split <;> omega, fun q h1 h2 h3 => ?_, ?_⟩
    · rcases cs q h1 h2 with y | y
      · subst y
        rw [e]; split <;> omega
      · have := b q y h2 h3
        rw [e]; split <;> omega
    · by_cases z : T (s - p) + 1 < v
      · rw [if_pos z] at e
        exact Or.inr ⟨p, lt, hp, hv, e⟩
      · rw [if_neg z] at e
        rcases c with y | ⟨q, h1, h2, h3, h4⟩
        · exact Or.inl (e.trans y)
        · exact Or.inr ⟨q, by omega, h2, h3, e.trans h4⟩
  · subst e
    refine ⟨a, fun q h1 h2 h3 => ?_, ?_⟩
    · rcases cs q h1 h2 with y | y
      · subst y; exact absurd h3 hv
      · exact b q y h2 h3
    · rcases c with y | ⟨q, h1, h2, h3, h4⟩
      · exact Or.inl y
      · exact Or.inr ⟨q, by omega, h2, h3, h4⟩
def vaB (n : Nat) (D : SDt) (c q : Nat) : Prop := rs n D q ≤ c
/-- the table: T s is the least for every set within w -/
def HtR (B n : Nat) (D : SDt) (c w : Nat) (T : Nat → Nat) : Prop := T 0 = 0 ∧ ∀ s, 0 < s → s &&& w = s → s < 256 → Mn B (vaB n D c) s T 0 (T s)
theorem rs_pow {n : Nat} {D : SDt} {i s : Nat} (hi : i < n) (hb : s.testBit i = true) : rp D i ≤ rs n D s := by
  have key : ∀ k, i < k → rp D i ≤ rs k D s := fun k => by
    induction k with
    | zero => intro h; omega
    | succ k ih =>
      intro h
      by_cases y : k = i
      · subst y
        rw [rs_s1 hb]; omega
      · have := ih (by omega)
        by_cases z : s.testBit k = true
        · rw [rs_s1 z]; omega
        · rw [rs_s0 z]; exact this
  exact key n hi
theorem rs_one {n : Nat} {D : SDt} {i : Nat} (hi : i < n) : rs n D (2 ^ i) = rp D i := by
  have key : ∀ k, rs k D (2 ^ i) = if i < k then rp D i else 0 := fun k => by
    induction k with
    | zero => rfl
    | succ k ih =>
      by_cases y : k = i
      · subst y
        rw [rs_s1 (Nat.testBit_two_pow_self), ih, if_neg (by omega), if_pos (by omega), Nat.zero_add]
      · rw [rs_s0 (by rw [Nat.testBit_two_pow_of_ne (Ne.symm y)]; decide), ih]
        by_cases z : i < k
        · rw [if_pos z, if_pos (by omega)]
        · rw [if_neg z, if_neg (by omega)]
  rw [key n, if_pos hi]
theorem sb_bit {s w i : Nat} (h : s &&& w = s) (hb : s.testBit i = true) : w.testBit i = true := by
  rw [← h, Nat.testBit_and, Bool.and_eq_true] at hb
  exact hb.2
/-- no HOUSE alone is too much: few HOURS -/
theorem ht_le {B n : Nat} {D : SDt} {c w : Nat} {T : Nat → Nat} (h8 : n ≤ 8) (hw : w < 2 ^ n) (H : HtR B n D c w T) (hg : ∀ i, i < n → w.testBit i = true → rp D i ≤ c) (s : Nat) : s &&& w = s → T s ≤ pc s := by
  have b2 := two_l n (by omega)
  induction s using Nat.strongRecOn with
  | ind s ih =>
    intro hs
    have hle := sb_le hs
    rcases Nat.eq_zero_or_pos s with z | z
    · rw [z, H.1]; exact Nat.zero_le _
    · obtain ⟨i, hi, hb⟩ := ex_bit z (show s < 2 ^ n by omega)
      have p := two_p i
      have tl := tb_le hb
      have os := one_sub s (by omega) i (by omega) hb
      have a := (H.2 s z hs (by omega)).2.1 (2 ^ i) p os (by show rs n D (2 ^ i) ≤ c; rw [rs_one hi]; exact hg i hi (sb_bit hs hb))
      have b := ih (s - 2 ^ i) (by omega) (sb_rest (by omega) os hs)
      have e := pc_del s (by omega) i (by omega) hb
      omega
theorem ht_eq {B B' n : Nat} {D : SDt} {c w : Nat} {T T' : Nat → Nat} (h8 : n ≤ 8) (hw : w < 2 ^ n) (hB : 8 < B) (hB' : 8 < B') (H : HtR B n D c w T) (H' : HtR B' n D c w T') (hg : ∀ i, i < n → w.testBit i = true → rp D i ≤ c) (s : Nat) : s &&& w = s → T s = T' s := by
  have b2 := two_l n (by omega)
  induction s using Nat.strongRecOn with
  | ind s ih =>
    intro hs
    have hle := sb_le hs
    rcases Nat.eq_zero_or_pos s with z | z
    · rw [z, H.1, H'.1]
    · have l1 := ht_le h8 hw H hg s hs
      have l2 := ht_le h8 hw H' hg s hs
      have l3 := pcL s (by omega)
      obtain ⟨-, b, a⟩ := H.2 s z hs (by omega)
      obtain ⟨-, b', a'⟩ := H'.2 s z hs (by omega)
      obtain ⟨q, q1, q2, q3, q4⟩ := a.resolve_left (by omega)
      obtain ⟨r, r1, r2, r3, r4⟩ := a'.resolve_left (by omega)
      have c1 := b r r1 r2 r3
      have c2 := b' q q1 q2 q3
      have := sb_le q2
      have := sb_le r2
      rw [ih (s - r) (by omega) (sb_rest (by omega) r2 hs)] at c1
      rw [← ih (s - q) (by omega) (sb_rest (by omega) q2 hs)] at c2
      omega
theorem ht_bad {B n : Nat} {D : SDt} {c w : Nat} {T : Nat → Nat} (H : HtR B n D c w T) {i : Nat} (hi : i < n) (h8 : n ≤ 8) (hb : c < rp D i) (s : Nat) : s < 256 → s &&& w = s → s.testBit i = true → T s = B := by
  induction s using Nat.strongRecOn with
  | ind s ih =>
    intro h256 hs ht
    have tl := tb_le ht
    have tp := two_p i
    obtain ⟨a, -, c⟩ := H.2 s (by omega) hs h256
    rcases c with y | ⟨q, h1, h2, h3, h4⟩
    · exact y
    · have nq : ¬ q.testBit i = true := fun z => by
        have := rs_pow (n := n) (D := D) hi z
        have h3 : rs n D q ≤ c := h3
        omega
      have le := sb_le h2
      have bq : (s - q).testBit i = true := by
        rw [← sb_sub s h256 q (by omega) h2, Nat.testBit_and, Nat.testBit_xor, nt_b i (by omega), ht, Bool.true_xor, Bool.true_and]
        simp only [Bool.not_eq_true] at nq
        rw [nq]; rfl
      have := ih (s - q) (by omega) (by omega) (sb_rest h256 h2 hs) bq
      omega
/-- a table as the two sides fill it: over all sets below k -/
def HtK (B n : Nat) (D : SDt) (c w : Nat) (T : Nat → Nat) (k : Nat) : Prop := T 0 = 0 ∧ ∀ s, 0 < s → s &&& w = s → s < k → Mn B (vaB n D c) s T 0 (T s)
theorem Mn.cg {B : Nat} {V : Nat → Prop} {s : Nat} {T T' : Nat → Nat} {p v : Nat} (h : ∀ q, q < s → T q = T' q) (hs : 0 < s) (H : Mn B V s T p v) : Mn B V s T' p v := by
  obtain ⟨a, b, c⟩ := H
  refine ⟨a, fun q h1 h2 h3 => ?_, ?_⟩
  · rw [← h (s - q) (by omega)]; exact b q h1 h2 h3
  · rcases c with y | ⟨q, h1, h2, h3, h4⟩
    · exact Or.inl y
    · exact Or.inr ⟨q, h1, h2, h3, by rw [← h (s - q) (by omega)]; exact h4⟩
theorem HtK.next {B n : Nat} {D : SDt} {c w : Nat} {T : Nat → Nat} {k v : Nat} (H : HtK B n D c w T k) (hk : 0 < k) (h : k &&& w = k → Mn B (vaB n D c) k T 0 v) : HtK B n D c w (fun s => if s = k then v else T s) (k + 1) := by
  refine ⟨by show (if 0 = k then v else T 0) = 0; rw [if_neg (by omega)]; exact H.1, fun s h0 h1 h2 => ?_⟩
  by_cases y : s = k
  · subst y
    show Mn _ _ _ _ _ (if s = s then v else T s)
    rw [if_pos rfl]
    exact (h h1).cg (fun q hq => by rw [if_neg (by omega)]) h0
  · show Mn _ _ _ _ _ (if s = k then v else T s)
    rw [if_neg y]
    exact (H.2 s h0 h1 (by omega)).cg (fun q hq => by rw [if_neg (by omega)]) h0
/-- the least part that can be the first -/
def Fo (n : Nat) (D : SDt) (c w : Nat) (T : Nat → Nat) (q : Nat) : Prop := q &&& w = q ∧ vaB n D c q ∧ T (w - q) + 1 = T w
def FiR (n : Nat) (D : SDt) (c w : Nat) (T : Nat → Nat) (p v : Nat) : Prop := (v = 0 ∧ ∀ q, p < q → ¬ Fo n D c w T q) ∨ (p < v ∧ Fo n D c w T v ∧ ∀ q, p < q → Fo n D c w T q → v ≤ q)
theorem FiR.uniq {n : Nat} {D : SDt} {c w : Nat} {T : Nat → Nat} {p u v : Nat} (h : FiR n D c w T p u) (g : FiR n D c w T p v) : u = v := by
  rcases h with ⟨h1, h2⟩ | ⟨h1, h2, h3⟩
  · rcases g with ⟨g1, g2⟩ | ⟨g1, g2, g3⟩
    · omega
    · exact absurd g2 (h2 v g1)
  · rcases g with ⟨g1, g2⟩ | ⟨g1, g2, g3⟩
    · exact absurd h2 (g2 u h1)
    · have := h3 v g1 g2
      have := g3 u h1 h2
      omega
theorem FiR.top (n : Nat) (D : SDt) (c w : Nat) (T : Nat → Nat) : FiR n D c w T w 0 := Or.inl ⟨rfl, fun q h1 h2 => absurd (sb_le h2.1) (by omega)⟩
theorem FiR.step {n : Nat} {D : SDt} {c w : Nat} {T : Nat → Nat} {p u v : Nat} (h : FiR n D c w T p u) (hp0 : 0 < p) (hp : p &&& w = p) (hv : (Fo n D c w T p ∧ v = p) ∨ (¬ Fo n D c w T p ∧ v = u)) : FiR n D c w T ((p - 1) &&& w) v := by
  have lt : (p - 1) &&& w < p := Nat.lt_of_le_of_lt Nat.and_le_left (by omega)
  have cs : ∀ q, (p - 1) &&& w < q → q &&& w = q → q = p ∨ p < q := fun q h1 h2 => by
    rcases Nat.lt_or_ge p q with z | z
    · exact Or.inr z
    · rcases Nat.lt_or_ge q p with y | y
      · have := sub_next p w q hp h2 y
        omega
      · exact Or.inl (by omega)
  rcases hv with ⟨f, e⟩ | ⟨f, e⟩
  · subst e
    refine Or.inr ⟨lt, f, fun q h1 h2 => ?_⟩
    rcases cs q h1 h2.1 with y | y <;> omega
  · subst e
    rcases h with ⟨h1, h2⟩ | ⟨h1, h2, h3⟩
    · refine Or.inl ⟨h1, fun q g1 g2 => ?_⟩
      rcases cs q g1 g2.1 with y | y
      · subst y; exact f g2
      · exact h2 q y g2
    · refine Or.inr ⟨by omega, h2, fun q g1 g2 => ?_⟩
      rcases cs q g1 g2.1 with y | y
      · subst y; exact absurd g2 f
      · exact h3 q y g2
