/-! Written by a program (wip/whole/p81.py): the small language; the reference reads it. -/
abbrev GS := (Nat → Nat) × (Nat → Nat) × (Nat → Nat) × Nat × Nat × Nat
def yK (S : GS) (j : Nat) : Nat := S.1 j
def yL (S : GS) (j : Nat) : Nat := S.2.1 j
def yW (S : GS) (j : Nat) : Nat := S.2.2.1 j
def yN (S : GS) : Nat := S.2.2.2.1
def yA (S : GS) : Nat := S.2.2.2.2.1
def yE (S : GS) : Nat := S.2.2.2.2.2
def dg (c : Int32) : Nat := (c - 48).toNatClampNeg
def gst (b : Nat → Int32) (p i : Nat) (S : GS) : GS := if i = 0 then (S.1, S.2.1, S.2.2.1, S.2.2.2.1, dg (b (p + 1)), dg (b (p + 2))) else (fun j => if j = yN S then kd (b p) else yK S j, fun j => if j = yN S then dg (b (p + 1)) else yL S j, fun j => if j = yN S then dg (b (p + 2)) else yW S j, yN S + 1, S.2.2.2.2.1, S.2.2.2.2.2)
def gsF (b : Nat → Int32) (n : Nat) : Nat → Nat → Nat → GS → GS
  | 0, _, _, S => S
  | f + 1, p, i, S => if n ≤ p then S else if b p = 32 then gsF b n f (p + 1) i S else gsF b n f (p + 3) (i + 1) (gst b p i S)
theorem gs_end {b : Nat → Int32} {n f p i : Nat} {S : GS} (h : n ≤ p) : gsF b n (f + 1) p i S = S := if_pos h
theorem gs_bl {b : Nat → Int32} {n f p i : Nat} {S : GS} (h : p < n) (q : b p = 32) : gsF b n (f + 1) p i S = gsF b n f (p + 1) i S := (if_neg (Nat.not_le.mpr h)).trans (if_pos q)
theorem gs_on {b : Nat → Int32} {n f p i : Nat} {S : GS} (h : p < n) (q : ¬ b p = 32) : gsF b n (f + 1) p i S = gsF b n f (p + 3) (i + 1) (gst b p i S) := (if_neg (Nat.not_le.mpr h)).trans (if_neg q)
theorem dg_of {c : Int32} (h : 48 ≤ c ∧ c ≤ 57) : c - 48 = nI (dg c) ∧ dg c ≤ 9 := by
  obtain ⟨j, hj, rfl⟩ := nI_of2 (x := c) (M := 57) (n := 57) rfl (fun z => by have := Int32.lt_of_lt_of_le z (show (0 : Int32) ≤ 48 by decide); exact absurd h.1 (Int32.not_le.mpr this)) h.2
  have g : 48 ≤ j := (nI_leI (a := 48) (by omega) (by omega)).mp h.1
  have e : nI j - 48 = nI (j - 48) := by rw [show (48 : Int32) = nI 48 from rfl, pk_sub g]
  unfold dg
  rw [e, nI_clamp (by omega)]
  exact ⟨rfl, by omega⟩
def BS (S : GS) (i : Nat) : Prop := ((i = 0 ∧ yN S = 0) ∨ i = yN S + 1) ∧ yN S ≤ 8 ∧ (0 < i → yA S ≤ 9 ∧ yE S ≤ 9) ∧ ∀ j, j < yN S → yK S j < 6 ∧ yL S j ≤ 9 ∧ yW S j ≤ 9
theorem gst_h {b : Nat → Int32} {p i : Nat} {S : GS} (h : 0 < i) : yN (gst b p i S) = yN S + 1 ∧ yA (gst b p i S) = yA S ∧ yE (gst b p i S) = yE S ∧ (∀ j, yK (gst b p i S) j = if j = yN S then kd (b p) else yK S j) ∧ (∀ j, yL (gst b p i S) j = if j = yN S then dg (b (p + 1)) else yL S j) ∧ ∀ j, yW (gst b p i S) j = if j = yN S then dg (b (p + 2)) else yW S j := by
  unfold gst
  rw [if_neg (by omega)]
  exact ⟨rfl, rfl, rfl, fun _ => rfl, fun _ => rfl, fun _ => rfl⟩
theorem gst_a {b : Nat → Int32} {p : Nat} {S : GS} : yN (gst b p 0 S) = yN S ∧ yA (gst b p 0 S) = dg (b (p + 1)) ∧ yE (gst b p 0 S) = dg (b (p + 2)) ∧ (∀ j, yK (gst b p 0 S) j = yK S j) ∧ (∀ j, yL (gst b p 0 S) j = yL S j) ∧ ∀ j, yW (gst b p 0 S) j = yW S j := ⟨rfl, rfl, rfl, fun _ => rfl, fun _ => rfl, fun _ => rfl⟩
theorem BS.next {b : Nat → Int32} {n p i : Nat} {S : GS} (H : BS S i) (hb : begP (b p) i) (h1 : figP b n (p + 1)) (h2 : figP b n (p + 2)) : BS (gst b p i S) (i + 1) := by
  obtain ⟨a1, a2, a3, a4⟩ := H
  have d1 := (dg_of h1.2).2
  have d2 := (dg_of h2.2).2
  rcases Nat.eq_zero_or_pos i with z | z
  · subst z
    obtain ⟨g1, g2, g3, g4, g5, g6⟩ := gst_a (b := b) (p := p) (S := S)
    have e : yN S = 0 := by omega
    refine ⟨Or.inr (by omega), by omega, fun _ => by rw [g2, g3]; exact ⟨d1, d2⟩, fun j hj => by omega⟩
  · obtain ⟨g1, g2, g3, g4, g5, g6⟩ := gst_h (b := b) (p := p) (S := S) z
    have k6 : kd (b p) < 6 ∧ i ≤ 8 := by rcases hb with y | y; omega; exact ⟨y.2.2, y.2.1⟩
    refine ⟨Or.inr (by omega), by omega, fun _ => by rw [g2, g3]; exact a3 z, fun j hj => ?_⟩
    rw [g4, g5, g6]
    by_cases y : j = yN S
    · rw [if_pos y, if_pos y, if_pos y]; exact ⟨k6.1, d1, d2⟩
    · rw [if_neg y, if_neg y, if_neg y]; exact a4 j (by omega)
def MS (S : GS) (i : Nat) (m : Mem) : Prop := gI m (1, 0, 0) 17 = nI (yN S) ∧ (0 < i → gI m (1, 0, 0) 18 = nI (yA S) ∧ gI m (1, 0, 0) 19 = nI (yE S)) ∧ ∀ j, j < yN S → gI m (1, 7, 0) (8 + j) = nI (yK S j) ∧ gI m (1, 8, 0) (8 + j) = nI (yL S j) ∧ gI m (1, 9, 0) (8 + j) = nI (yW S j)
theorem MS.wr {S : GS} {i : Nat} {m : Mem} (H : MS S i m) {t k : Nat} {v : Int32} (hk : (t = 0 ∧ k = 16) ∨ ((t = 7 ∨ t = 8 ∨ t = 9) ∧ k = 8 + yN S)) : MS S i (pI m (1, t, 0) k v) := by
  obtain ⟨a, b, c⟩ := H
  refine ⟨by rw [rd11, if_neg (by omega)]; exact a, fun z => by rw [rd11, if_neg (by omega), rd11, if_neg (by omega)]; exact b z, fun j hj => by rw [rd11, if_neg (by omega), rd11, if_neg (by omega), rd11, if_neg (by omega)]; exact c j hj⟩
/-- what reading writes: the reference's places 16 to 19, and the houses behind the eighth -/
def GF (m m' : Mem) : Prop := OKR m' ∧ (∀ o k, gR m' o k = gR m o k) ∧ (∀ o k, gL m' o k = gL m o k) ∧ (∀ t i k, gI m' (0, t, i) k = gI m (0, t, i) k) ∧ ∀ t i k, (t ≠ 0 ∨ k < 16 ∨ 19 < k) → ((t ≠ 7 ∧ t ≠ 8 ∧ t ≠ 9) ∨ k < 8) → gI m' (1, t, i) k = gI m (1, t, i) k
theorem GF.refl {m : Mem} (h : OKR m) : GF m m := ⟨h, fun _ _ => rfl, fun _ _ => rfl, fun _ _ _ => rfl, fun _ _ _ _ _ => rfl⟩
theorem GF.ok {m m' : Mem} (h : GF m m') : OKR m' := h.1
theorem GF.p1 {a m : Mem} (h : GF a m) {t k : Nat} {v : Int32} (hk : (t = 0 ∧ 16 ≤ k ∧ k ≤ 19) ∨ ((t = 7 ∨ t = 8 ∨ t = 9) ∧ 8 ≤ k)) : GF a (pI m (1, t, 0) k v) :=
  ⟨h.1.pI, fun o k => (gR_pI ..).trans (h.2.1 o k), fun o k => (gL_pI ..).trans (h.2.2.1 o k), fun t i k => h.2.2.2.1 t i k, fun t' i' k' q1 q2 => by rw [rd11, if_neg (by omega)]; exact h.2.2.2.2 t' i' k' q1 q2⟩
theorem SR.wl {s n H : Nat} {al wa ov : Int32} {wl wl' md pd db nt : Nat → Int32} {m : Mem} (h : ∀ i, i < n → wl' i = wl i) (R : SR s n H al wa ov wl md pd db nt m) : SR s n H al wa ov wl' md pd db nt m := by
  obtain ⟨a1, a2, a3, a4, a5, a6, a7, a8, a9⟩ := R
  exact ⟨a1, a2, a3, a4, a5, a6, fun i hi => by rw [h i hi]; exact a7 i hi, a8, a9⟩
theorem GF.rel {m m' : Mem} (g : GF m m') (R : RelAB m) : RelAB m' := by
  obtain ⟨a, b, c, d, n, e⟩ := R
  obtain ⟨g1, g2, g3, g4, g5⟩ := g
  refine ⟨g1, b.cg (fun r _ => g4 _ _ _) (fun r k _ => g4 _ _ _) (fun k => g5 _ _ _ (by omega) (by omega)) (fun k => g5 _ _ _ (by omega) (by omega)), c.cg (fun r => g4 _ _ _) (fun r k => g4 _ _ _) (fun k => g5 _ _ _ (by omega) (by omega)) (fun k => g5 _ _ _ (by omega) (by omega)), ?_, n, ?_⟩
  · unfold TellR at *
    rw [g4, g4, g4, g4, g5 0 0 0 (by omega) (by omega), g5 0 0 2 (by omega) (by omega), g3, g3, g3, g3]
    refine ⟨d.1, d.2.1, fun f q1 q2 => ?_, d.2.2.2⟩
    rw [g4, g5 1 0 f (by omega) (by omega)]
    exact d.2.2.1 f q1 q2
  · obtain ⟨h8, q, h0, h1⟩ := e
    have f10 := g5 0 0 10 (by omega) (by omega)
    have f11 := g5 0 0 11 (by omega) (by omega)
    have f12 := g5 0 0 12 (by omega) (by omega)
    have f20 := g5 0 0 20 (by omega) (by omega)
    have f21 := g5 0 0 21 (by omega) (by omega)
    have f22 := g5 0 0 22 (by omega) (by omega)
    have k10 : gI m' (1, 10, 0) = gI m (1, 10, 0) := funext fun k => g5 10 0 k (by omega) (by omega)
    have k11 : gI m' (1, 11, 0) = gI m (1, 11, 0) := funext fun k => g5 11 0 k (by omega) (by omega)
    have k12 : gI m' (1, 12, 0) = gI m (1, 12, 0) := funext fun k => g5 12 0 k (by omega) (by omega)
    have k13 : ∀ k, gI m' (1, 13, 0) k = gI m (1, 13, 0) k := fun k => g5 13 0 k (by omega) (by omega)
    have k18 : gI m' (1, 18, 0) = gI m (1, 18, 0) := funext fun k => g5 18 0 k (by omega) (by omega)
    refine ⟨h8, f10.trans q, fun z => ?_, fun z => ?_⟩
    · simp only [g4, f20, f21, f22, f11, f12, k13]
      exact h0 z
    · obtain ⟨⟨l1, l2⟩, ⟨H, s1, s2⟩, hk⟩ := h1 z
      refine ⟨⟨fun i hi => ?_, ?_⟩, ⟨H, f20.trans s1, ?_⟩, fun k hk2 => KeptR.cg (m := m) h8 (fun j => g4 _ _ _) (fun i j _ => g4 _ _ _) (fun i j _ => g4 _ _ _) (fun i j _ => g4 _ _ _) (fun i j _ => g4 _ _ _) k13 (fun i => kn_cg g2 i) (fun i _ => g4 _ _ _) (g4 _ _ _) (hk k hk2)⟩
      · rw [g5 7 0 i (by omega) (by omega), g5 8 0 i (by omega) (by omega), kn_cg g2 i, g4]
        exact l1 i hi
      · rw [g4, f12]
        exact l2
      · rw [f11, f21, f22, k10, k11, k18, k12]
        exact SR.wl (fun i hi => g5 9 0 i (by omega) (by omega)) (SR.cg (m := m) h8 (fun j => g4 _ _ _) (fun i j _ => g4 _ _ _) (fun i j _ => g4 _ _ _) (fun i j _ => g4 _ _ _) (fun i j _ => g4 _ _ _) s2)
def TM (t n : Nat) (b : Nat → Int32) (m : Mem) : Prop := t < 4 ∧ n ≤ 80 ∧ gI m (1, 5, 0) t = nI n ∧ ∀ k, k < n → gI m (1, 6, 0) (80 * t + k) = b k
theorem GF.tm {m m' : Mem} (g : GF m m') {t n : Nat} {b : Nat → Int32} (T : TM t n b m) : TM t n b m' := ⟨T.1, T.2.1, (g.2.2.2.2 5 0 t (by omega) (by omega)).trans T.2.2.1, fun k hk => (g.2.2.2.2 6 0 _ (by omega) (by omega)).trans (T.2.2.2 k hk)⟩
def hb (b : Nat → Int32) (n p : Nat) : Int32 := if p < n then b p else -9
theorem hb_fig {b : Nat → Int32} {n p : Nat} : (48 ≤ hb b n p ∧ hb b n p ≤ 57) ↔ figP b n p := by
  unfold hb figP
  by_cases h : p < n
  · rw [if_pos h]; exact ⟨fun z => ⟨h, z⟩, fun z => z.2⟩
  · rw [if_neg h]; exact ⟨fun z => absurd z.1 (by decide), fun z => absurd z.1 h⟩

theorem m_M_here {d n t p : Nat} {b : Nat → Int32} {m : Mem} {K : Option Vv → Mem → Prop} (hR : OKR m) (T : TM t n b m) {v : Int32} (hv : v = nI t) (q : gI m (1, 0, 0) 16 = nI p) (hp : p ≤ 200) (h : K (some (vi (hb b n p))) m) : cW (d + 1) n_M_here [vo 1 0 0, vi v] m K := by
  subst hv
  obtain ⟨t4, n80, t1, t2⟩ := T
  have e0 : (nI t).toNatClampNeg = t := nI_clamp (by omega)
  have e1 : 80 * nI t + nI p = nI (80 * t + p) := by rw [show (80 : Int32) = nI 80 from rfl, pk_mul, nI_add]
  have e2 : nI n ≤ nI p ↔ n ≤ p := nI_leI (by omega) (by omega)
  refine w_M_here (Go.runR (callT_mono MT _) [] 200 hR ?_)
  refine And.intro ⟨rfl, rfl, rfl⟩ ?_
  refine And.intro (vp_nI (k := t) (N := 4) (by omega) (by decide)) ?_
  refine And.intro (fun c6 => ?_) (fun c6 => ?_)
  · try dsimp only at c6
    rw [e0, t1, q] at c6
    have z : ¬ p < n := by have := e2.mp c6; omega
    refine And.intro trivial ?_
    first
    | exact kvi (if_neg z).symm h
    | exact kvi (by show gI m (1, 6, 0) (80 * nI t + gI m (1, 0, 0) 16).toNatClampNeg = _; rw [q, e1, nI_clamp (by omega), t2 p z]; exact (if_pos z).symm) h
  · try dsimp only at c6
    rw [e0, t1, q] at c6
    have z : p < n := by have := mt e2.mpr c6; omega
    refine And.intro ⟨rfl, rfl, rfl⟩ ?_
    refine And.intro (by show vp_in (80 * nI t + gI m (1, 0, 0) 16) 320; rw [q, e1]; exact vp_nI (by omega) (by decide)) ?_
    refine And.intro trivial ?_
    first
    | exact kvi (if_neg z).symm h
    | exact kvi (by show gI m (1, 6, 0) (80 * nI t + gI m (1, 0, 0) 16).toNatClampNeg = _; rw [q, e1, nI_clamp (by omega), t2 p z]; exact (if_pos z).symm) h

theorem m_M_isFigure {d n t p : Nat} {b : Nat → Int32} {m : Mem} {K : Option Vv → Mem → Prop} (hR : OKR m) (T : TM t n b m) {v : Int32} (hv : v = nI t) (q : gI m (1, 0, 0) 16 = nI p) (hp : p ≤ 200) (h : K (some (vi (b2 (figP b n p)))) m) : cW (d + 2) n_M_isFigure [vo 1 0 0, vi v] m K := by
  subst hv
  refine w_M_isFigure (Go.runR (callT_mono MT _) [] 200 hR ?_)
  refine m_M_here hR T rfl q hp (And.intro hR ?_)
  refine m_M_in (by repeat' (first | exact hR | apply OKR.pI | apply OKR.pL | apply OKR.cpI | apply OKR.wI))  (And.intro (by repeat' (first | exact hR | apply OKR.pI | apply OKR.pL | apply OKR.cpI | apply OKR.wI)) ?_)
  refine And.intro (by unfold b2; split; exact Or.inr rfl; exact Or.inl rfl) ?_
  exact kvi (if_st hb_fig) h

theorem m_M_figure {d n t p : Nat} {b : Nat → Int32} {m : Mem} {K : Option Vv → Mem → Prop} (hR : OKR m) (T : TM t n b m) {v : Int32} (hv : v = nI t) (q : gI m (1, 0, 0) 16 = nI p) (hp : p ≤ 200) (y : figP b n p) (h : K (some (vi (nI (dg (b p))))) (pI m (1, 0, 0) 16 (nI (p + 1)))) : cW (d + 2) n_M_figure [vo 1 0 0, vi v] m K := by
  subst hv
  refine w_M_figure (Go.runR (callT_mono MT _) [] 200 hR ?_)
  refine m_M_here hR T rfl q hp (And.intro hR ?_)
  refine And.intro trivial ?_
  show K (some (vi (hb b n p - 48))) (pI m (1, 0, 0) 16 (gI m (1, 0, 0) 16 + 1))
  rw [q, nI_1, show hb b n p = b p from if_pos y.1, (dg_of y.2).1]
  exact h

theorem m_M_kindOf {d : Nat} {m : Mem} {K : Option Vv → Mem → Prop} (hR : OKR m) {v : Int32} (h : K (some (vi (if kd v < 6 then nI (kd v) else -9))) m) : cW (d + 1) n_M_kindOf [vi v] m K := by
  refine w_M_kindOf (Go.runR (callT_mono MT _) [] 200 hR ?_)
  refine And.intro (fun c2 => ?_) (fun c2 => ?_)
  · try dsimp only at c2
    refine And.intro trivial ?_
    refine kvi ?_ h
    unfold kd
    first
    | (rw [if_pos c2]; rfl)
    | (rw [if_neg c2, if_pos c7]; rfl)
    | (rw [if_neg c2, if_neg c7, if_pos c12]; rfl)
    | (rw [if_neg c2, if_neg c7, if_neg c12, if_pos c17]; rfl)
    | (rw [if_neg c2, if_neg c7, if_neg c12, if_neg c17, if_pos c22]; rfl)
    | (rw [if_neg c2, if_neg c7, if_neg c12, if_neg c17, if_neg c22, if_pos c27]; rfl)
    | (rw [if_neg c2, if_neg c7, if_neg c12, if_neg c17, if_neg c22, if_neg c27]; rfl)
  · try dsimp only at c2
    refine And.intro (fun c7 => ?_) (fun c7 => ?_)
    · try dsimp only at c7
      refine And.intro trivial ?_
      refine kvi ?_ h
      unfold kd
      first
      | (rw [if_pos c2]; rfl)
      | (rw [if_neg c2, if_pos c7]; rfl)
      | (rw [if_neg c2, if_neg c7, if_pos c12]; rfl)
      | (rw [if_neg c2, if_neg c7, if_neg c12, if_pos c17]; rfl)
      | (rw [if_neg c2, if_neg c7, if_neg c12, if_neg c17, if_pos c22]; rfl)
      | (rw [if_neg c2, if_neg c7, if_neg c12, if_neg c17, if_neg c22, if_pos c27]; rfl)
      | (rw [if_neg c2, if_neg c7, if_neg c12, if_neg c17, if_neg c22, if_neg c27]; rfl)
    · try dsimp only at c7
      refine And.intro (fun c12 => ?_) (fun c12 => ?_)
      · try dsimp only at c12
        refine And.intro trivial ?_
        refine kvi ?_ h
        unfold kd
        first
        | (rw [if_pos c2]; rfl)
        | (rw [if_neg c2, if_pos c7]; rfl)
        | (rw [if_neg c2, if_neg c7, if_pos c12]; rfl)
        | (rw [if_neg c2, if_neg c7, if_neg c12, if_pos c17]; rfl)
        | (rw [if_neg c2, if_neg c7, if_neg c12, if_neg c17, if_pos c22]; rfl)
        | (rw [if_neg c2, if_neg c7, if_neg c12, if_neg c17, if_neg c22, if_pos c27]; rfl)
        | (rw [if_neg c2, if_neg c7, if_neg c12, if_neg c17, if_neg c22, if_neg c27]; rfl)
      · try dsimp only at c12
        refine And.intro (fun c17 => ?_) (fun c17 => ?_)
        · try dsimp only at c17
          refine And.intro trivial ?_
          refine kvi ?_ h
          unfold kd
          first
          | (rw [if_pos c2]; rfl)
          | (rw [if_neg c2, if_pos c7]; rfl)
          | (rw [if_neg c2, if_neg c7, if_pos c12]; rfl)
          | (rw [if_neg c2, if_neg c7, if_neg c12, if_pos c17]; rfl)
          | (rw [if_neg c2, if_neg c7, if_neg c12, if_neg c17, if_pos c22]; rfl)
          | (rw [if_neg c2, if_neg c7, if_neg c12, if_neg c17, if_neg c22, if_pos c27]; rfl)
          | (rw [if_neg c2, if_neg c7, if_neg c12, if_neg c17, if_neg c22, if_neg c27]; rfl)
        · try dsimp only at c17
          refine And.intro (fun c22 => ?_) (fun c22 => ?_)
          · try dsimp only at c22
            refine And.intro trivial ?_
            refine kvi ?_ h
            unfold kd
            first
            | (rw [if_pos c2]; rfl)
            | (rw [if_neg c2, if_pos c7]; rfl)
            | (rw [if_neg c2, if_neg c7, if_pos c12]; rfl)
            | (rw [if_neg c2, if_neg c7, if_neg c12, if_pos c17]; rfl)
            | (rw [if_neg c2, if_neg c7, if_neg c12, if_neg c17, if_pos c22]; rfl)
            | (rw [if_neg c2, if_neg c7, if_neg c12, if_neg c17, if_neg c22, if_pos c27]; rfl)
            | (rw [if_neg c2, if_neg c7, if_neg c12, if_neg c17, if_neg c22, if_neg c27]; rfl)
          · try dsimp only at c22
            refine And.intro (fun c27 => ?_) (fun c27 => ?_)
            · try dsimp only at c27
              refine And.intro trivial ?_
              refine kvi ?_ h
              unfold kd
              first
              | (rw [if_pos c2]; rfl)
              | (rw [if_neg c2, if_pos c7]; rfl)
              | (rw [if_neg c2, if_neg c7, if_pos c12]; rfl)
              | (rw [if_neg c2, if_neg c7, if_neg c12, if_pos c17]; rfl)
              | (rw [if_neg c2, if_neg c7, if_neg c12, if_neg c17, if_pos c22]; rfl)
              | (rw [if_neg c2, if_neg c7, if_neg c12, if_neg c17, if_neg c22, if_pos c27]; rfl)
              | (rw [if_neg c2, if_neg c7, if_neg c12, if_neg c17, if_neg c22, if_neg c27]; rfl)
            · try dsimp only at c27
              refine And.intro trivial ?_
              refine kvi ?_ h
              unfold kd
              first
              | (rw [if_pos c2]; rfl)
              | (rw [if_neg c2, if_pos c7]; rfl)
              | (rw [if_neg c2, if_neg c7, if_pos c12]; rfl)
              | (rw [if_neg c2, if_neg c7, if_neg c12, if_pos c17]; rfl)
              | (rw [if_neg c2, if_neg c7, if_neg c12, if_neg c17, if_pos c22]; rfl)
              | (rw [if_neg c2, if_neg c7, if_neg c12, if_neg c17, if_neg c22, if_pos c27]; rfl)
              | (rw [if_neg c2, if_neg c7, if_neg c12, if_neg c17, if_neg c22, if_neg c27]; rfl)

theorem l_M_rh24 {d n t p : Nat} {b : Nat → Int32} {S : GS} {m0 m : Mem} {K : Option Vv → Mem → Prop} (T : TM t n b m0) (G : GF m0 m) (q : gI m (1, 0, 0) 16 = nI (p + 2)) (hp : p < n) (y0 : begP (b p) 0) (y1 : figP b n (p + 1)) (hn : yN S = 0) (hm : gI m (1, 0, 0) 17 = nI (yN S)) (ha : gI m (1, 0, 0) 18 = nI (dg (b (p + 1)))) (h0 : ∀ m' q', GF m0 m' → gI m' (1, 0, 0) 16 = nI q' → ((q' = p ∧ ¬ begP (b p) 0) ∨ (q' = p + 1 ∧ begP (b p) 0 ∧ ¬ figP b n (p + 1)) ∨ (q' = p + 2 ∧ begP (b p) 0 ∧ figP b n (p + 1) ∧ ¬ figP b n (p + 2))) → K (some (vi 0)) m') (h1 : ∀ m', GF m0 m' → gI m' (1, 0, 0) 16 = nI (p + 3) → begP (b p) 0 → figP b n (p + 1) → figP b n (p + 2) → MS (gst b p 0 S) 1 m' → K (some (vi 1)) m') : Go (cW (d + 2)) i_M_readsHead (0, 0) K 24 [vo 1 0 0, vi (nI t)] [] m 0 0 := by
  have hR := G.ok
  have n80 := T.2.1
  refine Go.runR (callT_mono MT _) [] 200 hR ?_
  refine m_M_isFigure (by exact G.ok) (by exact G.tm T) rfl (by exact q) (by omega) (And.intro (by exact G.ok) ?_)
  refine And.intro (fun c27 => ?_) (fun c27 => ?_)
  · try dsimp only at c27
    have y2 : ¬ figP b n (p + 2) := fun z => absurd ((show b2 (figP b n (p + 2)) = 1 from if_pos z).symm.trans c27) (by decide)
    refine And.intro (by first | exact Or.inl rfl | exact Or.inr rfl | grind) ?_
    exact h0 m _ G q (Or.inr (Or.inr ⟨rfl, y0, y1, y2⟩))
  · try dsimp only at c27
    have y2 : figP b n (p + 2) := Classical.byContradiction fun z => c27 (if_neg z)
    refine m_M_figure (by exact G.ok) (by exact G.tm T) rfl (by exact q) (by omega) y2 (And.intro (by exact G.ok.pI) ?_)
    refine And.intro (by first | exact Or.inl rfl | exact Or.inr rfl | grind) ?_
    refine h1 (pI (pI m (1, 0, 0) 16 (nI (p + 3))) (1, 0, 0) 19 (nI (dg (b (p + 2))))) ((G.p1 (by omega)).p1 (by omega)) (by rw [rd11, if_neg (by omega), rd11, if_pos ⟨rfl, rfl, rfl⟩]) y0 y1 y2 ⟨?_, fun _ => ⟨?_, ?_⟩, fun j hj => ?_⟩
    · rw [rd11, if_neg (by omega), rd11, if_neg (by omega)]
      exact hm
    · rw [rd11, if_neg (by omega), rd11, if_neg (by omega)]
      exact ha
    · rw [rd11, if_pos ⟨rfl, rfl, rfl⟩]
      rfl
    · have hj2 : j < yN S := hj
      omega

theorem l_M_rh13 {d n t p : Nat} {b : Nat → Int32} {S : GS} {m0 m : Mem} {K : Option Vv → Mem → Prop} (T : TM t n b m0) (G : GF m0 m) (q : gI m (1, 0, 0) 16 = nI (p + 1)) (hp : p < n) (y0 : begP (b p) 0) (hn : yN S = 0) (hm : gI m (1, 0, 0) 17 = nI (yN S)) (h0 : ∀ m' q', GF m0 m' → gI m' (1, 0, 0) 16 = nI q' → ((q' = p ∧ ¬ begP (b p) 0) ∨ (q' = p + 1 ∧ begP (b p) 0 ∧ ¬ figP b n (p + 1)) ∨ (q' = p + 2 ∧ begP (b p) 0 ∧ figP b n (p + 1) ∧ ¬ figP b n (p + 2))) → K (some (vi 0)) m') (h1 : ∀ m', GF m0 m' → gI m' (1, 0, 0) 16 = nI (p + 3) → begP (b p) 0 → figP b n (p + 1) → figP b n (p + 2) → MS (gst b p 0 S) 1 m' → K (some (vi 1)) m') : Go (cW (d + 2)) i_M_readsHead (0, 0) K 13 [vo 1 0 0, vi (nI t)] [] m 0 0 := by
  have hR := G.ok
  have n80 := T.2.1
  refine Go.runR (callT_mono MT _) [24] 200 hR ?_
  refine m_M_isFigure (by exact G.ok) (by exact G.tm T) rfl (by exact q) (by omega) (And.intro (by exact G.ok) ?_)
  refine And.intro (fun c16 => ?_) (fun c16 => ?_)
  · try dsimp only at c16
    have y1 : ¬ figP b n (p + 1) := fun z => absurd ((show b2 (figP b n (p + 1)) = 1 from if_pos z).symm.trans c16) (by decide)
    refine And.intro (by first | exact Or.inl rfl | exact Or.inr rfl | grind) ?_
    exact h0 m _ G q (Or.inr (Or.inl ⟨rfl, y0, y1⟩))
  · try dsimp only at c16
    have y1 : figP b n (p + 1) := Classical.byContradiction fun z => c16 (if_neg z)
    refine m_M_figure (by exact G.ok) (by exact G.tm T) rfl (by exact q) (by omega) y1 (And.intro (by exact G.ok.pI) ?_)
    exact l_M_rh24 T (m := pI (pI m (1, 0, 0) 16 (nI (p + 2))) (1, 0, 0) 18 (nI (dg (b (p + 1))))) ((G.p1 (by omega)).p1 (by omega)) (by rw [rd11, if_neg (by omega), rd11, if_pos ⟨rfl, rfl, rfl⟩]) hp y0 y1 hn (by rw [rd11, if_neg (by omega), rd11, if_neg (by omega)]; exact hm) (by rw [rd11, if_pos ⟨rfl, rfl, rfl⟩]) h0 h1

theorem m_M_readsHead {d n t p : Nat} {b : Nat → Int32} {S : GS} {m0 m : Mem} {K : Option Vv → Mem → Prop} (T : TM t n b m0) (G : GF m0 m) {v : Int32} (hv : v = nI t) (q : gI m (1, 0, 0) 16 = nI p) (hp : p < n) (hm : MS S 0 m) (hB : BS S 0) (h0 : ∀ m' q', GF m0 m' → gI m' (1, 0, 0) 16 = nI q' → ((q' = p ∧ ¬ begP (b p) 0) ∨ (q' = p + 1 ∧ begP (b p) 0 ∧ ¬ figP b n (p + 1)) ∨ (q' = p + 2 ∧ begP (b p) 0 ∧ figP b n (p + 1) ∧ ¬ figP b n (p + 2))) → K (some (vi 0)) m') (h1 : ∀ m', GF m0 m' → gI m' (1, 0, 0) 16 = nI (p + 3) → begP (b p) 0 → figP b n (p + 1) → figP b n (p + 2) → MS (gst b p 0 S) 1 m' → K (some (vi 1)) m') : cW (d + 3) n_M_readsHead [vo 1 0 0, vi v] m K := by
  subst hv
  have hR := G.ok
  have n80 := T.2.1
  have hn : yN S = 0 := by have := hB.1; omega
  refine w_M_readsHead (Go.runR (callT_mono MT _) [13] 200 hR ?_)
  refine m_M_here (by exact G.ok) (by exact G.tm T) rfl (by exact q) (by omega) (And.intro (by exact G.ok) ?_)
  rw [show hb b n p = b p from if_pos hp]
  refine And.intro (fun c4 => ?_) (fun c4 => ?_)
  · try dsimp only at c4
    exact l_M_rh13 T (m := pI m (1, 0, 0) 16 (gI m (1, 0, 0) 16 + 1)) (G.p1 (by omega)) (by rw [rd11, if_pos ⟨rfl, rfl, rfl⟩, q, nI_1]) hp (Or.inl ⟨rfl, c4⟩) hn (by rw [rd11, if_neg (by omega)]; exact hm.1) h0 h1
  · try dsimp only at c4
    refine And.intro (by first | exact Or.inl rfl | exact Or.inr rfl | grind) ?_
    exact h0 m p G q (Or.inl ⟨rfl, fun z => z.elim (fun y => c4 y.2) (fun y => absurd y.1 (by omega))⟩)

theorem l_M_ro43 {d n t p i : Nat} {b : Nat → Int32} {S : GS} {m0 m : Mem} {K : Option Vv → Mem → Prop} (T : TM t n b m0) (G : GF m0 m) (q : gI m (1, 0, 0) 16 = nI (p + 2)) (hp : p < n) (hi : 0 < i) (hB : BS S i) (y0 : begP (b p) i) (y1 : figP b n (p + 1)) (hm : MS S i m) (hk : gI m (1, 7, 0) (8 + yN S) = nI (kd (b p))) (hl : gI m (1, 8, 0) (8 + yN S) = nI (dg (b (p + 1)))) (h0 : ∀ m' q', GF m0 m' → gI m' (1, 0, 0) 16 = nI q' → ((q' = p ∧ ¬ begP (b p) i) ∨ (q' = p + 1 ∧ begP (b p) i ∧ ¬ figP b n (p + 1)) ∨ (q' = p + 2 ∧ begP (b p) i ∧ figP b n (p + 1) ∧ ¬ figP b n (p + 2))) → K (some (vi 0)) m') (h1 : ∀ m', GF m0 m' → gI m' (1, 0, 0) 16 = nI (p + 3) → begP (b p) i → figP b n (p + 1) → figP b n (p + 2) → MS (gst b p i S) (i + 1) m' → K (some (vi 1)) m') : Go (cW (d + 2)) i_M_readsHouse (0, 0) K 43 [vo 1 0 0, vi (nI t), vi (nI (kd (b p))), vi (nI (8 + yN S))] [] m 0 0 := by
  have hR := G.ok
  have n80 := T.2.1
  have hN : yN S ≤ 7 := by rcases y0 with z | z <;> rcases hB.1 with y | y <;> omega
  have e0 : (nI (8 + yN S)).toNatClampNeg = 8 + yN S := nI_clamp (by omega)
  refine Go.runR (callT_mono MT _) [] 200 hR ?_
  refine m_M_isFigure (by exact G.ok) (by exact G.tm T) rfl (by exact q) (by omega) (And.intro (by exact G.ok) ?_)
  refine And.intro (fun c46 => ?_) (fun c46 => ?_)
  · try dsimp only at c46
    have y2 : ¬ figP b n (p + 2) := fun z => absurd ((show b2 (figP b n (p + 2)) = 1 from if_pos z).symm.trans c46) (by decide)
    refine And.intro (by first | exact Or.inl rfl | exact Or.inr rfl | grind) ?_
    exact h0 m _ G q (Or.inr (Or.inr ⟨rfl, y0, y1, y2⟩))
  · try dsimp only at c46
    have y2 : figP b n (p + 2) := Classical.byContradiction fun z => c46 (if_neg z)
    refine And.intro ⟨rfl, rfl, rfl⟩ ?_
    refine m_M_figure (by exact G.ok) (by exact G.tm T) rfl (by exact q) (by omega) y2 (And.intro (by exact G.ok.pI) ?_)
    refine And.intro (vp_nI (N := 16) (by omega) (by decide)) ?_
    refine And.intro (by first | exact Or.inl rfl | exact Or.inr rfl | grind) ?_
    show K (some (vi 1)) (pI (pI (pI m (1, 0, 0) 16 (nI (p + 3))) (1, 9, 0) (nI (8 + yN S)).toNatClampNeg (nI (dg (b (p + 2))))) (1, 0, 0) 17 (gI m (1, 0, 0) 17 + 1))
    rw [e0]
    obtain ⟨g1, g2, g3, g4, g5, g6⟩ := gst_h (b := b) (p := p) (S := S) hi
    refine h1 _ (((G.p1 (by omega)).p1 (by omega)).p1 (by omega)) (by rw [rd11, if_neg (by omega), rd11, if_neg (by omega), rd11, if_pos ⟨rfl, rfl, rfl⟩]) y0 y1 y2 ⟨?_, fun _ => ?_, fun j hj => ?_⟩
    · rw [rd11, if_pos ⟨rfl, rfl, rfl⟩, hm.1, nI_1, g1]
    · rw [g2, g3, rd11, if_neg (by omega), rd11, if_neg (by omega), rd11, if_neg (by omega), rd11, if_neg (by omega), rd11, if_neg (by omega), rd11, if_neg (by omega)]
      exact hm.2.1 hi
    · have r7 : gI (pI (pI (pI m (1, 0, 0) 16 (nI (p + 3))) (1, 9, 0) (8 + yN S) (nI (dg (b (p + 2))))) (1, 0, 0) 17 (gI m (1, 0, 0) 17 + 1)) (1, 7, 0) (8 + j) = gI m (1, 7, 0) (8 + j) := by rw [rd11, if_neg (by omega), rd11, if_neg (by omega), rd11, if_neg (by omega)]
      have r8 : gI (pI (pI (pI m (1, 0, 0) 16 (nI (p + 3))) (1, 9, 0) (8 + yN S) (nI (dg (b (p + 2))))) (1, 0, 0) 17 (gI m (1, 0, 0) 17 + 1)) (1, 8, 0) (8 + j) = gI m (1, 8, 0) (8 + j) := by rw [rd11, if_neg (by omega), rd11, if_neg (by omega), rd11, if_neg (by omega)]
      rw [g4, g5, g6, r7, r8]
      by_cases y : j = yN S
      · rw [if_pos y, if_pos y, if_pos y, y]
        refine ⟨hk, hl, ?_⟩
        rw [rd11, if_neg (by omega), rd11, if_pos ⟨rfl, rfl, rfl⟩]
      · rw [if_neg y, if_neg y, if_neg y]
        have hj3 : j < yN S := by omega
        refine ⟨(hm.2.2 j hj3).1, (hm.2.2 j hj3).2.1, ?_⟩
        rw [rd11, if_neg (by omega), rd11, if_neg (by omega), rd11, if_neg (by omega)]
        exact (hm.2.2 j hj3).2.2

theorem l_M_ro30 {d n t p i : Nat} {b : Nat → Int32} {S : GS} {m0 m : Mem} {K : Option Vv → Mem → Prop} (T : TM t n b m0) (G : GF m0 m) (q : gI m (1, 0, 0) 16 = nI (p + 1)) (hp : p < n) (hi : 0 < i) (hB : BS S i) (y0 : begP (b p) i) (hm : MS S i m) (hk : gI m (1, 7, 0) (8 + yN S) = nI (kd (b p))) (h0 : ∀ m' q', GF m0 m' → gI m' (1, 0, 0) 16 = nI q' → ((q' = p ∧ ¬ begP (b p) i) ∨ (q' = p + 1 ∧ begP (b p) i ∧ ¬ figP b n (p + 1)) ∨ (q' = p + 2 ∧ begP (b p) i ∧ figP b n (p + 1) ∧ ¬ figP b n (p + 2))) → K (some (vi 0)) m') (h1 : ∀ m', GF m0 m' → gI m' (1, 0, 0) 16 = nI (p + 3) → begP (b p) i → figP b n (p + 1) → figP b n (p + 2) → MS (gst b p i S) (i + 1) m' → K (some (vi 1)) m') : Go (cW (d + 2)) i_M_readsHouse (0, 0) K 30 [vo 1 0 0, vi (nI t), vi (nI (kd (b p))), vi (nI (8 + yN S))] [] m 0 0 := by
  have hR := G.ok
  have n80 := T.2.1
  have hN : yN S ≤ 7 := by rcases y0 with z | z <;> rcases hB.1 with y | y <;> omega
  have e0 : (nI (8 + yN S)).toNatClampNeg = 8 + yN S := nI_clamp (by omega)
  refine Go.runR (callT_mono MT _) [43] 200 hR ?_
  refine m_M_isFigure (by exact G.ok) (by exact G.tm T) rfl (by exact q) (by omega) (And.intro (by exact G.ok) ?_)
  refine And.intro (fun c33 => ?_) (fun c33 => ?_)
  · try dsimp only at c33
    have y1 : ¬ figP b n (p + 1) := fun z => absurd ((show b2 (figP b n (p + 1)) = 1 from if_pos z).symm.trans c33) (by decide)
    refine And.intro (by first | exact Or.inl rfl | exact Or.inr rfl | grind) ?_
    exact h0 m _ G q (Or.inr (Or.inl ⟨rfl, y0, y1⟩))
  · try dsimp only at c33
    have y1 : figP b n (p + 1) := Classical.byContradiction fun z => c33 (if_neg z)
    refine And.intro ⟨rfl, rfl, rfl⟩ ?_
    refine m_M_figure (by exact G.ok) (by exact G.tm T) rfl (by exact q) (by omega) y1 (And.intro (by exact G.ok.pI) ?_)
    refine And.intro (vp_nI (N := 16) (by omega) (by decide)) ?_
    refine go_eq (m' := pI (pI m (1, 0, 0) 16 (nI (p + 2))) (1, 8, 0) (8 + yN S) (nI (dg (b (p + 1))))) rfl (congrArg (fun z => pI (pI m (1, 0, 0) 16 (nI (p + 2))) (1, 8, 0) z (nI (dg (b (p + 1))))) e0) (l_M_ro43 T ((G.p1 (by omega)).p1 (by omega)) ?_ hp hi hB y0 y1 ((hm.wr (by omega)).wr (by omega)) ?_ ?_ h0 h1)
    · rw [rd11, if_neg (by omega), rd11, if_pos ⟨rfl, rfl, rfl⟩]
    · rw [rd11, if_neg (by omega), rd11, if_neg (by omega)]
      exact hk
    · rw [rd11, if_pos ⟨rfl, rfl, rfl⟩]

theorem m_M_readsHouse {d n t p i : Nat} {b : Nat → Int32} {S : GS} {m0 m : Mem} {K : Option Vv → Mem → Prop} (T : TM t n b m0) (G : GF m0 m) {v : Int32} (hv : v = nI t) (q : gI m (1, 0, 0) 16 = nI p) (hp : p < n) (hi : 0 < i) (hm : MS S i m) (hB : BS S i) (h0 : ∀ m' q', GF m0 m' → gI m' (1, 0, 0) 16 = nI q' → ((q' = p ∧ ¬ begP (b p) i) ∨ (q' = p + 1 ∧ begP (b p) i ∧ ¬ figP b n (p + 1)) ∨ (q' = p + 2 ∧ begP (b p) i ∧ figP b n (p + 1) ∧ ¬ figP b n (p + 2))) → K (some (vi 0)) m') (h1 : ∀ m', GF m0 m' → gI m' (1, 0, 0) 16 = nI (p + 3) → begP (b p) i → figP b n (p + 1) → figP b n (p + 2) → MS (gst b p i S) (i + 1) m' → K (some (vi 1)) m') : cW (d + 3) n_M_readsHouse [vo 1 0 0, vi v] m K := by
  subst hv
  have hR := G.ok
  have n80 := T.2.1
  have N8 := hB.2.1
  have i9 : i = yN S + 1 := by have := hB.1; omega
  have e8 : gI m (1, 0, 0) 17 = 8 ↔ yN S = 8 := by rw [hm.1]; exact nI_eq (b := 8) (by omega) (by omega)
  have en : 8 + gI m (1, 0, 0) 17 = nI (8 + yN S) := by rw [hm.1, show (8 : Int32) = nI 8 from rfl, nI_add]
  have e0 : (8 + gI m (1, 0, 0) 17).toNatClampNeg = 8 + yN S := by rw [en, nI_clamp (by omega)]
  by_cases y : kd (b p) < 6
  · refine w_M_readsHouse (Go.runR (callT_mono MT _) [30] 200 hR ?_)
    refine m_M_here (by exact G.ok) (by exact G.tm T) rfl (by exact q) (by omega) (And.intro (by exact G.ok) ?_)
    rw [show hb b n p = b p from if_pos hp]
    refine m_M_kindOf (by exact G.ok) (And.intro (by exact G.ok) ?_)
    rw [if_pos y]
    refine And.intro (fun c7 => ?_) (fun c7 => ?_)
    · exact absurd c7 (m9 (by omega))
    · try dsimp only at c7
      refine And.intro (fun c11 => ?_) (fun c11 => ?_)
      · try dsimp only at c11
        have z8 := e8.mp c11
        refine And.intro (by first | exact Or.inl rfl | exact Or.inr rfl | grind) ?_
        exact h0 m p G q (Or.inl ⟨rfl, fun z => by rcases z with z | z <;> omega⟩)
      · try dsimp only at c11
        have z8 := mt e8.mpr c11
        have y0 : begP (b p) i := Or.inr ⟨hi, by omega, y⟩
        refine And.intro ⟨rfl, rfl, rfl⟩ ?_
        refine And.intro (by show vp_in (8 + gI m (1, 0, 0) 17) 16; rw [en]; exact vp_nI (by omega) (by decide)) ?_
        refine go_eq (ls' := [vo 1 0 0, vi (nI t), vi (nI (kd (b p))), vi (nI (8 + yN S))]) (m' := pI (pI m (1, 0, 0) 16 (nI (p + 1))) (1, 7, 0) (8 + yN S) (nI (kd (b p)))) ?_ ?_ (l_M_ro30 T ((G.p1 (by omega)).p1 (by omega)) ?_ hp hi hB y0 ((hm.wr (by omega)).wr (by omega)) ?_ h0 h1)
        · show [vo 1 0 0, vi (nI t), vi (nI (kd (b p))), vi (8 + gI m (1, 0, 0) 17)] = _
          rw [en]
        · show pI (pI m (1, 0, 0) 16 (gI m (1, 0, 0) 16 + 1)) (1, 7, 0) (8 + gI m (1, 0, 0) 17).toNatClampNeg (nI (kd (b p))) = _
          rw [e0, q, nI_1]
        · rw [rd11, if_neg (by omega), rd11, if_pos ⟨rfl, rfl, rfl⟩]
        · rw [rd11, if_pos ⟨rfl, rfl, rfl⟩]
  · refine w_M_readsHouse (Go.runR (callT_mono MT _) [30] 200 hR ?_)
    refine m_M_here (by exact G.ok) (by exact G.tm T) rfl (by exact q) (by omega) (And.intro (by exact G.ok) ?_)
    rw [show hb b n p = b p from if_pos hp]
    refine m_M_kindOf (by exact G.ok) (And.intro (by exact G.ok) ?_)
    rw [if_neg y]
    refine And.intro (fun c7 => ?_) (fun c7 => ?_)
    · try dsimp only at c7
      refine And.intro (by first | exact Or.inl rfl | exact Or.inr rfl | grind) ?_
      exact h0 m p G q (Or.inl ⟨rfl, fun z => by rcases z with z | z; omega; exact y z.2.2⟩)
    · exact absurd rfl c7

theorem l_M_goesOn {d n t : Nat} {b : Nat → Int32} {m0 : Mem} {K : Option Vv → Mem → Prop} (T : TM t n b m0) (f p i : Nat) (S : GS) (m : Mem) (hd : Int32) (G : GF m0 m) (q : gI m (1, 0, 0) 16 = nI p) (hf : n < f + p) (hp : p ≤ n) (hh : hd = if i = 0 then 0 else 1) (hm : MS S i m) (hB : BS S i) (h : ∀ m', GF m0 m' → (fo b n f p i = -9 → ∃ j, 0 < j ∧ MS (gsF b n f p i S) j m' ∧ BS (gsF b n f p i S) j) → K (some (vi (fo b n f p i))) m') : Go (cW (d + 3)) i_M_goesOn (0, 0) K 8 [vo 1 0 0, vi (nI t), vi hd] [] m 0 0 := by
  have hR := G.ok
  have n80 := T.2.1
  have t4 := T.1
  have tx := (G.tm T).2.2.1
  have e0 : (nI t).toNatClampNeg = t := nI_clamp (by omega)
  obtain ⟨f, rfl⟩ : ∃ g, f = g + 1 := ⟨f - 1, by omega⟩
  refine Go.runR (callT_mono MT _) [8] 200 hR ?_
  refine And.intro ⟨rfl, rfl, rfl⟩ ?_
  refine And.intro (vp_nI (k := t) (N := 4) (by omega) (by decide)) ?_
  refine And.intro (fun c14 => ?_) (fun c14 => ?_)
  · try dsimp only at c14
    rw [e0, q] at c14
    have hk2 : p = n := lq_e c14 tx rfl hp (by omega)
    rw [fo_end (by omega), gs_end (by omega)] at h
    refine And.intro (fun c45 => ?_) (fun c45 => ?_)
    · try dsimp only at c45
      refine And.intro ⟨rfl, rfl, rfl⟩ ?_
      refine And.intro (vp_nI (k := t) (N := 4) (by omega) (by decide)) ?_
      refine And.intro trivial ?_
      by_cases i0 : i = 0
      · rw [if_pos i0] at h hh
        first
        | exact absurd hh c45
        | exact kvi (by show gI m (1, 5, 0) (nI t).toNatClampNeg = nI n; rw [e0]; exact tx) (h m G (fun y => absurd y (m9 (by omega))))
      · rw [if_neg i0] at h hh
        first
        | exact absurd (hh.symm.trans c45) (by decide)
        | exact h m G (fun _ => ⟨i, by omega, hm, hB⟩)
    · try dsimp only at c45
      refine And.intro trivial ?_
      by_cases i0 : i = 0
      · rw [if_pos i0] at h hh
        first
        | exact absurd hh c45
        | exact kvi (by show gI m (1, 5, 0) (nI t).toNatClampNeg = nI n; rw [e0]; exact tx) (h m G (fun y => absurd y (m9 (by omega))))
      · rw [if_neg i0] at h hh
        first
        | exact absurd (hh.symm.trans c45) (by decide)
        | exact h m G (fun _ => ⟨i, by omega, hm, hB⟩)
  · try dsimp only at c14
    rw [e0, q] at c14
    have hk2 := lq_m c14 tx rfl hp (by omega)
    refine m_M_here (by exact G.ok) (by exact G.tm T) rfl (by exact q) (by omega) (And.intro (by exact G.ok) ?_)
    rw [show hb b n p = b p from if_pos hk2]
    refine And.intro (fun c19 => ?_) (fun c19 => ?_)
    · try dsimp only at c19
      first
      | exact l_M_goesOn T f (p + 1) i S (pI m (1, 0, 0) 16 (gI m (1, 0, 0) 16 + 1)) hd (G.p1 (by omega)) (by rw [rd11, if_pos ⟨rfl, rfl, rfl⟩, q, nI_1]) (by omega) (by omega) hh (hm.wr (by omega)) hB (by rw [fo_bl hk2 c19, gs_bl hk2 c19] at h; exact h)
      | exact l_M_goesOn T f (p + 3) 1 (gst b p 0 S) m1 1 G1 w1 (by omega) (by have := z3.1; omega) rfl hm1 (hB.next z1 z2 z3) (by rw [fo_on hk2 c19 z1 z2 z3, gs_on hk2 c19] at h; exact h)
      | exact l_M_goesOn T f (p + 3) (i + 1) (gst b p i S) m1 1 G1 w1 (by omega) (by have := z3.1; omega) rfl hm1 (hB.next z1 z2 z3) (by rw [fo_on hk2 c19 z1 z2 z3, gs_on hk2 c19] at h; exact h)
    · try dsimp only at c19
      refine And.intro (fun c28 => ?_) (fun c28 => ?_)
      · try dsimp only at c28
        have i0 : i = 0 := Classical.byContradiction fun z => by rw [hh, if_neg z] at c28; exact absurd c28 (by decide)
        subst i0
        refine m_M_readsHead T (by exact G) rfl q hk2 hm hB (fun m1 q1 G1 w1 z => And.intro G1.ok ?_) (fun m1 G1 w1 z1 z2 z3 hm1 => And.intro G1.ok ?_)
        · refine And.intro (fun c37 => ?_) (fun c37 => ?_)
          · try dsimp only at c37
            refine And.intro trivial ?_
            refine kvi w1 ?_
            rcases z with ⟨rfl, z⟩ | ⟨rfl, z1, z2⟩ | ⟨rfl, z1, z2, z3⟩
            · rw [fo_beg hk2 c19 z] at h
              exact h m1 G1 (fun y => absurd y (m9 (by omega)))
            · rw [fo_f1 hk2 c19 z1 z2] at h
              exact h m1 G1 (fun y => absurd y (m9 (by omega)))
            · rw [fo_f2 hk2 c19 z1 z2 z3] at h
              exact h m1 G1 (fun y => absurd y (m9 (by omega)))
          · exact absurd rfl c37
        · refine And.intro (fun c37 => ?_) (fun c37 => ?_)
          · exact absurd c37 (by decide)
          · try dsimp only at c37
            first
            | exact l_M_goesOn T f (p + 1) i S (pI m (1, 0, 0) 16 (gI m (1, 0, 0) 16 + 1)) hd (G.p1 (by omega)) (by rw [rd11, if_pos ⟨rfl, rfl, rfl⟩, q, nI_1]) (by omega) (by omega) hh (hm.wr (by omega)) hB (by rw [fo_bl hk2 c19, gs_bl hk2 c19] at h; exact h)
            | exact l_M_goesOn T f (p + 3) 1 (gst b p 0 S) m1 1 G1 w1 (by omega) (by have := z3.1; omega) rfl hm1 (hB.next z1 z2 z3) (by rw [fo_on hk2 c19 z1 z2 z3, gs_on hk2 c19] at h; exact h)
            | exact l_M_goesOn T f (p + 3) (i + 1) (gst b p i S) m1 1 G1 w1 (by omega) (by have := z3.1; omega) rfl hm1 (hB.next z1 z2 z3) (by rw [fo_on hk2 c19 z1 z2 z3, gs_on hk2 c19] at h; exact h)
      · try dsimp only at c28
        have i0 : 0 < i := Nat.pos_of_ne_zero fun z => c28 (by rw [hh, if_pos z])
        refine m_M_readsHouse T (by exact G) rfl q hk2 i0 hm hB (fun m1 q1 G1 w1 z => And.intro G1.ok ?_) (fun m1 G1 w1 z1 z2 z3 hm1 => And.intro G1.ok ?_)
        · refine And.intro (fun c32 => ?_) (fun c32 => ?_)
          · try dsimp only at c32
            refine And.intro trivial ?_
            refine kvi w1 ?_
            rcases z with ⟨rfl, z⟩ | ⟨rfl, z1, z2⟩ | ⟨rfl, z1, z2, z3⟩
            · rw [fo_beg hk2 c19 z] at h
              exact h m1 G1 (fun y => absurd y (m9 (by omega)))
            · rw [fo_f1 hk2 c19 z1 z2] at h
              exact h m1 G1 (fun y => absurd y (m9 (by omega)))
            · rw [fo_f2 hk2 c19 z1 z2 z3] at h
              exact h m1 G1 (fun y => absurd y (m9 (by omega)))
          · exact absurd rfl c32
        · refine And.intro (fun c32 => ?_) (fun c32 => ?_)
          · exact absurd c32 (by decide)
          · try dsimp only at c32
            first
            | exact l_M_goesOn T f (p + 1) i S (pI m (1, 0, 0) 16 (gI m (1, 0, 0) 16 + 1)) hd (G.p1 (by omega)) (by rw [rd11, if_pos ⟨rfl, rfl, rfl⟩, q, nI_1]) (by omega) (by omega) hh (hm.wr (by omega)) hB (by rw [fo_bl hk2 c19, gs_bl hk2 c19] at h; exact h)
            | exact l_M_goesOn T f (p + 3) 1 (gst b p 0 S) m1 1 G1 w1 (by omega) (by have := z3.1; omega) rfl hm1 (hB.next z1 z2 z3) (by rw [fo_on hk2 c19 z1 z2 z3, gs_on hk2 c19] at h; exact h)
            | exact l_M_goesOn T f (p + 3) (i + 1) (gst b p i S) m1 1 G1 w1 (by omega) (by have := z3.1; omega) rfl hm1 (hB.next z1 z2 z3) (by rw [fo_on hk2 c19 z1 z2 z3, gs_on hk2 c19] at h; exact h)
termination_by f
decreasing_by all_goals omega

def gs0 : GS := (fun _ => 0, fun _ => 0, fun _ => 0, 0, 0, 0)
theorem m_M_goesOn {d n t : Nat} {b : Nat → Int32} {m : Mem} {K : Option Vv → Mem → Prop} (hR : OKR m) (T : TM t n b m) {v : Int32} (hv : v = nI t) (h : ∀ m', GF m m' → (fo b n (n + 1) 0 0 = -9 → ∃ j, 0 < j ∧ MS (gsF b n (n + 1) 0 0 gs0) j m' ∧ BS (gsF b n (n + 1) 0 0 gs0) j) → K (some (vi (fo b n (n + 1) 0 0))) m') : cW (d + 4) n_M_goesOn [vo 1 0 0, vi v] m K := by
  subst hv
  refine w_M_goesOn (Go.runR (callT_mono MT _) [8] 200 hR ?_)
  exact l_M_goesOn T (n + 1) 0 0 gs0 (pI (pI m (1, 0, 0) 16 0) (1, 0, 0) 17 0) 0 (((GF.refl hR).p1 (by omega)).p1 (by omega)) (by rw [rd11, if_neg (by omega), rd11, if_pos ⟨rfl, rfl, rfl⟩]; rfl) (by omega) (by omega) rfl ⟨by rw [rd11, if_pos ⟨rfl, rfl, rfl⟩]; rfl, fun z => absurd z (by omega), fun j hj => absurd (show j < 0 from hj) (by omega)⟩ ⟨Or.inl ⟨rfl, rfl⟩, Nat.zero_le _, fun z => absurd z (by omega), fun j hj => absurd (show j < 0 from hj) (by omega)⟩ h
