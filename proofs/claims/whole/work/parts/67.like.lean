/-! Written by a program (wip/whole/p67.py): a street becomes like another. -/
def Ny (a b : List Nat) (m m' : Mem) : Prop := OKR m' ∧ (∀ o k, gL m' o k = gL m o k) ∧ (∀ t i k, t ∉ a → gI m' (0, t, i) k = gI m (0, t, i) k) ∧ ∀ t i k, t ∉ b → gI m' (1, t, i) k = gI m (1, t, i) k
theorem Ny.refl {a b : List Nat} {m : Mem} (h : OKR m) : Ny a b m m := ⟨h, fun _ _ => rfl, fun _ _ _ _ => rfl, fun _ _ _ _ => rfl⟩
theorem Ny.p0 {a b : List Nat} {m m' : Mem} (h : Ny a b m m') {t i k : Nat} {v : Int32} (ht : t ∈ a) : Ny a b m (pI m' (0, t, i) k v) :=
  ⟨h.1.pI, fun o k => (gL_pI ..).trans (h.2.1 o k), fun t' i' k' q => by
    rw [rd00, if_neg (fun z : t' = t ∧ i' = i ∧ k' = k => q (z.1 ▸ ht))]; exact h.2.2.1 t' i' k' q, fun t' i' k' q => h.2.2.2 t' i' k' q⟩
theorem Ny.p1 {a b : List Nat} {m m' : Mem} (h : Ny a b m m') {t i k : Nat} {v : Int32} (ht : t ∈ b) : Ny a b m (pI m' (1, t, i) k v) :=
  ⟨h.1.pI, fun o k => (gL_pI ..).trans (h.2.1 o k), fun t' i' k' q => h.2.2.1 t' i' k' q, fun t' i' k' q => by
    rw [rd11, if_neg (fun z : t' = t ∧ i' = i ∧ k' = k => q (z.1 ▸ ht))]; exact h.2.2.2 t' i' k' q⟩
theorem Ny.wk {a b a' b' : List Nat} {m m' : Mem} (h : Ny a b m m') (ha : ∀ t, t ∈ a → t ∈ a') (hb : ∀ t, t ∈ b → t ∈ b') : Ny a' b' m m' := ⟨h.1, h.2.1, fun t i k q => h.2.2.1 t i k (fun z => q (ha t z)), fun t i k q => h.2.2.2 t i k (fun z => q (hb t z))⟩
theorem rdC (m : Mem) (t i t2 i2 t' i' k : Nat) : gI (cpI m (0, t, i) (0, t2, i2) 0 0 8) (0, t', i') k = if t' = t2 ∧ i' = i2 ∧ k < 8 then gI m (0, t, i) k else gI m (0, t', i') k := by
  show (if t' = t2 ∧ i' = i2 then (if 0 ≤ k ∧ k < 0 + 8 then gI m (0, t, i) (0 + (k - 0)) else gI m (0, t2, i2) k) else gI m (0, t', i') k) = _
  by_cases z : t' = t2 ∧ i' = i2
  · rw [if_pos z]
    by_cases y : k < 8
    · rw [if_pos (by omega), if_pos ⟨z.1, z.2, y⟩, show 0 + (k - 0) = k by omega]
    · rw [if_neg (by omega), if_neg (fun x => y x.2.2), z.1, z.2]
  · rw [if_neg z, if_neg (fun x => z ⟨x.1, x.2.1⟩)]
theorem Ny.cp {a b : List Nat} {m m' : Mem} (h : Ny a b m m') {t i t2 i2 : Nat} (ht : t2 ∈ a) : Ny a b m (cpI m' (0, t, i) (0, t2, i2) 0 0 8) :=
  ⟨h.1.cpI, fun o k => (gL_cpI ..).trans (h.2.1 o k), fun t' i' k' q => by
    rw [rdC, if_neg (fun z : t' = t2 ∧ i' = i2 ∧ k' < 8 => q (z.1 ▸ ht))]; exact h.2.2.1 t' i' k' q, fun t' i' k' q => h.2.2.2 t' i' k' q⟩
theorem kn_pR (m : Mem) (a c i : Nat) : kn (pR m (0, 8, a) 0 (some (0, 20, c))) i = if i = a then c else kn m i := by
  unfold kn
  rw [show gR (pR m (0, 8, a) 0 (some (0, 20, c))) (0, 8, i) 0 = if 8 = 8 ∧ i = a ∧ 0 = 0 then some (0, 20, c) else gR m (0, 8, i) 0 from rfl]
  by_cases z : i = a
  · rw [if_pos ⟨rfl, z, rfl⟩, if_pos z]
  · rw [if_neg (fun y => z y.2.1), if_neg z]
theorem OKR.kind {m : Mem} (H : OKR m) {a c : Nat} (hc : c < 6) : OKR (pR m (0, 8, a) 0 (some (0, 20, c))) := by
  refine ⟨fun o k q => ?_, fun h hh => ?_⟩
  · obtain ⟨s, t, i⟩ := o
    match s, q with
    | 0, q =>
      have e : ∀ t, t ≠ 8 → crf (pR m (0, 8, a) 0 (some (0, 20, c))) (0, t, i) k = crf m (0, t, i) k := fun t ht => by
        match t, ht with
        | 0, _ => rfl
        | 1, _ => rfl
        | 2, _ => rfl
        | 3, _ => rfl
        | 4, _ => rfl
        | 5, _ => rfl
        | 6, _ => rfl
        | 7, _ => rfl
        | 8, h => exact absurd rfl h
        | 9, _ => rfl
        | 10, _ => rfl
        | 11, _ => rfl
        | 12, _ => rfl
        | 13, _ => rfl
        | 14, _ => rfl
        | n + 15, _ => rfl
      show (if t = 8 ∧ i = a ∧ k = 0 then some (0, 20, c) else gR m (0, t, i) k) = _
      by_cases z : t = 8
      · subst z
        have k0 : k = 0 := q.2
        subst k0
        show _ = some (0, 20, kn (pR m (0, 8, a) 0 (some (0, 20, c))) i)
        rw [kn_pR]
        by_cases y : i = a
        · rw [if_pos ⟨rfl, y, rfl⟩, if_pos y]
        · rw [if_neg (fun x => y x.2.1), if_neg y]
          exact H.1 (0, 8, i) 0 q
      · rw [if_neg (fun x => z x.1), e t z]
        exact H.1 (0, t, i) k q
    | 1, q => exact H.1 (1, t, i) k q
    | n + 2, q => exact absurd q id
  · rw [kn_pR]
    split
    · exact hc
    · exact H.2 h hh
abbrev HouseM (m : Mem) (a b : Nat) : Mem := pI (pI (pI (pI (pR m (0, 8, a) 0 (some (0, 20, kn m b))) (0, 8, a) 1 (gI m (0, 8, b) 1)) (0, 8, a) 2 (gI m (0, 8, b) 2)) (0, 8, a) 3 (gI m (0, 8, b) 3)) (0, 8, a) 4 (gI m (0, 8, b) 4)
abbrev HourM (m : Mem) (a b : Nat) : Mem := pI (pI (pI (pI (cpI m (0, 11, b) (0, 11, a) 0 0 8) (0, 10, a) 1 (gI m (0, 10, b) 1)) (0, 10, a) 2 (gI m (0, 10, b) 2)) (0, 10, a) 3 (gI m (0, 10, b) 3)) (0, 10, a) 4 (gI m (0, 10, b) 4)
theorem HouseM_kn (m : Mem) (a b i : Nat) : kn (HouseM m a b) i = if i = a then kn m b else kn m i := (kn_rw (fun _ => rfl) i).trans (kn_pR m a (kn m b) i)
theorem HouseM_r8 (m : Mem) (a b i q : Nat) (h1 : 1 ≤ q) (h4 : q ≤ 4) : gI (HouseM m a b) (0, 8, i) q = if i = a then gI m (0, 8, b) q else gI m (0, 8, i) q := by
  rw [rd00, rd00, rd00, rd00]
  have e : gI (pR m (0, 8, a) 0 (some (0, 20, kn m b))) (0, 8, i) q = gI m (0, 8, i) q := rfl
  rw [e]
  obtain rfl | rfl | rfl | rfl : q = 1 ∨ q = 2 ∨ q = 3 ∨ q = 4 := by omega
  all_goals by_cases z : i = a <;> simp [z]
theorem HourM_r10 (m : Mem) (a b i q : Nat) (h1 : 1 ≤ q) (h4 : q ≤ 4) : gI (HourM m a b) (0, 10, i) q = if i = a then gI m (0, 10, b) q else gI m (0, 10, i) q := by
  rw [rd00, rd00, rd00, rd00, rdC]
  obtain rfl | rfl | rfl | rfl : q = 1 ∨ q = 2 ∨ q = 3 ∨ q = 4 := by omega
  all_goals by_cases z : i = a <;> simp [z]
theorem HourM_r11 (m : Mem) (a b i q : Nat) (h : q < 8) : gI (HourM m a b) (0, 11, i) q = if i = a then gI m (0, 11, b) q else gI m (0, 11, i) q := by
  show gI (cpI m (0, 11, b) (0, 11, a) 0 0 8) (0, 11, i) q = _
  rw [rdC]
  by_cases z : i = a
  · rw [if_pos ⟨rfl, z, h⟩, if_pos z]
  · rw [if_neg (fun y => z y.2.1), if_neg z]
theorem Ny.hs {a b : List Nat} {m m' : Mem} (h : Ny a b m m') {i j : Nat} (hj : kn m' j < 6) (ht : 8 ∈ a) : Ny a b m (HouseM m' i j) :=
  Ny.p0 (Ny.p0 (Ny.p0 (Ny.p0 ⟨h.1.kind (a := i) hj, fun o k => (gL_pR ..).trans (h.2.1 o k), fun t i' k q => (gI_pR ..).trans (h.2.2.1 t i' k q), fun t i' k q => (gI_pR ..).trans (h.2.2.2 t i' k q)⟩ ht) ht) ht) ht
theorem Ny.hr {a b : List Nat} {m m' : Mem} (h : Ny a b m m') {i j : Nat} (h1 : 10 ∈ a) (h2 : 11 ∈ a) : Ny a b m (HourM m' i j) := Ny.p0 (Ny.p0 (Ny.p0 (Ny.p0 (h.cp h2) h1) h1) h1) h1

theorem m_Ho_becomeLike {d : Nat} {m : Mem} {K : Option Vv → Mem → Prop} {x y a b : Nat} (hR : OKR m) (hx : x = a) (hy : y = b) (ha : a < 32) (hb : b < 32) (h : K none (HouseM m a b)) : cW (d + 1) n_Ho_becomeLike [vo 0 8 x, vo 0 8 y] m K := by
  subst hx; subst hy
  have hk := hR.kind (a := x) (hR.2 y hb)
  have key : ∀ v2 v3 v4, v2 = gI m (0, 8, y) 2 → v3 = gI m (0, 8, y) 3 → v4 = gI m (0, 8, y) 4 → K none (pI (pI (pI (pI (pR m (0, 8, x) 0 (some (0, 20, kn m y))) (0, 8, x) 1 (gI m (0, 8, y) 1)) (0, 8, x) 2 v2) (0, 8, x) 3 v3) (0, 8, x) 4 v4) := fun v2 v3 v4 e2 e3 e4 => by subst e2; subst e3; subst e4; exact h
  refine w_Ho_becomeLike (Go.runR (callT_mono MT _) [] 200 hR ?_)
  refine And.intro ⟨(by first | decide | assumption | omega), (by first | decide | assumption | omega)⟩ ?_
  refine And.intro hk ?_
  refine And.intro trivial ?_
  exact key _ _ _ (by rw [rd00, if_neg (by omega)]; rfl) (by rw [rd00, if_neg (by omega), rd00, if_neg (by omega)]; rfl) (by rw [rd00, if_neg (by omega), rd00, if_neg (by omega), rd00, if_neg (by omega)]; rfl)

theorem m_Hr_becomeLike {d : Nat} {m : Mem} {K : Option Vv → Mem → Prop} {x y a b : Nat} (hR : OKR m) (hx : x = a) (hy : y = b) (ha : a < 160) (hb : b < 160) (h : K none (HourM m a b)) : cW (d + 1) n_Hr_becomeLike [vo 0 10 x, vo 0 10 y] m K := by
  subst hx; subst hy
  have key : ∀ v1 v2 v3 v4, v1 = gI m (0, 10, y) 1 → v2 = gI m (0, 10, y) 2 → v3 = gI m (0, 10, y) 3 → v4 = gI m (0, 10, y) 4 → K none (pI (pI (pI (pI (cpI m (0, 11, y) (0, 11, x) 0 0 8) (0, 10, x) 1 v1) (0, 10, x) 2 v2) (0, 10, x) 3 v3) (0, 10, x) 4 v4) := fun v1 v2 v3 v4 e1 e2 e3 e4 => by subst e1; subst e2; subst e3; subst e4; exact h
  refine w_Hr_becomeLike (Go.runR (callT_mono MT _) [] 200 hR ?_)
  refine And.intro ⟨(by first | decide | assumption | omega), (by first | decide | assumption | omega)⟩ ?_
  refine And.intro ⟨(by first | decide | assumption | omega), (by first | decide | assumption | omega)⟩ ?_
  refine And.intro ⟨by decide, by decide, by decide, (by show Int32.toNatClampNeg 0 + Int32.toNatClampNeg 8 ≤ 8; decide), (by show Int32.toNatClampNeg 0 + Int32.toNatClampNeg 8 ≤ 8; decide)⟩ ?_
  refine And.intro trivial ?_
  exact key _ _ _ _ (by show gI (cpI m (0, 11, y) (0, 11, x) 0 0 8) (0, 10, y) 1 = _; rw [rdC, if_neg (by omega)]) (by rw [rd00, if_neg (by omega)]; show gI (cpI m (0, 11, y) (0, 11, x) 0 0 8) (0, 10, y) 2 = _; rw [rdC, if_neg (by omega)]) (by rw [rd00, if_neg (by omega), rd00, if_neg (by omega)]; show gI (cpI m (0, 11, y) (0, 11, x) 0 0 8) (0, 10, y) 3 = _; rw [rdC, if_neg (by omega)]) (by rw [rd00, if_neg (by omega), rd00, if_neg (by omega), rd00, if_neg (by omega)]; show gI (cpI m (0, 11, y) (0, 11, x) 0 0 8) (0, 10, y) 4 = _; rw [rdC, if_neg (by omega)])

def BLa (m0 m : Mem) (s r k : Nat) : Prop := Ny [8, 13] [] m0 m ∧ (∀ i, kn m i = if 8 * s ≤ i ∧ i < 8 * s + k then kn m0 (8 * r + (i - 8 * s)) else kn m0 i) ∧ (∀ i q, 1 ≤ q → q ≤ 4 → gI m (0, 8, i) q = if 8 * s ≤ i ∧ i < 8 * s + k then gI m0 (0, 8, 8 * r + (i - 8 * s)) q else gI m0 (0, 8, i) q) ∧ ∀ i q, q < 8 → gI m (0, 13, i) q = if 8 * s ≤ i ∧ i < 8 * s + k then gI m0 (0, 13, 8 * r + (i - 8 * s)) q else gI m0 (0, 13, i) q
def BLh (m0 m : Mem) (s r k : Nat) : Prop := (∀ t q, 1 ≤ q → q ≤ 4 → gI m (0, 10, t) q = if 40 * s ≤ t ∧ t < 40 * s + k then gI m0 (0, 10, 40 * r + (t - 40 * s)) q else gI m0 (0, 10, t) q) ∧ ∀ t q, q < 8 → gI m (0, 11, t) q = if 40 * s ≤ t ∧ t < 40 * s + k then gI m0 (0, 11, 40 * r + (t - 40 * s)) q else gI m0 (0, 11, t) q
def BLs (m0 m : Mem) (s r : Nat) : Prop := (∀ i, kn m i = if 8 * s ≤ i ∧ i < 8 * s + 8 then kn m0 (8 * r + (i - 8 * s)) else kn m0 i) ∧ (∀ i q, 1 ≤ q → q ≤ 4 → gI m (0, 8, i) q = if 8 * s ≤ i ∧ i < 8 * s + 8 then gI m0 (0, 8, 8 * r + (i - 8 * s)) q else gI m0 (0, 8, i) q) ∧ ∀ i q, q < 8 → gI m (0, 13, i) q = if 8 * s ≤ i ∧ i < 8 * s + 8 then gI m0 (0, 13, 8 * r + (i - 8 * s)) q else gI m0 (0, 13, i) q
def BLz (m0 m : Mem) (s r : Nat) : Prop := Ny [5, 8, 10, 11, 13] [] m0 m ∧ BLs m0 m s r ∧ BLh m0 m s r 40 ∧ ∀ t q, 3 ≤ q → q ≤ 8 → gI m (0, 5, t) q = if t = s then gI m0 (0, 5, r) q else gI m0 (0, 5, t) q
theorem if_st {α : Type} {p q : Prop} [Decidable p] [Decidable q] {x y : α} (h : p ↔ q) : (if p then x else y) = if q then x else y := by
  by_cases z : p
  · rw [if_pos z, if_pos (h.mp z)]
  · rw [if_neg z, if_neg (fun y => z (h.mpr y))]

theorem l_St_like44 {d s r : Nat} {m0 : Mem} {K : Option Vv → Mem → Prop} (hsr : s ≠ r) (h : ∀ m, BLz m0 m s r → K none m) (m : Mem) (H : Ny [8, 10, 11, 13] [] m0 m) (H1 : BLs m0 m s r) (H2 : BLh m0 m s r 40) : K none (pI (pI (pI (pI (pI (pI m (0, 5, s) 3 (gI m0 (0, 5, r) 3)) (0, 5, s) 4 (gI m0 (0, 5, r) 4)) (0, 5, s) 5 (gI m0 (0, 5, r) 5)) (0, 5, s) 6 (gI m0 (0, 5, r) 6)) (0, 5, s) 7 (gI m0 (0, 5, r) 7)) (0, 5, s) 8 (gI m0 (0, 5, r) 8)) := by
  refine h _ ⟨(((((((H.wk (by simp) (by simp)).p0 (by simp)).p0 (by simp)).p0 (by simp)).p0 (by simp)).p0 (by simp)).p0 (by simp)), ⟨fun i => (kn_rw (fun _ => rfl) i).trans (H1.1 i), fun i q h1 h4 => H1.2.1 i q h1 h4, fun i q hq => H1.2.2 i q hq⟩, ⟨fun t q h1 h4 => H2.1 t q h1 h4, fun t q hq => H2.2 t q hq⟩, fun t q h3 h8 => ?_⟩
  rw [rd00, rd00, rd00, rd00, rd00, rd00]
  have e : gI m (0, 5, t) q = gI m0 (0, 5, t) q := H.2.2.1 5 t q (by simp)
  rw [e]
  obtain rfl | rfl | rfl | rfl | rfl | rfl : q = 3 ∨ q = 4 ∨ q = 5 ∨ q = 6 ∨ q = 7 ∨ q = 8 := by omega
  all_goals by_cases z : t = s <;> simp [z]
theorem l_St_like30 {d s r : Nat} {m0 : Mem} {K : Option Vv → Mem → Prop} (hs : s < 4) (hr : r < 4) (hsr : s ≠ r) (h : ∀ m, BLz m0 m s r → K none m) (k : Nat) (m : Mem) (H : Ny [8, 10, 11, 13] [] m0 m) (H1 : BLs m0 m s r) (H2 : BLh m0 m s r k) (hk : k ≤ 40) : Go (cW (d + 1)) i_St_becomeLike (0, 0) K 30 [vo 0 5 s, vo 0 5 r, vi (nI k)] [] m 0 0 := by
  have hR := H.1
  have e0 : (nI k).toNatClampNeg = k := nI_clamp (by omega)
  refine Go.runR (callT_mono MT _) [30] 200 hR ?_
  refine And.intro (fun c32 => ?_) (fun c32 => ?_)
  · try dsimp only at c32
    have hk2 := lq_e (n := 40) c32 rfl rfl hk (by omega)
    refine And.intro trivial ?_
    rw [hk2] at H2
    have f := l_St_like44 (d := d) hsr h m H H1 H2
    have e : ∀ q, gI m (0, 5, r) q = gI m0 (0, 5, r) q := fun q => H.2.2.1 5 r q (by simp)
    have key : ∀ v3 v4 v5 v6 v7 v8, v3 = gI m0 (0, 5, r) 3 → v4 = gI m0 (0, 5, r) 4 → v5 = gI m0 (0, 5, r) 5 → v6 = gI m0 (0, 5, r) 6 → v7 = gI m0 (0, 5, r) 7 → v8 = gI m0 (0, 5, r) 8 → K none (pI (pI (pI (pI (pI (pI m (0, 5, s) 3 v3) (0, 5, s) 4 v4) (0, 5, s) 5 v5) (0, 5, s) 6 v6) (0, 5, s) 7 v7) (0, 5, s) 8 v8) := fun v3 v4 v5 v6 v7 v8 y3 y4 y5 y6 y7 y8 => by subst y3; subst y4; subst y5; subst y6; subst y7; subst y8; exact f
    exact key _ _ _ _ _ _ (e 3) (by rw [rd00, if_neg (by omega)]; exact e 4) (by rw [rd00, if_neg (by omega), rd00, if_neg (by omega)]; exact e 5) (by rw [rd00, if_neg (by omega), rd00, if_neg (by omega), rd00, if_neg (by omega)]; exact e 6) (by rw [rd00, if_neg (by omega), rd00, if_neg (by omega), rd00, if_neg (by omega), rd00, if_neg (by omega)]; exact e 7) (by rw [rd00, if_neg (by omega), rd00, if_neg (by omega), rd00, if_neg (by omega), rd00, if_neg (by omega), rd00, if_neg (by omega)]; exact e 8)
  · try dsimp only at c32
    have hk2 := lq_m (n := 40) c32 rfl rfl hk (by omega)
    refine And.intro ⟨(by omega), (by decide)⟩ ?_
    refine And.intro ⟨(by exact vp_nI (k := k) (N := 40) (by omega) (by decide)), ⟨(by omega), by rw [e0]; omega⟩⟩ ?_
    refine And.intro ⟨(by omega), (by decide)⟩ ?_
    refine And.intro ⟨(by exact vp_nI (k := k) (N := 40) (by omega) (by decide)), ⟨(by omega), by rw [e0]; omega⟩⟩ ?_
    refine m_Hr_becomeLike (by repeat' (first | exact hR | apply OKR.pI | apply OKR.pL | apply OKR.cpI | apply OKR.wI)) (a := 40 * s + k) (b := 40 * r + k) (by rw [e0]) (by rw [e0]) (by omega) (by omega) (And.intro (Ny.hr H (by simp) (by simp)).1 ?_)
    refine go_eq (ls' := [vo 0 5 s, vo 0 5 r, vi (nI (k + 1))]) (by rw [nI_succ]; rfl) rfl (l_St_like30 hs hr hsr h (k + 1) _ (Ny.hr H (by simp) (by simp)) ⟨fun i => (kn_rw (fun _ => rfl) i).trans (H1.1 i), fun i q h1 h4 => H1.2.1 i q h1 h4, fun i q hq => ?_⟩ ⟨fun t q h1 h4 => ?_, fun t q hq => ?_⟩ hk2)
    · show gI (cpI m (0, 11, 40 * r + k) (0, 11, 40 * s + k) 0 0 8) (0, 13, i) q = _
      rw [rdC, if_neg (by omega)]
      exact H1.2.2 i q hq
    · rw [HourM_r10 _ _ _ _ _ h1 h4]
      by_cases z : t = 40 * s + k
      · rw [if_pos z, if_pos (by omega), H2.1 _ q h1 h4, if_neg (by omega), show 40 * r + (t - 40 * s) = 40 * r + k by omega]
      · rw [if_neg z, H2.1 t q h1 h4]
        exact if_st (by omega)
    · rw [HourM_r11 _ _ _ _ _ hq]
      by_cases z : t = 40 * s + k
      · rw [if_pos z, if_pos (by omega), H2.2 _ q hq, if_neg (by omega), show 40 * r + (t - 40 * s) = 40 * r + k by omega]
      · rw [if_neg z, H2.2 t q hq]
        exact if_st (by omega)
termination_by 40 - k
decreasing_by all_goals omega

theorem l_St_like2 {d s r : Nat} {m0 : Mem} {K : Option Vv → Mem → Prop} (hs : s < 4) (hr : r < 4) (hsr : s ≠ r) (h : ∀ m, BLz m0 m s r → K none m) (k : Nat) (m : Mem) (H : BLa m0 m s r k) (hk : k ≤ 8) : Go (cW (d + 1)) i_St_becomeLike (0, 0) K 2 [vo 0 5 s, vo 0 5 r, vi (nI k)] [] m 0 0 := by
  have hR := H.1.1
  have e0 : (nI k).toNatClampNeg = k := nI_clamp (by omega)
  refine Go.runR (callT_mono MT _) [2, 30] 200 hR ?_
  refine And.intro (fun c4 => ?_) (fun c4 => ?_)
  · try dsimp only at c4
    have hk2 := lq_e (n := 8) c4 rfl rfl hk (by omega)
    rw [hk2] at H
    refine go_eq (ls' := [vo 0 5 s, vo 0 5 r, vi (nI 0)]) rfl rfl (l_St_like30 hs hr hsr h 0 m (H.1.wk (by simp) (by simp)) H.2 ⟨fun t q h1 h4 => ?_, fun t q hq => ?_⟩ (by omega))
    · rw [if_neg (by omega)]
      exact H.1.2.2.1 10 t q (by simp)
    · rw [if_neg (by omega)]
      exact H.1.2.2.1 11 t q (by simp)
  · try dsimp only at c4
    have hk2 := lq_m (n := 8) c4 rfl rfl hk (by omega)
    have hy : Ny [8, 13] [] m0 (HouseM m (8 * s + k) (8 * r + k)) := H.1.hs (hR.2 _ (by omega)) (by simp)
    refine And.intro ⟨(by omega), (by decide)⟩ ?_
    refine And.intro ⟨(by exact vp_nI (k := k) (N := 8) (by omega) (by decide)), ⟨(by omega), by rw [e0]; omega⟩⟩ ?_
    refine And.intro ⟨(by omega), (by decide)⟩ ?_
    refine And.intro ⟨(by exact vp_nI (k := k) (N := 8) (by omega) (by decide)), ⟨(by omega), by rw [e0]; omega⟩⟩ ?_
    refine m_Ho_becomeLike (by repeat' (first | exact hR | apply OKR.pI | apply OKR.pL | apply OKR.cpI | apply OKR.wI)) (a := 8 * s + k) (b := 8 * r + k) (by rw [e0]) (by rw [e0]) (by omega) (by omega) (And.intro hy.1 ?_)
    refine And.intro ⟨(by omega), (by decide)⟩ ?_
    refine And.intro ⟨(by exact vp_nI (k := k) (N := 8) (by omega) (by decide)), ⟨(by omega), by rw [e0]; omega⟩⟩ ?_
    refine And.intro ⟨(by omega), (by decide)⟩ ?_
    refine And.intro ⟨(by exact vp_nI (k := k) (N := 8) (by omega) (by decide)), ⟨(by omega), by rw [e0]; omega⟩⟩ ?_
    refine And.intro ⟨by decide, by decide, by decide, (by show Int32.toNatClampNeg 0 + Int32.toNatClampNeg 8 ≤ 8; decide), (by show Int32.toNatClampNeg 0 + Int32.toNatClampNeg 8 ≤ 8; decide)⟩ ?_
    refine go_eq (ls' := [vo 0 5 s, vo 0 5 r, vi (nI (k + 1))]) (by rw [nI_succ]; rfl) (m' := cpI (HouseM m (8 * s + k) (8 * r + k)) (0, 13, 8 * r + k) (0, 13, 8 * s + k) 0 0 8) ?_ (l_St_like2 hs hr hsr h (k + 1) _ ⟨hy.cp (by simp), fun i => ?_, fun i q h1 h4 => ?_, fun i q hq => ?_⟩ hk2)
    · show cpI (HouseM m (8 * s + k) (8 * r + k)) (0, 13, 8 * r + (nI k).toNatClampNeg) (0, 13, 8 * s + (nI k).toNatClampNeg) 0 0 8 = _
      rw [e0]
    · rw [show kn (cpI (HouseM m (8 * s + k) (8 * r + k)) (0, 13, 8 * r + k) (0, 13, 8 * s + k) 0 0 8) i = kn (HouseM m (8 * s + k) (8 * r + k)) i from kn_rw (fun _ => rfl) i, HouseM_kn]
      by_cases z : i = 8 * s + k
      · rw [if_pos z, if_pos (by omega), H.2.1, if_neg (by omega), show 8 * r + (i - 8 * s) = 8 * r + k by omega]
      · rw [if_neg z, H.2.1]
        exact if_st (by omega)
    · rw [rdC, if_neg (by omega), HouseM_r8 _ _ _ _ _ h1 h4]
      by_cases z : i = 8 * s + k
      · rw [if_pos z, if_pos (by omega), H.2.2.1 _ q h1 h4, if_neg (by omega), show 8 * r + (i - 8 * s) = 8 * r + k by omega]
      · rw [if_neg z, H.2.2.1 i q h1 h4]
        exact if_st (by omega)
    · rw [rdC]
      have e13 : ∀ i, gI (HouseM m (8 * s + k) (8 * r + k)) (0, 13, i) q = gI m (0, 13, i) q := fun _ => rfl
      rw [e13, e13]
      by_cases z : i = 8 * s + k
      · rw [if_pos ⟨rfl, z, hq⟩, if_pos (by omega), H.2.2.2 _ q hq, if_neg (by omega), show 8 * r + (i - 8 * s) = 8 * r + k by omega]
      · rw [if_neg (fun y => z y.2.1), H.2.2.2 i q hq]
        exact if_st (by omega)
termination_by 8 - k
decreasing_by all_goals omega

theorem m_St_becomeLike {d s r x y : Nat} {m : Mem} {K : Option Vv → Mem → Prop} (hR : OKR m) (hx : x = s) (hy : y = r) (hs : s < 4) (hr : r < 4) (hsr : s ≠ r) (h : ∀ m', BLz m m' s r → K none m') : cW (d + 2) n_St_becomeLike [vo 0 5 x, vo 0 5 y] m K := by
  subst hx; subst hy
  refine w_St_becomeLike (Go.runR (callT_mono MT _) [2] 200 hR ?_)
  refine go_eq (ls' := [vo 0 5 x, vo 0 5 y, vi (nI 0)]) rfl rfl (l_St_like2 hs hr hsr h 0 m ⟨Ny.refl hR, fun i => ?_, fun i q _ _ => ?_, fun i q _ => ?_⟩ (by omega))
  all_goals rw [if_neg (by omega)]
