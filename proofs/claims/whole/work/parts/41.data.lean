/-! Written by a program (wip/whole/p41.py): THE STREET'S DATA on both sides; what scratch leaves alone. -/
abbrev SDt := (Nat → Nat) × (Nat → Nat) × (Nat → Nat) × (Nat → Int32) × (Nat → Nat) × (Nat → Nat) × Nat × Nat × Nat
def dK (D : SDt) (i : Nat) : Nat := D.1 i
def dL (D : SDt) (i : Nat) : Nat := D.2.1 i
def dW (D : SDt) (i : Nat) : Nat := D.2.2.1 i
def dM (D : SDt) (i : Nat) : Int32 := D.2.2.2.1 i
def dP (D : SDt) (i : Nat) : Nat := D.2.2.2.2.1 i
def dB (D : SDt) (j : Nat) : Nat := D.2.2.2.2.2.1 j
def dA (D : SDt) : Nat := D.2.2.2.2.2.2.1
def dE (D : SDt) : Nat := D.2.2.2.2.2.2.2.1
def dT (D : SDt) : Nat := D.2.2.2.2.2.2.2.2
def HsC (D : SDt) (i : Nat) (m : Mem) : Prop := kn m i = dK D i ∧ dK D i < 6 ∧ dL D i ≤ 9 ∧ dW D i ≤ 99 ∧ dP D i ≤ 999 ∧ gI m (0, 8, i) 1 = nI (dL D i) ∧ gI m (0, 8, i) 2 = nI (dW D i) ∧ gI m (0, 8, i) 3 = dM D i ∧ gI m (0, 8, i) 4 = nI (dP D i) ∧ gI m (1, 7, 0) i = nI (dK D i) ∧ gI m (1, 8, 0) i = nI (dL D i) ∧ gI m (1, 9, 0) i = nI (dW D i) ∧ gI m (1, 10, 0) i = dM D i ∧ gI m (1, 11, 0) i = nI (dP D i)
def DbC (D : SDt) (i j : Nat) (m : Mem) : Prop := dB D (8 * i + j) ≤ 99 ∧ gI m (0, 13, i) j = nI (dB D (8 * i + j)) ∧ gI m (1, 18, 0) (8 * i + j) = nI (dB D (8 * i + j))
def AlC (D : SDt) (m : Mem) : Prop := dA D ≤ 9 ∧ dE D ≤ 9 ∧ gI m (0, 5, 0) 5 = nI (dA D) ∧ gI m (1, 0, 0) 11 = nI (dA D) ∧ gI m (0, 5, 0) 6 = nI (dE D) ∧ gI m (1, 0, 0) 12 = nI (dE D)
def SC (n : Nat) (D : SDt) (m : Mem) : Prop := OKR m ∧ n ≤ 8 ∧ gI m (0, 5, 0) 3 = nI n ∧ gI m (1, 0, 0) 10 = nI n ∧ (∀ i, i < n → HsC D i m) ∧ (∀ i j, i < n → j < n → DbC D i j m) ∧ (0 < n → AlC D m) ∧ dT D ≤ 60 ∧ gI m (0, 5, 0) 7 = nI (dT D) ∧ gI m (1, 0, 0) 21 = nI (dT D)
theorem CurR.sc {n : Nat} {m : Mem} (hR : OKR m) (H : CurR n m) : ∃ D, SC n D m := by
  obtain ⟨q1, q2⟩ := H.many
  have h8 := H.le
  refine ⟨(kn m, fun i => (gI m (1, 8, 0) i).toNatClampNeg, fun i => (gI m (1, 9, 0) i).toNatClampNeg, gI m (1, 10, 0), fun i => (gI m (1, 11, 0) i).toNatClampNeg, fun j => (gI m (1, 18, 0) j).toNatClampNeg, (gI m (1, 0, 0) 11).toNatClampNeg, (gI m (1, 0, 0) 12).toNatClampNeg, (gI m (1, 0, 0) 21).toNatClampNeg), hR, h8, q1, q2, fun i hi => ?_, fun i j hi hj => ?_, fun hn => ?_, ?_⟩
  · obtain ⟨-, -, -, h1⟩ := H
    obtain ⟨⟨hl, -⟩, ⟨H, s1, s2⟩, hk⟩ := h1 (by omega)
    obtain ⟨l1, l2, l, l3, l4⟩ := hl i hi
    obtain ⟨-, -, -, -, -, -, hw, -, -⟩ := s2
    have hwi := hw i hi
    rw [show 8 * 0 + i = i by omega] at hwi
    obtain ⟨w1, ⟨w, w2, w3⟩, m1, p1, p, p2, p3⟩ := hwi
    unfold HsC dK dL dW dM dP
    dsimp only
    rw [l4, w3, p3, nI_clamp (by omega), nI_clamp (by omega), nI_clamp (by omega)]
    exact ⟨rfl, hR.2 i (by omega), l3, w2, p2, l2.trans l4, w1.trans w3, m1, p1.trans p3, l1, rfl, rfl, rfl, rfl⟩
  · obtain ⟨d1, v, d2, d3⟩ := H.debt hi hj
    unfold DbC dB
    dsimp only
    rw [d3, nI_clamp (by omega)]
    exact ⟨d2, d1.trans d3, rfl⟩
  · obtain ⟨-, -, -, h1⟩ := H
    obtain ⟨⟨-, e1, e, e2, e3⟩, ⟨H, s1, s2⟩, hk⟩ := h1 hn
    obtain ⟨-, -, -, ⟨a1, a, a2, a3⟩, -⟩ := s2
    unfold AlC dA dE
    dsimp only
    rw [a3, e3, nI_clamp (by omega), nI_clamp (by omega)]
    exact ⟨a2, e2, a1.trans a3, rfl, e1.trans e3, rfl⟩
  · have hj := H.jar
    obtain ⟨w, hw, hw2⟩ : ∃ w, w ≤ 60 ∧ gI m (1, 0, 0) 21 = nI w := by
      obtain ⟨-, -, h0, h1⟩ := H
      rcases Nat.eq_zero_or_pos n with z | z
      · exact ⟨0, by omega, (h0 z).2.2.2.2.1⟩
      · obtain ⟨-, ⟨H, s1, s2⟩, hk⟩ := h1 z
        obtain ⟨-, -, -, -, ⟨-, w, a, b⟩, -⟩ := s2
        exact ⟨w, a, b⟩
    unfold dT
    dsimp only
    rw [hj.1, hw2, nI_clamp (by omega)]
    exact ⟨hw, rfl, rfl⟩
theorem SC.cg {n : Nat} {D : SDt} {m m' : Mem} (hok : OKR m') (hk : ∀ i, kn m' i = kn m i) (h0 : ∀ t i k, t = 5 ∨ t = 8 ∨ t = 13 → gI m' (0, t, i) k = gI m (0, t, i) k) (h1 : ∀ k, k = 10 ∨ k = 11 ∨ k = 12 ∨ k = 21 → gI m' (1, 0, 0) k = gI m (1, 0, 0) k) (h2 : ∀ t k, t = 7 ∨ t = 8 ∨ t = 9 ∨ t = 10 ∨ t = 11 ∨ t = 18 → gI m' (1, t, 0) k = gI m (1, t, 0) k) (H : SC n D m) : SC n D m' := by
  unfold SC HsC DbC AlC at *
  have e5 : ∀ i k, gI m' (0, 5, i) k = gI m (0, 5, i) k := fun i k => h0 5 i k (by omega)
  have e8 : ∀ i k, gI m' (0, 8, i) k = gI m (0, 8, i) k := fun i k => h0 8 i k (by omega)
  have e13 : ∀ i k, gI m' (0, 13, i) k = gI m (0, 13, i) k := fun i k => h0 13 i k (by omega)
  have f10 := h1 10 (by omega)
  have f11 := h1 11 (by omega)
  have f12 := h1 12 (by omega)
  have f21 := h1 21 (by omega)
  have g7 : ∀ k, gI m' (1, 7, 0) k = gI m (1, 7, 0) k := fun k => h2 7 k (by omega)
  have g8 : ∀ k, gI m' (1, 8, 0) k = gI m (1, 8, 0) k := fun k => h2 8 k (by omega)
  have g9 : ∀ k, gI m' (1, 9, 0) k = gI m (1, 9, 0) k := fun k => h2 9 k (by omega)
  have g10 : ∀ k, gI m' (1, 10, 0) k = gI m (1, 10, 0) k := fun k => h2 10 k (by omega)
  have g11 : ∀ k, gI m' (1, 11, 0) k = gI m (1, 11, 0) k := fun k => h2 11 k (by omega)
  have g18 : ∀ k, gI m' (1, 18, 0) k = gI m (1, 18, 0) k := fun k => h2 18 k (by omega)
  simp only [hk, e5, e8, e13, f10, f11, f12, f21, g7, g8, g9, g10, g11, g18]
  exact ⟨hok, H.2⟩
theorem SC.ok {n : Nat} {D : SDt} {m : Mem} (H : SC n D m) : OKR m := H.1
theorem SC.le {n : Nat} {D : SDt} {m : Mem} (H : SC n D m) : n ≤ 8 := H.2.1
theorem SC.nA {n : Nat} {D : SDt} {m : Mem} (H : SC n D m) : gI m (0, 5, 0) 3 = nI n := H.2.2.1
theorem SC.nB {n : Nat} {D : SDt} {m : Mem} (H : SC n D m) : gI m (1, 0, 0) 10 = nI n := H.2.2.2.1
theorem SC.hs {n : Nat} {D : SDt} {m : Mem} (H : SC n D m) {i : Nat} (hi : i < n) : HsC D i m := H.2.2.2.2.1 i hi
theorem SC.db {n : Nat} {D : SDt} {m : Mem} (H : SC n D m) {i j : Nat} (hi : i < n) (hj : j < n) : DbC D i j m := H.2.2.2.2.2.1 i j hi hj
theorem SC.al {n : Nat} {D : SDt} {m : Mem} (H : SC n D m) (hn : 0 < n) : AlC D m := H.2.2.2.2.2.2.1 hn
theorem SC.wt {n : Nat} {D : SDt} {m : Mem} (H : SC n D m) : dT D ≤ 60 ∧ gI m (0, 5, 0) 7 = nI (dT D) ∧ gI m (1, 0, 0) 21 = nI (dT D) := H.2.2.2.2.2.2.2
/-- one int written on the class's side, on the reference's side: not of the street -/
theorem SC.p0 {n : Nat} {D : SDt} {m : Mem} (H : SC n D m) {t i k : Nat} {v : Int32} (ht : t ≠ 5 ∧ t ≠ 8 ∧ t ≠ 13) : SC n D (pI m (0, t, i) k v) :=
  SC.cg (m := m) H.ok.pI (fun i => kn_rw (fun _ => rfl) i) (fun t' i' k' q => by rw [rd00, if_neg (by omega)]) (fun _ _ => rfl) (fun _ _ _ => rfl) H
theorem SC.p1 {n : Nat} {D : SDt} {m : Mem} (H : SC n D m) {t i k : Nat} {v : Int32} (ht : (t = 0 ∧ k ≠ 10 ∧ k ≠ 11 ∧ k ≠ 12 ∧ k ≠ 21) ∨ (t ≠ 0 ∧ t ≠ 7 ∧ t ≠ 8 ∧ t ≠ 9 ∧ t ≠ 10 ∧ t ≠ 11 ∧ t ≠ 18)) : SC n D (pI m (1, t, i) k v) :=
  SC.cg (m := m) H.ok.pI (fun i => kn_rw (fun _ => rfl) i) (fun t' i' k' q => rfl) (fun k q => by rw [rd11, if_neg (by omega)]) (fun t k q => by rw [rd11, if_neg (by omega)]) H
theorem SC.tell {n : Nat} {D : SDt} {m : Mem} (H : SC n D m) {v : Int32} : SC n D (tellM m v) := H.p0 (by omega)
theorem SC.found {n : Nat} {D : SDt} {m : Mem} (H : SC n D m) {f : Nat} : SC n D (foundM m f) := (H.p0 (t := 0) (by omega)).p0 (by omega)
/-- m' is m but for what a call may scribble on: SETS, and the reference's own scratch -/
def Fr (m m' : Mem) : Prop := OKR m' ∧ (∀ o k, gR m' o k = gR m o k) ∧ (∀ k, gL m' (0, 18, 0) k = gL m (0, 18, 0) k) ∧ (∀ k, k < 10 → gL m' (1, 0, 0) k = gL m (1, 0, 0) k) ∧ (∀ t i k, t < 14 ∨ 17 < t ∨ (t = 15 ∧ i = 0 ∧ k = 0) ∨ (t = 16 ∧ i = 0 ∧ k = 0) → gI m' (0, t, i) k = gI m (0, t, i) k) ∧ (∀ k, k < 16 ∨ (19 < k ∧ k < 27) → gI m' (1, 0, 0) k = gI m (1, 0, 0) k) ∧ ∀ t k, t ≠ 0 → t ≠ 4 → t < 14 ∨ t = 18 → gI m' (1, t, 0) k = gI m (1, t, 0) k
theorem Fr.refl {m : Mem} (h : OKR m) : Fr m m := ⟨h, fun _ _ => rfl, fun _ => rfl, fun _ _ => rfl, fun _ _ _ _ => rfl, fun _ _ => rfl, fun _ _ _ _ _ => rfl⟩
theorem Fr.ok {m m' : Mem} (h : Fr m m') : OKR m' := h.1
theorem Fr.trans {a b c : Mem} (h : Fr a b) (g : Fr b c) : Fr a c :=
  ⟨g.1, fun o k => (g.2.1 o k).trans (h.2.1 o k), fun k => (g.2.2.1 k).trans (h.2.2.1 k), fun k q => (g.2.2.2.1 k q).trans (h.2.2.2.1 k q), fun t i k q => (g.2.2.2.2.1 t i k q).trans (h.2.2.2.2.1 t i k q), fun k q => (g.2.2.2.2.2.1 k q).trans (h.2.2.2.2.2.1 k q), fun t k q1 q2 q3 => (g.2.2.2.2.2.2 t k q1 q2 q3).trans (h.2.2.2.2.2.2 t k q1 q2 q3)⟩
theorem Fr.sc {n : Nat} {D : SDt} {m m' : Mem} (g : Fr m m') (H : SC n D m) : SC n D m' :=
  H.cg g.1 (fun i => kn_cg g.2.1 i) (fun t i k q => g.2.2.2.2.1 t i k (by omega)) (fun k q => g.2.2.2.2.2.1 k (by omega)) (fun t k q => g.2.2.2.2.2.2 t k (by omega) (by omega) (by omega))
theorem Fr.rel {m m' : Mem} (g : Fr m m') (R : RelAB m) : RelAB m' := by
  obtain ⟨a, b, c, d, n, e⟩ := R
  have g0 := g.2.2.2.2.1
  have g1 := g.2.2.2.2.2.1
  have g2 := g.2.2.2.2.2.2
  refine ⟨g.1, b.cg (fun r _ => g0 _ _ _ (by omega)) (fun r k _ => g0 _ _ _ (by omega)) (fun k => g2 _ _ (by omega) (by omega) (by omega)) (fun k => g2 _ _ (by omega) (by omega) (by omega)), c.cg (fun r => g0 _ _ _ (by omega)) (fun r k => g0 _ _ _ (by omega)) (fun k => g2 _ _ (by omega) (by omega) (by omega)) (fun k => g2 _ _ (by omega) (by omega) (by omega)), ?_, n, e.cg (fun i => kn_cg g.2.1 i) (fun t i k q => g0 t i k (by omega)) (fun k q => g1 k (by omega)) (fun t k q => g2 t k (by omega) (by omega) (by omega))⟩
  unfold TellR at *
  rw [g0 0 0 7 (by omega), g0 0 0 8 (by omega), g0 15 0 0 (by omega), g0 16 0 0 (by omega), g1 0 (by omega), g1 2 (by omega), g.2.2.1, g.2.2.1, g.2.2.2.1 3 (by omega), g.2.2.2.1 4 (by omega)]
  refine ⟨d.1, d.2.1, fun f q1 q2 => ?_, d.2.2.2⟩
  rw [g0 19 0 f (by omega), g2 1 f (by omega) (by omega) (by omega)]
  exact d.2.2.1 f q1 q2
theorem Fr.p0 {a m : Mem} (h : Fr a m) {t i k : Nat} {v : Int32} (ht : t = 14 ∨ t = 17) : Fr a (pI m (0, t, i) k v) :=
  h.trans ⟨h.1.pI, fun _ _ => gR_pI .., fun _ => rfl, fun _ _ => rfl, fun t' i' k' q => by rw [rd00, if_neg (by omega)], fun _ _ => rfl, fun _ _ _ _ _ => rfl⟩
theorem Fr.p1 {a m : Mem} (h : Fr a m) {t i k : Nat} {v : Int32} (ht : (t = 0 ∧ ((16 ≤ k ∧ k ≤ 19) ∨ 27 ≤ k)) ∨ t = 4 ∨ (14 ≤ t ∧ t ≠ 18)) : Fr a (pI m (1, t, i) k v) :=
  h.trans ⟨h.1.pI, fun _ _ => gR_pI .., fun _ => rfl, fun _ _ => rfl, fun t' i' k' q => rfl, fun k' q => by rw [rd11, if_neg (by omega)], fun t' k' q1 q2 q3 => by rw [rd11, if_neg (by omega)]⟩
theorem Fr.ask {a b : Mem} (h : Fr a b) {v : Int32} : Fr (askM a v) (askM b v) :=
  ⟨h.1.pI, fun o k => by rw [gR_pI, gR_pI]; exact h.2.1 o k, h.2.2.1, h.2.2.2.1, fun t i k q => h.2.2.2.2.1 t i k q, fun k q => by rw [rd11, rd11]; split; rfl; exact h.2.2.2.2.2.1 k q, fun t k q1 q2 q3 => by rw [rd11, rd11, if_neg (by omega), if_neg (by omega)]; exact h.2.2.2.2.2.2 t k q1 q2 q3⟩
theorem Fr.tell {a b : Mem} (h : Fr a b) {v : Int32} : Fr (tellM a v) (tellM b v) :=
  ⟨h.1.pI, fun o k => by rw [gR_pI, gR_pI]; exact h.2.1 o k, h.2.2.1, h.2.2.2.1, fun t i k q => by rw [rd00, rd00]; split; rfl; exact h.2.2.2.2.1 t i k q, fun k q => h.2.2.2.2.2.1 k q, fun t k q1 q2 q3 => h.2.2.2.2.2.2 t k q1 q2 q3⟩
theorem Fr.meet {a b : Mem} (h : Fr a b) {f : Nat} : Fr (meetM a f) (meetM b f) := by
  have e1 : ∀ (m : Mem) (k : Nat), gI (meetM m f) (1, 0, 0) k = if k = 0 then nI f else gI m (1, 0, 0) k := fun m k => by rw [rd11, rd11]; simp
  have e2 : ∀ (m : Mem) (t k : Nat), t ≠ 0 → gI (meetM m f) (1, t, 0) k = if t = 1 ∧ k = f then gI m (1, 1, 0) f + 1 else gI m (1, t, 0) k := fun m t k q => by rw [rd11, rd11]; simp [q]
  refine ⟨h.1.pI.pI, fun o k => by rw [gR_pI, gR_pI, gR_pI, gR_pI]; exact h.2.1 o k, h.2.2.1, h.2.2.2.1, fun t i k q => h.2.2.2.2.1 t i k q, fun k q => ?_, fun t k q1 q2 q3 => ?_⟩
  · rw [e1, e1, h.2.2.2.2.2.1 k q]
  · rw [e2 _ _ _ q1, e2 _ _ _ q1, h.2.2.2.2.2.2 1 f (by omega) (by omega) (by omega), h.2.2.2.2.2.2 t k q1 q2 q3]
/-- told on the class's side, then scribbled, then told on the reference's -/
theorem RelAB.tell2 {m m1 m2 : Mem} (R : RelAB m) (g : Fr m m1) {v : Int32} (g2 : Fr (tellM m1 v) m2) : RelAB (askM m2 v) := g2.ask.rel ((g.rel R).tell v)
theorem RelAB.meet2 {m m1 m2 : Mem} (R : RelAB m) (g : Fr m m1) {f : Nat} (h1 : 1 ≤ f) (h5 : f ≤ 5) (g2 : Fr (foundM m1 f) m2) : RelAB (meetM m2 f) := g2.meet.rel ((g.rel R).meet h1 h5)
/-! counting loops -/
def itr {α : Type} (f : Nat → α → α) (a : α) : Nat → α
  | 0 => a
  | k + 1 => f k (itr f a k)
theorem itr_cg {α : Type} {f g : Nat → α → α} {a : α} : ∀ {n : Nat}, (∀ k x, k < n → f k x = g k x) → itr f a n = itr g a n
  | 0, _ => rfl
  | n + 1, h => by
    unfold itr
    rw [itr_cg (n := n) fun k x hk => h k x (by omega), h n _ (by omega)]
theorem lq_e {x y : Int32} {n k : Nat} (c : x ≤ y) (hx : x = nI n) (hy : y = nI k) (hk : k ≤ n) (hn : n ≤ 100000) : k = n := by
  subst hx; subst hy
  have := (nI_leI (by omega) (by omega)).mp c
  omega
theorem lq_m {x y : Int32} {n k : Nat} (c : ¬ x ≤ y) (hx : x = nI n) (hy : y = nI k) (hk : k ≤ n) (hn : n ≤ 100000) : k < n := by
  subst hx; subst hy
  have := mt (nI_leI (by omega) (by omega)).mpr c
  omega
