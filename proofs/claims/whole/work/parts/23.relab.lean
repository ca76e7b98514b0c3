/-! CLASS AGAINST REFERENCE: what holds between two calls of the law. -/
def RowsR (m : Mem) : Prop := ∀ r, r < 6 → (gI m (0, 1, r) 1 = -1 ∧ gI m (1, 2, 0) r = -9) ∨ ∃ n, n ≤ 40 ∧ gI m (0, 1, r) 1 = nI n ∧ gI m (1, 2, 0) r = nI n ∧ ∀ k, k < n → gI m (0, 2, r) k = gI m (1, 3, 0) (40 * r + k)
def TextsR (m : Mem) : Prop := ∀ t, t < 4 → (gI m (0, 1, 6 + t) 1 = -1 ∧ gI m (1, 5, 0) t = -9) ∨ ∃ n, n ≤ 80 ∧ gI m (0, 1, 6 + t) 1 = nI n ∧ gI m (1, 5, 0) t = nI n ∧ ∀ k, k < n → gI m (0, 2, 6 + t) k = gI m (1, 6, 0) (80 * t + k)
def TellR (m : Mem) : Prop := gI m (0, 0, 0) 7 = gI m (1, 0, 0) 0 ∧ gI m (0, 0, 0) 8 = gI m (1, 0, 0) 2 ∧ (∀ f, 1 ≤ f → f ≤ 5 → gI m (0, 19, 0) f = gI m (1, 1, 0) f) ∧ gL m (0, 18, 0) 0 = gL m (1, 0, 0) 3 ∧ gL m (0, 18, 0) 1 = gL m (1, 0, 0) 4 ∧ gI m (0, 15, 0) 0 = 0 ∧ gI m (0, 16, 0) 0 = 0
/-- an HOUR that has been, against a note of 12 ints -/
def HrR (n h : Nat) (nt : Nat → Int32) (m : Mem) : Prop := gI m (0, 10, h) 1 = nt 0 ∧ gI m (0, 10, h) 2 = nt 1 ∧ gI m (0, 10, h) 3 = nt 2 ∧ (∃ w, w ≤ 60 ∧ nt 2 = nI w) ∧ gI m (0, 10, h) 4 = nt 3 ∧ ∀ i, i < n → gI m (0, 11, h) i = nt (4 + i)
/-- a HOUSE against wall, made, paid -/
def HoR (h : Nat) (wl md pd : Int32) (m : Mem) : Prop := gI m (0, 8, h) 2 = wl ∧ (∃ w, w ≤ 99 ∧ wl = nI w) ∧ gI m (0, 8, h) 3 = md ∧ gI m (0, 8, h) 4 = pd ∧ ∃ w, w ≤ 999 ∧ pd = nI w
/-- STREET s of n HOUSES and H HOURS against what the reference keeps of one -/
def SR (s n H : Nat) (al wa ov : Int32) (wl md pd db nt : Nat → Int32) (m : Mem) : Prop :=
  gI m (0, 5, s) 3 = nI n ∧ gI m (0, 5, s) 4 = nI H ∧ H ≤ 40 ∧ (gI m (0, 5, s) 5 = al ∧ ∃ a, a ≤ 9 ∧ al = nI a) ∧ (gI m (0, 5, s) 7 = wa ∧ ∃ w, w ≤ 60 ∧ wa = nI w) ∧ gI m (0, 5, s) 8 = ov ∧
  (∀ i, i < n → HoR (8 * s + i) (wl i) (md i) (pd i) m) ∧ (∀ i j, i < n → j < n → gI m (0, 13, 8 * s + i) j = db (8 * i + j) ∧ ∃ v, v ≤ 99 ∧ db (8 * i + j) = nI v) ∧ ∀ t, t < H → HrR n (40 * s + t) (fun c => nt (12 * t + c)) m
/-- what is told of the HOUSES once and for all: kind, loud; the leak -/
def LoudR (n : Nat) (m : Mem) : Prop := (∀ i, i < n → gI m (1, 7, 0) i = nI (kn m i) ∧ gI m (0, 8, i) 1 = gI m (1, 8, 0) i ∧ ∃ l, l ≤ 9 ∧ gI m (1, 8, 0) i = nI l) ∧ (gI m (0, 5, 0) 6 = gI m (1, 0, 0) 12 ∧ ∃ l, l ≤ 9 ∧ gI m (1, 0, 0) 12 = nI l)
def KeptR (n k : Nat) (m : Mem) : Prop := (gI m (0, 5, 1 + k) 3 = 0 ∧ gI m (1, 13, 0) (580 * k) = -9) ∨
  (∃ H, gI m (1, 13, 0) (580 * k) = nI H ∧ SR (1 + k) n H (gI m (1, 13, 0) (580 * k + 1)) (gI m (1, 13, 0) (580 * k + 2)) (gI m (1, 13, 0) (580 * k + 3)) (fun i => gI m (1, 13, 0) (580 * k + 4 + i)) (fun i => gI m (1, 13, 0) (580 * k + 12 + i)) (fun i => gI m (1, 13, 0) (580 * k + 20 + i)) (fun j => gI m (1, 13, 0) (580 * k + 28 + j)) (fun j => gI m (1, 13, 0) (580 * k + 92 + j)) m ∧
    (∀ i, i < n → kn m (8 * (1 + k) + i) = kn m i ∧ gI m (0, 8, 8 * (1 + k) + i) 1 = gI m (0, 8, i) 1) ∧ gI m (0, 5, 1 + k) 6 = gI m (0, 5, 0) 6)
def CurR (n : Nat) (m : Mem) : Prop := n ≤ 8 ∧ gI m (1, 0, 0) 10 = nI n ∧ (n = 0 → gI m (0, 5, 0) 3 = 0 ∧ gI m (0, 5, 0) 4 = 0 ∧ gI m (1, 0, 0) 20 = 0 ∧ gI m (0, 5, 0) 7 = 0 ∧ gI m (1, 0, 0) 21 = 0 ∧ gI m (0, 5, 0) 8 = 0 ∧ gI m (1, 0, 0) 22 = 0 ∧ gI m (1, 0, 0) 11 = 0 ∧ gI m (1, 0, 0) 12 = 0 ∧ ∀ k, k < 3 → gI m (0, 5, 1 + k) 3 = 0 ∧ gI m (1, 13, 0) (580 * k) = -9) ∧
  (0 < n → LoudR n m ∧ (∃ H, gI m (1, 0, 0) 20 = nI H ∧ SR 0 n H (gI m (1, 0, 0) 11) (gI m (1, 0, 0) 21) (gI m (1, 0, 0) 22) (gI m (1, 9, 0)) (gI m (1, 10, 0)) (gI m (1, 11, 0)) (gI m (1, 18, 0)) (gI m (1, 12, 0)) m) ∧ ∀ k, k < 3 → KeptR n k m)
def RelAB (m : Mem) : Prop := OKR m ∧ RowsR m ∧ TextsR m ∧ TellR m ∧ ∃ n, CurR n m
/-! what a call leaves alone stays -/
theorem kn_rw {m m' : Mem} (h : ∀ i, gR m' (0, 8, i) 0 = gR m (0, 8, i) 0) (i : Nat) : kn m' i = kn m i := by unfold kn; rw [h]
/-- the street's side reads only these -/
theorem CurR.cg {n : Nat} {m m' : Mem} (hk : ∀ i, kn m' i = kn m i) (h0 : ∀ t i k, t = 5 ∨ t = 8 ∨ t = 10 ∨ t = 11 ∨ t = 13 → gI m' (0, t, i) k = gI m (0, t, i) k) (h1 : ∀ k, k = 10 ∨ k = 11 ∨ k = 12 ∨ k = 20 ∨ k = 21 ∨ k = 22 → gI m' (1, 0, 0) k = gI m (1, 0, 0) k) (h2 : ∀ t k, t = 7 ∨ t = 8 ∨ t = 9 ∨ t = 10 ∨ t = 11 ∨ t = 12 ∨ t = 13 ∨ t = 18 → gI m' (1, t, 0) k = gI m (1, t, 0) k) (H : CurR n m) : CurR n m' := by
  unfold CurR LoudR KeptR SR HoR HrR at *
  have e5 : ∀ i k, gI m' (0, 5, i) k = gI m (0, 5, i) k := fun i k => h0 5 i k (by omega)
  have e8 : ∀ i k, gI m' (0, 8, i) k = gI m (0, 8, i) k := fun i k => h0 8 i k (by omega)
  have e10 : ∀ i k, gI m' (0, 10, i) k = gI m (0, 10, i) k := fun i k => h0 10 i k (by omega)
  have e11 : ∀ i k, gI m' (0, 11, i) k = gI m (0, 11, i) k := fun i k => h0 11 i k (by omega)
  have e13 : ∀ i k, gI m' (0, 13, i) k = gI m (0, 13, i) k := fun i k => h0 13 i k (by omega)
  have f10 := h1 10 (by omega)
  have f11 := h1 11 (by omega)
  have f12 := h1 12 (by omega)
  have f20 := h1 20 (by omega)
  have f21 := h1 21 (by omega)
  have f22 := h1 22 (by omega)
  have g7 : ∀ k, gI m' (1, 7, 0) k = gI m (1, 7, 0) k := fun k => h2 7 k (by omega)
  have g8 : ∀ k, gI m' (1, 8, 0) k = gI m (1, 8, 0) k := fun k => h2 8 k (by omega)
  have g9 : ∀ k, gI m' (1, 9, 0) k = gI m (1, 9, 0) k := fun k => h2 9 k (by omega)
  have g10 : ∀ k, gI m' (1, 10, 0) k = gI m (1, 10, 0) k := fun k => h2 10 k (by omega)
  have g11 : ∀ k, gI m' (1, 11, 0) k = gI m (1, 11, 0) k := fun k => h2 11 k (by omega)
  have g12 : ∀ k, gI m' (1, 12, 0) k = gI m (1, 12, 0) k := fun k => h2 12 k (by omega)
  have g13 : ∀ k, gI m' (1, 13, 0) k = gI m (1, 13, 0) k := fun k => h2 13 k (by omega)
  have g18 : ∀ k, gI m' (1, 18, 0) k = gI m (1, 18, 0) k := fun k => h2 18 k (by omega)
  simp only [hk, e5, e8, e10, e11, e13, f10, f11, f12, f20, f21, f22, g7, g8, g9, g10, g11, g12, g13, g18]
  exact H
theorem RowsR.cg {m m' : Mem} (h0 : ∀ r, r < 6 → gI m' (0, 1, r) 1 = gI m (0, 1, r) 1) (h1 : ∀ r k, r < 6 → gI m' (0, 2, r) k = gI m (0, 2, r) k) (h2 : ∀ k, gI m' (1, 2, 0) k = gI m (1, 2, 0) k) (h3 : ∀ k, gI m' (1, 3, 0) k = gI m (1, 3, 0) k) (H : RowsR m) : RowsR m' := by
  intro r hr
  rw [h0 r hr, h2]
  rcases H r hr with h | ⟨n, a, b, c, d⟩
  · exact Or.inl h
  · exact Or.inr ⟨n, a, b, c, fun k hk => by rw [h1 r k hr, h3]; exact d k hk⟩
theorem TextsR.cg {m m' : Mem} (h0 : ∀ r, gI m' (0, 1, 6 + r) 1 = gI m (0, 1, 6 + r) 1) (h1 : ∀ r k, gI m' (0, 2, 6 + r) k = gI m (0, 2, 6 + r) k) (h2 : ∀ k, gI m' (1, 5, 0) k = gI m (1, 5, 0) k) (h3 : ∀ k, gI m' (1, 6, 0) k = gI m (1, 6, 0) k) (H : TextsR m) : TextsR m' := by
  unfold TextsR at *
  simp only [h0, h1, h2, h3]
  exact H
/-- both sides meet the same finding; both tell the same -/
theorem RelAB.meet {m : Mem} (R : RelAB m) {f : Nat} (h1 : 1 ≤ f) (h5 : f ≤ 5) : RelAB (meetM (foundM m f) f) := by
  obtain ⟨a, b, c, d, n, e⟩ := R
  refine ⟨a.pI.pI.pI.pI, b.cg (fun _ _ => rfl) (fun _ _ _ => rfl) (fun _ => rfl) (fun _ => rfl), c.cg (fun _ => rfl) (fun _ _ => rfl) (fun _ => rfl) (fun _ => rfl), ?_, n, e.cg (fun i => kn_rw (fun _ => rfl) i) (fun t i k ht => by rcases ht with rfl | rfl | rfl | rfl | rfl <;> rfl) (fun k hk => by rcases hk with rfl | rfl | rfl | rfl | rfl | rfl <;> rfl) (fun t k ht => by rcases ht with rfl | rfl | rfl | rfl | rfl | rfl | rfl | rfl <;> rfl)⟩
  obtain ⟨d1, d2, d3, d4, d5⟩ := d
  refine ⟨rfl, d2, fun g g1 g5 => ?_, d4, d5⟩
  have e1 : gI (meetM (foundM m f) f) (0, 19, 0) g = if g = f then gI m (0, 19, 0) f + 1 else gI m (0, 19, 0) g := by simp [rd00, rd10]
  have e2 : gI (meetM (foundM m f) f) (1, 1, 0) g = if g = f then gI m (1, 1, 0) f + 1 else gI m (1, 1, 0) g := by simp [rd11, rd01]
  rw [e1, e2, d3 g g1 g5, d3 f h1 h5]
theorem RelAB.tell {m : Mem} (R : RelAB m) (v : Int32) : RelAB (askM (tellM m v) v) := by
  obtain ⟨a, b, c, d, n, e⟩ := R
  exact ⟨a.pI.pI, b.cg (fun _ _ => rfl) (fun _ _ _ => rfl) (fun _ => rfl) (fun _ => rfl), c.cg (fun _ => rfl) (fun _ _ => rfl) (fun _ => rfl) (fun _ => rfl), ⟨d.1, rfl, d.2.2⟩, n, e.cg (fun i => kn_rw (fun _ => rfl) i) (fun t i k ht => by rcases ht with rfl | rfl | rfl | rfl | rfl <;> rfl) (fun k hk => by rcases hk with rfl | rfl | rfl | rfl | rfl | rfl <;> rfl) (fun t k ht => by rcases ht with rfl | rfl | rfl | rfl | rfl | rfl | rfl | rfl <;> rfl)⟩
/-- calls that touch rows or texts alone -/
theorem RelAB.cells {m m' : Mem} (R : RelAB m) (hok : OKR m') (hr : RowsR m') (ht : TextsR m') (h0 : ∀ t i k, t ≠ 1 → t ≠ 2 → gI m' (0, t, i) k = gI m (0, t, i) k) (h1 : ∀ t i k, t ≠ 2 → t ≠ 3 → t ≠ 4 → t ≠ 5 → t ≠ 6 → gI m' (1, t, i) k = gI m (1, t, i) k) (hL : ∀ o k, gL m' o k = gL m o k) (hR : ∀ o k, gR m' o k = gR m o k) : RelAB m' := by
  obtain ⟨a, b, c, d, n, e⟩ := R
  refine ⟨hok, hr, ht, ?_, n, e.cg (fun i => kn_cg hR i) (fun t i k q => h0 t i k (by omega) (by omega)) (fun k q => h1 0 0 k (by omega) (by omega) (by omega) (by omega) (by omega)) (fun t k q => h1 t 0 k (by omega) (by omega) (by omega) (by omega) (by omega))⟩
  unfold TellR at *
  simp only [h0 0 _ _ (by omega) (by omega), h0 19 _ _ (by omega) (by omega), h0 15 _ _ (by omega) (by omega), h0 16 _ _ (by omega) (by omega), h1 0 _ _ (by omega) (by omega) (by omega) (by omega) (by omega), h1 1 _ _ (by omega) (by omega) (by omega) (by omega) (by omega), hL]
  exact d
