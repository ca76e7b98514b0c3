/-! FRAMES: a street is left alone. -/
theorem SR.cg {s n H : Nat} {al wa ov : Int32} {wl md pd db nt : Nat → Int32} {m m' : Mem} (h8 : n ≤ 8) (e5 : ∀ k, gI m' (0, 5, s) k = gI m (0, 5, s) k) (e8 : ∀ i k, i < 8 → gI m' (0, 8, 8 * s + i) k = gI m (0, 8, 8 * s + i) k) (e10 : ∀ t k, t < 40 → gI m' (0, 10, 40 * s + t) k = gI m (0, 10, 40 * s + t) k) (e11 : ∀ t k, t < 40 → gI m' (0, 11, 40 * s + t) k = gI m (0, 11, 40 * s + t) k) (e13 : ∀ i k, i < 8 → gI m' (0, 13, 8 * s + i) k = gI m (0, 13, 8 * s + i) k) (R : SR s n H al wa ov wl md pd db nt m) : SR s n H al wa ov wl md pd db nt m' := by
  obtain ⟨a1, a2, a3, a4, a5, a6, a7, a8, a9⟩ := R
  refine ⟨by rw [e5]; exact a1, by rw [e5]; exact a2, a3, by rw [e5]; exact a4, by rw [e5]; exact a5, by rw [e5]; exact a6, fun i hi => ?_, fun i j hi hj => by rw [e13 i j (by omega)]; exact a8 i j hi hj, fun t ht => ?_⟩
  · have := a7 i hi
    unfold HoR at *
    rw [e8 i 2 (by omega), e8 i 3 (by omega), e8 i 4 (by omega)]
    exact this
  · have := a9 t ht
    unfold HrR at *
    rw [e10 t 1 (by omega), e10 t 2 (by omega), e10 t 3 (by omega), e10 t 4 (by omega)]
    refine ⟨this.1, this.2.1, this.2.2.1, this.2.2.2.1, this.2.2.2.2.1, fun i hi => ?_⟩
    rw [e11 t i (by omega)]
    exact this.2.2.2.2.2 i hi
theorem KeptR.cg {n k : Nat} {m m' : Mem} (h8 : n ≤ 8) (e5 : ∀ j, gI m' (0, 5, 1 + k) j = gI m (0, 5, 1 + k) j) (e8 : ∀ i j, i < 8 → gI m' (0, 8, 8 * (1 + k) + i) j = gI m (0, 8, 8 * (1 + k) + i) j) (e10 : ∀ t j, t < 40 → gI m' (0, 10, 40 * (1 + k) + t) j = gI m (0, 10, 40 * (1 + k) + t) j) (e11 : ∀ t j, t < 40 → gI m' (0, 11, 40 * (1 + k) + t) j = gI m (0, 11, 40 * (1 + k) + t) j) (e13 : ∀ i j, i < 8 → gI m' (0, 13, 8 * (1 + k) + i) j = gI m (0, 13, 8 * (1 + k) + i) j)
    (g13 : ∀ j, gI m' (1, 13, 0) j = gI m (1, 13, 0) j) (hk : ∀ i, kn m' i = kn m i) (l8 : ∀ i, i < 8 → gI m' (0, 8, i) 1 = gI m (0, 8, i) 1) (l5 : gI m' (0, 5, 0) 6 = gI m (0, 5, 0) 6) (R : KeptR n k m) : KeptR n k m' := by
  unfold KeptR at *
  simp only [g13, hk, l5, e5]
  rcases R with q | ⟨H, a, b, c, d⟩
  · exact Or.inl q
  · exact Or.inr ⟨H, a, b.cg h8 e5 e8 e10 e11 e13, fun i hi => ⟨(c i hi).1, by rw [e8 i 1 (by omega), l8 i (by omega)]; exact (c i hi).2⟩, d⟩
theorem LoudR.cg {n : Nat} {m m' : Mem} (h8 : n ≤ 8) (hk : ∀ i, kn m' i = kn m i) (g7 : ∀ i, gI m' (1, 7, 0) i = gI m (1, 7, 0) i) (g8 : ∀ i, gI m' (1, 8, 0) i = gI m (1, 8, 0) i) (l8 : ∀ i, i < 8 → gI m' (0, 8, i) 1 = gI m (0, 8, i) 1) (l5 : gI m' (0, 5, 0) 6 = gI m (0, 5, 0) 6) (g12 : gI m' (1, 0, 0) 12 = gI m (1, 0, 0) 12) (R : LoudR n m) : LoudR n m' := by
  unfold LoudR at *
  simp only [hk, g7, g8, l5, g12]
  exact ⟨fun i hi => ⟨(R.1 i hi).1, by rw [l8 i (by omega)]; exact (R.1 i hi).2.1, (R.1 i hi).2.2⟩, R.2⟩
