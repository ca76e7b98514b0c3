/-! Written by a program (wip/whole/p69.py): keep, on: both sides. -/
theorem SR.mv {s s' n H : Nat} {al wa ov al' wa' ov' : Int32} {wl md pd db nt wl' md' pd' db' nt' : Nat → Int32} {m m' : Mem} (h8 : n ≤ 8) (e5 : ∀ q, 3 ≤ q → q ≤ 8 → gI m' (0, 5, s') q = gI m (0, 5, s) q) (e8 : ∀ i q, i < 8 → 1 ≤ q → q ≤ 4 → gI m' (0, 8, 8 * s' + i) q = gI m (0, 8, 8 * s + i) q) (e10 : ∀ t q, t < 40 → 1 ≤ q → q ≤ 4 → gI m' (0, 10, 40 * s' + t) q = gI m (0, 10, 40 * s + t) q) (e11 : ∀ t q, t < 40 → q < 8 → gI m' (0, 11, 40 * s' + t) q = gI m (0, 11, 40 * s + t) q) (e13 : ∀ i q, i < 8 → q < 8 → gI m' (0, 13, 8 * s' + i) q = gI m (0, 13, 8 * s + i) q)
    (f1 : al' = al) (f2 : wa' = wa) (f3 : ov' = ov) (f4 : ∀ i, i < 8 → wl' i = wl i) (f5 : ∀ i, i < 8 → md' i = md i) (f6 : ∀ i, i < 8 → pd' i = pd i) (f7 : ∀ j, j < 64 → db' j = db j) (f8 : ∀ j, j < 480 → nt' j = nt j) (R : SR s n H al wa ov wl md pd db nt m) : SR s' n H al' wa' ov' wl' md' pd' db' nt' m' := by
  subst f1; subst f2; subst f3
  obtain ⟨a1, a2, a3, a4, a5, a6, a7, a8, a9⟩ := R
  refine ⟨by rw [e5 3 (by omega) (by omega)]; exact a1, by rw [e5 4 (by omega) (by omega)]; exact a2, a3, by rw [e5 5 (by omega) (by omega)]; exact a4, by rw [e5 7 (by omega) (by omega)]; exact a5, by rw [e5 8 (by omega) (by omega)]; exact a6, fun i hi => ?_, fun i j hi hj => ?_, fun t ht => ?_⟩
  · have := a7 i hi
    unfold HoR at *
    rw [e8 i 2 (by omega) (by omega) (by omega), e8 i 3 (by omega) (by omega) (by omega), e8 i 4 (by omega) (by omega) (by omega), f4 i (by omega), f5 i (by omega), f6 i (by omega)]
    exact this
  · rw [e13 i j (by omega) (by omega), f7 _ (by omega)]
    exact a8 i j hi hj
  · have := a9 t ht
    unfold HrR at *
    dsimp only at this ⊢
    rw [e10 t 1 (by omega) (by omega) (by omega), e10 t 2 (by omega) (by omega) (by omega), e10 t 3 (by omega) (by omega) (by omega), e10 t 4 (by omega) (by omega) (by omega), f8 _ (by omega), f8 _ (by omega), f8 _ (by omega), f8 _ (by omega)]
    refine ⟨this.1, this.2.1, this.2.2.1, this.2.2.2.1, this.2.2.2.2.1, fun i hi => ?_⟩
    rw [e11 t i (by omega) (by omega), f8 _ (by omega)]
    exact this.2.2.2.2.2 i hi
theorem LoudR.mv {n : Nat} {m m' : Mem} (hk : ∀ i, i < n → kn m' i = kn m i) (g7 : ∀ i, i < n → gI m' (1, 7, 0) i = gI m (1, 7, 0) i) (g8 : ∀ i, i < n → gI m' (1, 8, 0) i = gI m (1, 8, 0) i) (l8 : ∀ i, i < n → gI m' (0, 8, i) 1 = gI m (0, 8, i) 1) (l5 : gI m' (0, 5, 0) 6 = gI m (0, 5, 0) 6) (g12 : gI m' (1, 0, 0) 12 = gI m (1, 0, 0) 12) (R : LoudR n m) : LoudR n m' := by
  refine ⟨fun i hi => ?_, by rw [l5, g12]; exact R.2⟩
  rw [g7 i hi, g8 i hi, hk i hi, l8 i hi]
  exact R.1 i hi
theorem KeptR.mv {n k : Nat} {m m' : Mem} (h8 : n ≤ 8) (e5 : ∀ q, 3 ≤ q → q ≤ 8 → gI m' (0, 5, 1 + k) q = gI m (0, 5, 1 + k) q) (e8 : ∀ i q, i < 8 → 1 ≤ q → q ≤ 4 → gI m' (0, 8, 8 * (1 + k) + i) q = gI m (0, 8, 8 * (1 + k) + i) q) (e10 : ∀ t q, t < 40 → 1 ≤ q → q ≤ 4 → gI m' (0, 10, 40 * (1 + k) + t) q = gI m (0, 10, 40 * (1 + k) + t) q) (e11 : ∀ t q, t < 40 → q < 8 → gI m' (0, 11, 40 * (1 + k) + t) q = gI m (0, 11, 40 * (1 + k) + t) q) (e13 : ∀ i q, i < 8 → q < 8 → gI m' (0, 13, 8 * (1 + k) + i) q = gI m (0, 13, 8 * (1 + k) + i) q)
    (g13 : ∀ j, 580 * k ≤ j → j < 580 * k + 580 → gI m' (1, 13, 0) j = gI m (1, 13, 0) j) (hk : ∀ i, i < n → kn m' i = kn m i) (hk2 : ∀ i, i < 8 → kn m' (8 * (1 + k) + i) = kn m (8 * (1 + k) + i)) (l8 : ∀ i, i < n → gI m' (0, 8, i) 1 = gI m (0, 8, i) 1) (l5 : gI m' (0, 5, 0) 6 = gI m (0, 5, 0) 6) (R : KeptR n k m) : KeptR n k m' := by
  rcases R with q | ⟨H, a, b, c, d⟩
  · exact Or.inl ⟨by rw [e5 3 (by omega) (by omega)]; exact q.1, by rw [g13 _ (by omega) (by omega)]; exact q.2⟩
  · refine Or.inr ⟨H, by rw [g13 _ (by omega) (by omega)]; exact a, SR.mv h8 e5 e8 e10 e11 e13 (g13 _ (by omega) (by omega)) (g13 _ (by omega) (by omega)) (g13 _ (by omega) (by omega)) (fun i _ => g13 _ (by omega) (by omega)) (fun i _ => g13 _ (by omega) (by omega)) (fun i _ => g13 _ (by omega) (by omega)) (fun i _ => g13 _ (by omega) (by omega)) (fun i _ => g13 _ (by omega) (by omega)) b, fun i hi => ?_, by rw [e5 6 (by omega) (by omega), l5]; exact d⟩
    rw [hk2 i (by omega), hk i hi, e8 i 1 (by omega) (by omega) (by omega), l8 i hi]
    exact c i hi
/-- what becomes of the parts of a street when s becomes like r -/
theorem BLz.k1 {m m' : Mem} {s r : Nat} (A : BLz m m' s r) {i : Nat} (hi : i < 8) : kn m' (8 * s + i) = kn m (8 * r + i) := by rw [A.2.1.1, if_pos (by omega), show 8 * r + (8 * s + i - 8 * s) = 8 * r + i by omega]
theorem BLz.k0 {m m' : Mem} {s r : Nat} (A : BLz m m' s r) {u i : Nat} (hu : u ≠ s) (hi : i < 8) : kn m' (8 * u + i) = kn m (8 * u + i) := by rw [A.2.1.1, if_neg (by omega)]
theorem BLz.h1 {m m' : Mem} {s r : Nat} (A : BLz m m' s r) {i q : Nat} (hi : i < 8) (q1 : 1 ≤ q) (q4 : q ≤ 4) : gI m' (0, 8, 8 * s + i) q = gI m (0, 8, 8 * r + i) q := by rw [A.2.1.2.1 _ _ q1 q4, if_pos (by omega), show 8 * r + (8 * s + i - 8 * s) = 8 * r + i by omega]
theorem BLz.h0 {m m' : Mem} {s r : Nat} (A : BLz m m' s r) {u i q : Nat} (hu : u ≠ s) (hi : i < 8) (q1 : 1 ≤ q) (q4 : q ≤ 4) : gI m' (0, 8, 8 * u + i) q = gI m (0, 8, 8 * u + i) q := by rw [A.2.1.2.1 _ _ q1 q4, if_neg (by omega)]
theorem BLz.d1 {m m' : Mem} {s r : Nat} (A : BLz m m' s r) {i q : Nat} (hi : i < 8) (hq : q < 8) : gI m' (0, 13, 8 * s + i) q = gI m (0, 13, 8 * r + i) q := by rw [A.2.1.2.2 _ _ hq, if_pos (by omega), show 8 * r + (8 * s + i - 8 * s) = 8 * r + i by omega]
theorem BLz.d0 {m m' : Mem} {s r : Nat} (A : BLz m m' s r) {u i q : Nat} (hu : u ≠ s) (hi : i < 8) (hq : q < 8) : gI m' (0, 13, 8 * u + i) q = gI m (0, 13, 8 * u + i) q := by rw [A.2.1.2.2 _ _ hq, if_neg (by omega)]
theorem BLz.t1 {m m' : Mem} {s r : Nat} (A : BLz m m' s r) {t q : Nat} (ht : t < 40) (q1 : 1 ≤ q) (q4 : q ≤ 4) : gI m' (0, 10, 40 * s + t) q = gI m (0, 10, 40 * r + t) q := by rw [A.2.2.1.1 _ _ q1 q4, if_pos (by omega), show 40 * r + (40 * s + t - 40 * s) = 40 * r + t by omega]
theorem BLz.t0 {m m' : Mem} {s r : Nat} (A : BLz m m' s r) {u t q : Nat} (hu : u ≠ s) (ht : t < 40) (q1 : 1 ≤ q) (q4 : q ≤ 4) : gI m' (0, 10, 40 * u + t) q = gI m (0, 10, 40 * u + t) q := by rw [A.2.2.1.1 _ _ q1 q4, if_neg (by omega)]
theorem BLz.a1 {m m' : Mem} {s r : Nat} (A : BLz m m' s r) {t q : Nat} (ht : t < 40) (hq : q < 8) : gI m' (0, 11, 40 * s + t) q = gI m (0, 11, 40 * r + t) q := by rw [A.2.2.1.2 _ _ hq, if_pos (by omega), show 40 * r + (40 * s + t - 40 * s) = 40 * r + t by omega]
theorem BLz.a0 {m m' : Mem} {s r : Nat} (A : BLz m m' s r) {u t q : Nat} (hu : u ≠ s) (ht : t < 40) (hq : q < 8) : gI m' (0, 11, 40 * u + t) q = gI m (0, 11, 40 * u + t) q := by rw [A.2.2.1.2 _ _ hq, if_neg (by omega)]
theorem BLz.s1 {m m' : Mem} {s r : Nat} (A : BLz m m' s r) {q : Nat} (q1 : 3 ≤ q) (q4 : q ≤ 8) : gI m' (0, 5, s) q = gI m (0, 5, r) q := by rw [A.2.2.2 _ _ q1 q4, if_pos rfl]
theorem BLz.s0 {m m' : Mem} {s r : Nat} (A : BLz m m' s r) {u q : Nat} (hu : u ≠ s) (q1 : 3 ≤ q) (q4 : q ≤ 8) : gI m' (0, 5, u) q = gI m (0, 5, u) q := by rw [A.2.2.2 _ _ q1 q4, if_neg hu]
theorem TellR.mv {m m1 m2 : Mem} {a b a' b' : List Nat} (A : Ny a b m m1) (B : Nx a' b' m1 m2) (h0 : ∀ t, t = 0 ∨ t = 15 ∨ t = 16 ∨ t = 19 → t ∉ a ∧ t ∉ a') (h1 : 1 ∉ b ∧ 1 ∉ b') (e0 : gI m2 (1, 0, 0) 0 = gI m (1, 0, 0) 0) (e2 : gI m2 (1, 0, 0) 2 = gI m (1, 0, 0) 2) (d : TellR m) : TellR m2 := by
  have c0 : ∀ t k, t = 0 ∨ t = 15 ∨ t = 16 ∨ t = 19 → gI m2 (0, t, 0) k = gI m (0, t, 0) k := fun t k h => (B.2.2.2.1 t 0 k (h0 t h).2).trans (A.2.2.1 t 0 k (h0 t h).1)
  have c1 : ∀ k, gI m2 (1, 1, 0) k = gI m (1, 1, 0) k := fun k => (B.2.2.2.2 1 0 k h1.2).trans (A.2.2.2 1 0 k h1.1)
  have cl : ∀ o k, gL m2 o k = gL m o k := fun o k => (B.2.2.1 o k).trans (A.2.1 o k)
  unfold TellR at *
  rw [c0 0 7 (by omega), c0 0 8 (by omega), e0, e2, cl, cl, cl, cl, c0 15 0 (by omega), c0 16 0 (by omega)]
  refine ⟨d.1, d.2.1, fun f f1 f5 => ?_, d.2.2.2⟩
  rw [c0 19 f (by omega), c1 f]
  exact d.2.2.1 f f1 f5
theorem RelAB.keep {n a : Nat} {m m1 m2 : Mem} (R : RelAB m) (hc : CurR n m) (hn : 0 < n) (ha : a < 3) (A : BLz m m1 (1 + a) 0) (B : Kq (580 * a) (fun x => x < 572) m1 m2) : RelAB m2 := by
  obtain ⟨h8, hm, -, h1⟩ := hc
  obtain ⟨hl, ⟨T, s1, s2⟩, hk⟩ := h1 hn
  have k2 : ∀ i, kn m2 i = kn m1 i := fun i => B.1.kn i
  have b0 : ∀ t i k, gI m2 (0, t, i) k = gI m1 (0, t, i) k := fun t i k => B.1.2.2.2.1 t i k (by simp)
  have b1 : ∀ t i k, t ≠ 13 → gI m2 (1, t, i) k = gI m (1, t, i) k := fun t i k h => (B.1.2.2.2.2 t i k (by simp [h])).trans (A.1.2.2.2 t i k (by simp))
  have a1 : ∀ t i k, gI m1 (1, t, i) k = gI m (1, t, i) k := fun t i k => A.1.2.2.2 t i k (by simp)
  have w0 : ∀ x, x < 572 → gI m2 (1, 13, 0) (580 * a + x) = kS m x := fun x hx => by
    rw [B.2.1 x hx (by omega)]
    unfold kS
    simp only [a1]
  have hz : (0 : Nat) ≠ 1 + a := by omega
  have n0 : ∀ i, i < 8 → kn m2 i = kn m i := fun i hi => by
    have := A.k0 hz (i := i) hi
    rw [show 8 * 0 + i = i by omega] at this
    rw [k2, this]
  have p0 : ∀ i, i < 8 → gI m2 (0, 8, i) 1 = gI m (0, 8, i) 1 := fun i hi => by
    have := A.h0 hz (i := i) (q := 1) hi (by omega) (by omega)
    rw [show 8 * 0 + i = i by omega] at this
    rw [b0, this]
  have l5 : gI m2 (0, 5, 0) 6 = gI m (0, 5, 0) 6 := (b0 5 0 6).trans (A.s0 hz (by omega) (by omega))
  have hc2 : CurR n m2 := by
    refine ⟨h8, by rw [b1 0 0 10 (by omega)]; exact hm, fun z => absurd z (by omega), fun _ => ⟨LoudR.mv (fun i hi => n0 i (by omega)) (fun i _ => b1 7 0 i (by omega)) (fun i _ => b1 8 0 i (by omega)) (fun i hi => p0 i (by omega)) l5 (b1 0 0 12 (by omega)) hl, ⟨T, by rw [b1 0 0 20 (by omega)]; exact s1, SR.mv h8 (fun q q3 q8 => (b0 ..).trans (A.s0 hz q3 q8)) (fun i q hi q1 q4 => (b0 ..).trans (A.h0 hz hi q1 q4)) (fun t q ht q1 q4 => (b0 ..).trans (A.t0 hz ht q1 q4)) (fun t q ht hq => (b0 ..).trans (A.a0 hz ht hq)) (fun i q hi hq => (b0 ..).trans (A.d0 hz hi hq)) (b1 0 0 11 (by omega)) (b1 0 0 21 (by omega)) (b1 0 0 22 (by omega)) (fun i _ => b1 9 0 i (by omega)) (fun i _ => b1 10 0 i (by omega)) (fun i _ => b1 11 0 i (by omega)) (fun i _ => b1 18 0 i (by omega)) (fun i _ => b1 12 0 i (by omega)) s2⟩, fun k hk3 => ?_⟩⟩
    by_cases z : k = a
    · subst z
      refine Or.inr ⟨T, (w0 0 (by omega)).trans s1, SR.mv h8 (fun q q3 q8 => (b0 ..).trans (A.s1 q3 q8)) (fun i q hi q1 q4 => (b0 ..).trans (A.h1 hi q1 q4)) (fun t q ht q1 q4 => (b0 ..).trans (A.t1 ht q1 q4)) (fun t q ht hq => (b0 ..).trans (A.a1 ht hq)) (fun i q hi hq => (b0 ..).trans (A.d1 hi hq)) (w0 1 (by omega)) (w0 2 (by omega)) (w0 3 (by omega)) (fun i hi => ?_) (fun i hi => ?_) (fun i hi => ?_) (fun i hi => ?_) (fun i hi => ?_) s2, fun i hi => ⟨?_, ?_⟩, ?_⟩
      · rw [Nat.add_assoc, w0 _ (by omega), kS_4 m hi]
      · rw [Nat.add_assoc, w0 _ (by omega), kS_12 m hi]
      · rw [Nat.add_assoc, w0 _ (by omega), kS_20 m hi]
      · rw [Nat.add_assoc, w0 _ (by omega), kS_28 m hi]
      · rw [Nat.add_assoc, w0 _ (by omega), kS_92 m i]
      · have := A.k1 (i := i) (by omega)
        rw [k2, this, n0 i (by omega), show 8 * 0 + i = i by omega]
      · have := A.h1 (i := i) (q := 1) (by omega) (by omega) (by omega)
        rw [b0, this, p0 i (by omega), show 8 * 0 + i = i by omega]
      · rw [l5, b0, A.s1 (by omega) (by omega)]
    · have hu : 1 + k ≠ 1 + a := by omega
      exact KeptR.mv h8 (fun q q3 q8 => (b0 ..).trans (A.s0 hu q3 q8)) (fun i q hi q1 q4 => (b0 ..).trans (A.h0 hu hi q1 q4)) (fun t q ht q1 q4 => (b0 ..).trans (A.t0 hu ht q1 q4)) (fun t q ht hq => (b0 ..).trans (A.a0 hu ht hq)) (fun i q hi hq => (b0 ..).trans (A.d0 hu hi hq)) (fun j j1 j2 => (B.2.2 j (by omega)).trans (a1 13 0 j)) (fun i hi => n0 i (by omega)) (fun i hi => (k2 _).trans (A.k0 hu hi)) (fun i hi => p0 i (by omega)) l5 (hk k hk3)
  refine R.ofCur (n := n) B.1.ok hc2 (fun t i k q => (b0 t i k).trans (A.1.2.2.1 t i k (by simp; omega))) (fun t k q => b1 t 0 k (by omega)) (TellR.mv A.1 B.1 (fun t ht => ⟨by simp; omega, by simp⟩) ⟨by simp, by simp⟩ (b1 0 0 0 (by omega)) (b1 0 0 2 (by omega)) R.2.2.2.1)
