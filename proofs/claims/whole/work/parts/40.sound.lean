/-! Written by a program (wip/whole/p40.py): sound, ripple. -/
def snd (k l : Nat) : Nat := match k with
  | 1 => 2 * l
  | 2 => l / 2
  | 4 => 0
  | _ => l
def far (i a : Nat) : Nat := (i - a) + (a - i)
def Ki (m : Mem) (i : Nat) : Nat := kn m i
def Lo (m : Mem) (i : Nat) : Nat := (gI m (1, 8, 0) i).toNatClampNeg
def Wa (m : Mem) (i : Nat) : Nat := (gI m (1, 9, 0) i).toNatClampNeg
def Al (m : Mem) : Nat := (gI m (1, 0, 0) 11).toNatClampNeg
def Sn (m : Mem) (i : Nat) : Nat := snd (kn m i) (Lo m i)
/-- the RIPPLE of a HOUSE -/
def Rp (m : Mem) (i : Nat) : Nat := Sn m i - (Wa m i + far i (Al m))
/-- all of HOUSE i on both sides -/
def HD (m : Mem) (i : Nat) : Prop := kn m i < 6 ∧ Lo m i ≤ 9 ∧ Wa m i ≤ 99 ∧ Al m ≤ 9 ∧ gI m (0, 8, i) 1 = nI (Lo m i) ∧ gI m (0, 8, i) 2 = nI (Wa m i) ∧ gI m (0, 5, 0) 5 = nI (Al m) ∧ gI m (1, 7, 0) i = nI (kn m i) ∧ gI m (1, 8, 0) i = nI (Lo m i) ∧ gI m (1, 9, 0) i = nI (Wa m i) ∧ gI m (1, 0, 0) 11 = nI (Al m)
theorem CurR.hd {n : Nat} {m : Mem} (H : CurR n m) (hR : OKR m) {i : Nat} (hi : i < n) : HD m i := by
  obtain ⟨h8, hm, -, h1⟩ := H
  obtain ⟨⟨hl, -⟩, ⟨H, s1, s2⟩, hk⟩ := h1 (by omega)
  obtain ⟨l1, l2, l, l3, l4⟩ := hl i hi
  obtain ⟨-, -, -, ⟨a1, a, a2, a3⟩, -, -, hw, -, -⟩ := s2
  have hwi := hw i hi
  rw [show 8 * 0 + i = i by omega] at hwi
  obtain ⟨w1, ⟨w, w2, w3⟩, -⟩ := hwi
  have eL : Lo m i = l := by unfold Lo; rw [l4, nI_clamp (by omega)]
  have eW : Wa m i = w := by unfold Wa; rw [w3, nI_clamp (by omega)]
  have eA : Al m = a := by unfold Al; rw [a3, nI_clamp (by omega)]
  unfold HD
  rw [eL, eW, eA]
  exact ⟨hR.2 i (by omega), l3, w2, a2, l2.trans l4, w1.trans w3, a1.trans a3, l1, l4, w3, a3⟩
theorem snd_le {k l : Nat} (h : l ≤ 9) : snd k l ≤ 18 := by
  unfold snd
  split <;> omega
theorem Sn_le {m : Mem} {i : Nat} (h : HD m i) : Sn m i ≤ 18 := snd_le h.2.1
theorem Rp_le {m : Mem} {i : Nat} (h : HD m i) : Rp m i ≤ 18 := by have := Sn_le h; unfold Rp; omega
theorem sndA : ∀ k, k < 6 → ∀ l, l < 10 → nI l * kcon 2 k / 2 = nI (snd k l) := by decide +kernel
theorem sndB : ∀ k, k < 6 → ∀ l, l < 10 → (if nI k = 1 then 2 * nI l else if nI k = 2 then nI l / 2 else if nI k = 4 then 0 else nI l) = nI (snd k l) := by decide +kernel
theorem farA {i a : Nat} (hi : i < 8) (ha : a ≤ 9) : (if 0 ≤ nI i - nI a then nI i - nI a else 0 - (nI i - nI a)) = nI (far i a) := by
  have : ∀ i, i < 8 → ∀ a, a < 10 → (if 0 ≤ nI i - nI a then nI i - nI a else 0 - (nI i - nI a)) = nI (far i a) := by decide +kernel
  exact this i hi a (by omega)
theorem farB {i a : Nat} (hi : i < 8) (ha : a ≤ 9) : (if nI a < nI i then nI i - nI a else nI a - nI i) = nI (far i a) := by
  have : ∀ i, i < 8 → ∀ a, a < 10 → (if nI a < nI i then nI i - nI a else nI a - nI i) = nI (far i a) := by decide +kernel
  exact this i hi a (by omega)
theorem far_le {i a : Nat} (hi : i < 8) (ha : a ≤ 9) : far i a ≤ 9 := by unfold far; omega
theorem sub3 {s w f : Nat} (hs : s ≤ 18) (hw : w ≤ 99) (hf : f ≤ 9) : (0 < nI s - nI w - nI f → nI s - nI w - nI f = nI (s - (w + f))) ∧ (¬ 0 < nI s - nI w - nI f → s - (w + f) = 0) ∧ (0 ≤ nI s - nI w - nI f → nI s - nI w - nI f = nI (s - (w + f))) ∧ (nI s - nI w - nI f < 0 → s - (w + f) = 0) := by
  have e1 := nI_toInt (n := s) (by omega)
  have e2 := nI_toInt (n := w) (by omega)
  have e3 := nI_toInt (n := f) (by omega)
  have e4 := nI_toInt (n := s - (w + f)) (by omega)
  generalize nI s = x at *
  generalize nI w = y at *
  generalize nI f = z at *
  generalize nI (s - (w + f)) = u at *
  have b : (x - y - z).toInt = (s : Int) - w - f := by
    rw [Int32.toInt_sub, Int32.toInt_sub, e1, e2, e3]
    simp only [Int.bmod_def]
    omega
  refine ⟨fun h => ?_, fun h => ?_, fun h => ?_, fun h => ?_⟩
  · have h := Int32.lt_iff_toInt_lt.mp h
    refine Int32.toInt_inj.mp ?_
    rw [b, e4]
    rw [b] at h
    simp at h
    omega
  · have h := mt Int32.lt_iff_toInt_lt.mpr h
    rw [b] at h
    simp at h
    omega
  · have h := Int32.le_iff_toInt_le.mp h
    refine Int32.toInt_inj.mp ?_
    rw [b, e4]
    rw [b] at h
    simp at h
    omega
  · have h := Int32.lt_iff_toInt_lt.mp h
    rw [b] at h
    simp at h
    omega
