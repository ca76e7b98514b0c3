/-! Written by a program (wip/whole/p87.py): the constructors: the class. -/
theorem go_ret {C : CT} {cd : List Ins} {cap : Nat × Nat} {K : Option Vv → Mem → Prop} {ix : Nat} {ls : List Vv} {m : Mem} {uc us : Nat} (hC : monoC C) {a b nx : Nat} {v : Vv} {r : List Nat} (hi : cd[ix]? = some (.return_, a, b, nx, v, r)) (h1 : uc ≤ cap.1) (h2 : us ≤ cap.2) (h : K none m) : Go C cd cap K ix ls [] m uc us := by
  refine go_eff hC hi (E := eR True none m) ?_ ⟨trivial, h⟩
  show eEnd cap uc us (eRetV [] m) = _
  unfold eEnd
  rw [Nat.ble_eq_true_of_le h1, Nat.ble_eq_true_of_le h2]
  rfl
theorem m_Ce_init {d x c : Nat} {m : Mem} {K : Option Vv → Mem → Prop} {v : Int32} (c2 : m.2.2.2 0 2 = c) (hv : v = nI (ln (0, 2, c))) (h : K none (pR (al (pI m (0, 1, x) 1 (-1)) 0 2 1) (0, 1, x) 0 (some (0, 2, c)))) : cW (d + 1) n_Ce_init [vo 0 1 x, vi v] m K := by
  have l80 := ln2_le c
  have e : (if v < 0 then 0 else v) = nI (ln (0, 2, m.2.2.2 0 2)) := by
    rw [c2, hv]
    exact if_neg (nI_pos (by omega))
  refine w_Ce_init (Go.run (callT_mono MT _) [11] 200 ?_)
  refine And.intro ⟨e, Nat.le_of_ble_eq_true rfl, show 0 + ln (0, 2, m.2.2.2 0 2) ≤ 80 by rw [c2]; omega⟩ ?_
  refine go_ret (callT_mono MT _) rfl (Nat.le_of_ble_eq_true rfl) (show 0 + ln (0, 2, m.2.2.2 0 2) ≤ 80 by rw [c2]; omega) ?_
  show K none (pR (al (pI m (0, 1, x) 1 (-1)) 0 2 1) (0, 1, x) 0 (some (0, 2, m.2.2.2 0 2)))
  rw [c2]
  exact h
def setM (m : Mem) (a b c : Nat) : Mem := pI (pI (pI (pR (al (pR (al (pR (al m 0 15 1) (0, 14, 0) 0 (some (0, 15, a))) 0 16 1) (0, 14, 0) 1 (some (0, 16, b))) 0 17 1) (0, 14, 0) 2 (some (0, 17, c))) (0, 14, 0) 3 1) (0, 14, 0) 4 0) (0, 14, 0) 5 0
theorem m_Se_init {d x : Nat} {m : Mem} {K : Option Vv → Mem → Prop} (hx : x = 0) (h : K none (setM m (m.2.2.2 0 15) (m.2.2.2 0 16) (m.2.2.2 0 17))) : cW (d + 1) n_Se_init [vo 0 14 x] m K := by
  subst hx
  refine w_Se_init (Go.run (callT_mono MT _) [23] 200 ?_)
  refine And.intro ⟨rfl, (show 1 ≤ 3 by decide), (show 256 ≤ 768 by decide)⟩ ?_
  refine And.intro ⟨rfl, (show 2 ≤ 3 by decide), (show 512 ≤ 768 by decide)⟩ ?_
  refine And.intro ⟨rfl, (show 3 ≤ 3 by decide), (show 768 ≤ 768 by decide)⟩ ?_
  exact go_ret (callT_mono MT _) rfl (show 3 ≤ 3 by decide) (show 768 ≤ 768 by decide) h
theorem m_Fr_init {d x : Nat} {m : Mem} {K : Option Vv → Mem → Prop} (h : K none (pL (pL m (0, 18, x) 0 0) (0, 18, x) 1 1)) : cW (d + 1) n_Fr_init [vo 0 18 x] m K := by
  refine w_Fr_init (Go.run (callT_mono MT _) [] 200 ?_)
  exact And.intro trivial h
def CX (m : Mem) (a c : Nat) : Prop := m.2.2.2 0 1 = a ∧ m.2.2.2 0 2 = a ∧ m.2.2.2 0 5 = c ∧ m.2.2.2 0 7 = c ∧ m.2.2.2 0 8 = 8 * c ∧ m.2.2.2 0 9 = c ∧ m.2.2.2 0 10 = 40 * c ∧ m.2.2.2 0 11 = 40 * c ∧ m.2.2.2 0 12 = c ∧ m.2.2.2 0 13 = 8 * c ∧ ∀ t, m.2.2.2 1 t = 0
def XI (r t s : Nat) (m : Mem) : Prop := (∀ k, k < 7 → gR m (0, 0, 0) k = crX k) ∧ (∀ k, k < 3 → gR m (0, 14, 0) k = crT k) ∧ (∀ j, j < 1 + s → OKs j m 8 40) ∧ (∀ k, k < r → gR m (0, 3, 0) k = some (0, 1, k)) ∧ (∀ k, k < t → gR m (0, 4, 0) k = some (0, 1, 6 + k)) ∧ (∀ k, k < s → gR m (0, 6, 0) k = some (0, 5, 1 + k)) ∧ (∀ c, c < r + t → gR m (0, 1, c) 0 = some (0, 2, c) ∧ gI m (0, 1, c) 1 = -1) ∧ (∀ t' i k, t' ≠ 1 → t' ≠ 14 → gI m (0, t', i) k = 0) ∧ (∀ t' i k, gI m (1, t', i) k = 0) ∧ gL m (0, 18, 0) 0 = 0 ∧ gL m (0, 18, 0) 1 = 1 ∧ gL m (1, 0, 0) 3 = 0 ∧ CX m (r + t) (1 + s)
theorem XI.cx {r t s : Nat} {m : Mem} (H : XI r t s m) : CX m (r + t) (1 + s) := H.2.2.2.2.2.2.2.2.2.2.2.2
theorem gL_pRx (m : Mem) (o : Id3) (k : Nat) (v : Option Id3) (o' : Id3) (k' : Nat) : gL (pR m o k v) o' k' = gL m o' k' := gL_pR ..
/-- one more of the Cells, and a reference to it elsewhere -/
def celM (m : Mem) (c a k : Nat) : Mem := pR (pR (al (pI (al m 0 1 1) (0, 1, c) 1 (-1)) 0 2 1) (0, 1, c) 0 (some (0, 2, c))) (0, a, 0) k (some (0, 1, c))
theorem celM_R (m : Mem) (c a k t i q : Nat) : gR (celM m c a k) (0, t, i) q = if t = a ∧ i = 0 ∧ q = k then some (0, 1, c) else if t = 1 ∧ i = c ∧ q = 0 then some (0, 2, c) else gR m (0, t, i) q := by
  unfold celM
  rw [rdR, rdR, gR_al, gR_pI, gR_al]
theorem celM_I (m : Mem) (c a k t i q : Nat) : gI (celM m c a k) (0, t, i) q = if t = 1 ∧ i = c ∧ q = 1 then -1 else gI m (0, t, i) q := by
  unfold celM
  rw [gI_pR, gI_pR, gI_al, rd00, gI_al]
theorem celM_J (m : Mem) (c a k t i q : Nat) : gI (celM m c a k) (1, t, i) q = gI m (1, t, i) q := rfl
theorem celM_L (m : Mem) (c a k : Nat) (o : Id3) (q : Nat) : gL (celM m c a k) o q = gL m o q := by
  unfold celM
  rw [gL_pR, gL_pR, gL_al, gL_pI, gL_al]
theorem celM_c (m : Mem) (c a k s t : Nat) : (celM m c a k).2.2.2 s t = if s = 0 ∧ (t = 1 ∨ t = 2) then m.2.2.2 s t + 1 else m.2.2.2 s t := by
  show (if s = 0 ∧ t = 2 then (if s = 0 ∧ t = 1 then m.2.2.2 s t + 1 else m.2.2.2 s t) + 1 else (if s = 0 ∧ t = 1 then m.2.2.2 s t + 1 else m.2.2.2 s t)) = _
  by_cases h1 : s = 0 ∧ t = 1
  · rw [if_neg (by omega), if_pos h1, if_pos (by omega)]
  · by_cases h2 : s = 0 ∧ t = 2
    · rw [if_pos h2, if_neg h1, if_pos (by omega)]
    · rw [if_neg h2, if_neg h1, if_neg (by omega)]
theorem CX.cell {m : Mem} {a b c k q : Nat} (H : CX m b c) : CX (celM m q a k) (b + 1) c := by
  obtain ⟨h1, h2, h3, h4, h5, h6, h7, h8, h9, h10, h11⟩ := H
  refine ⟨?_, ?_, ?_, ?_, ?_, ?_, ?_, ?_, ?_, ?_, fun t => ?_⟩
  · rw [celM_c, if_pos (by omega), h1]
  · rw [celM_c, if_pos (by omega), h2]
  · rw [celM_c, if_neg (by omega), h3]
  · rw [celM_c, if_neg (by omega), h4]
  · rw [celM_c, if_neg (by omega), h5]
  · rw [celM_c, if_neg (by omega), h6]
  · rw [celM_c, if_neg (by omega), h7]
  · rw [celM_c, if_neg (by omega), h8]
  · rw [celM_c, if_neg (by omega), h9]
  · rw [celM_c, if_neg (by omega), h10]
  · rw [celM_c, if_neg (by omega), h11]
theorem XI.row {k : Nat} {m : Mem} (H : XI k 0 0 m) (hk : k < 6) : XI (k + 1) 0 0 (celM m k 3 k) := by
  obtain ⟨h1, h2, h3, h4, h5, h6, h7, h8, h9, hA, hB, hC, hD⟩ := H
  refine ⟨fun q hq => by rw [celM_R, if_neg (by omega), if_neg (by omega)]; exact h1 q hq, fun q hq => by rw [celM_R, if_neg (by omega), if_neg (by omega)]; exact h2 q hq, fun j hj => (h3 j hj).cg (fun t i q ht _ => by rw [celM_R, if_neg (by omega), if_neg (by omega)]) (by omega) (by omega), fun q hq => ?_, fun q hq => absurd hq (by omega), fun q hq => absurd hq (by omega), fun c hc => ?_, fun t i q q1 q2 => by rw [celM_I, if_neg (by omega)]; exact h8 t i q q1 q2, fun t i q => h9 t i q, (celM_L ..).trans hA, (celM_L ..).trans hB, (celM_L ..).trans hC, hD.cell⟩
  · rw [celM_R]
    by_cases z : q = k
    · rw [if_pos ⟨rfl, rfl, z⟩, z]
    · rw [if_neg (by omega), if_neg (by omega)]
      exact h4 q (by omega)
  · rw [celM_R, celM_I, if_neg (by omega)]
    by_cases z : c = k
    · rw [if_pos ⟨rfl, z, rfl⟩, if_pos ⟨rfl, z, rfl⟩, z]
      exact ⟨rfl, rfl⟩
    · rw [if_neg (by omega), if_neg (by omega)]
      exact h7 c (by omega)
theorem XI.text {k : Nat} {m : Mem} (H : XI 6 k 0 m) (hk : k < 4) : XI 6 (k + 1) 0 (celM m (6 + k) 4 k) := by
  obtain ⟨h1, h2, h3, h4, h5, h6, h7, h8, h9, hA, hB, hC, hD⟩ := H
  refine ⟨fun q hq => by rw [celM_R, if_neg (by omega), if_neg (by omega)]; exact h1 q hq, fun q hq => by rw [celM_R, if_neg (by omega), if_neg (by omega)]; exact h2 q hq, fun j hj => (h3 j hj).cg (fun t i q ht _ => by rw [celM_R, if_neg (by omega), if_neg (by omega)]) (by omega) (by omega), fun q hq => by rw [celM_R, if_neg (by omega), if_neg (by omega)]; exact h4 q hq, fun q hq => ?_, fun q hq => absurd hq (by omega), fun c hc => ?_, fun t i q q1 q2 => by rw [celM_I, if_neg (by omega)]; exact h8 t i q q1 q2, fun t i q => h9 t i q, (celM_L ..).trans hA, (celM_L ..).trans hB, (celM_L ..).trans hC, hD.cell⟩
  · rw [celM_R]
    by_cases z : q = k
    · rw [if_pos ⟨rfl, rfl, z⟩, z]
    · rw [if_neg (by omega), if_neg (by omega)]
      exact h5 q (by omega)
  · rw [celM_R, celM_I, if_neg (by omega)]
    by_cases z : c = 6 + k
    · rw [if_pos ⟨rfl, z, rfl⟩, if_pos ⟨rfl, z, rfl⟩, z]
      exact ⟨rfl, rfl⟩
    · rw [if_neg (by omega), if_neg (by omega)]
      exact h7 c (by omega)
theorem XI.kept {s : Nat} {m m' : Mem} (H : XI 6 4 s m) (hs : s < 3) (G : SG (1 + s) (al m 0 5 1) m' 8 40) : XI 6 4 (s + 1) (pR m' (0, 6, 0) s (some (0, 5, 1 + s))) := by
  obtain ⟨h1, h2, h3, h4, h5, h6, h7, h8, h9, hA, hB, hC, ⟨d1, d2, d3, d4, d5, d6, d7, d8, d9, d10, d11⟩⟩ := H
  obtain ⟨⟨g1, g2, g3, g4, g5⟩, g6, g7⟩ := G
  have r : ∀ t i q, ¬ ofS (1 + s) t i → t ≠ 6 → gR (pR m' (0, 6, 0) s (some (0, 5, 1 + s))) (0, t, i) q = gR m (0, t, i) q := fun t i q q1 q2 => by
    rw [rdR, if_neg (by omega), g4 t i q q1, gR_al]
  have n : ∀ t i, t ≠ 5 → t ≠ 7 → t ≠ 9 → t ≠ 12 → t ≠ 8 → t ≠ 10 → ¬ ofS (1 + s) t i := fun t i q1 q2 q3 q4 q5 q6 z => by unfold ofS at z; omega
  have n2 : ∀ j t i, j < 1 + s → ofS j t i → ¬ ofS (1 + s) t i := fun j t i hj z y => by unfold ofS at z y; omega
  refine ⟨fun q hq => by rw [r _ _ _ (n _ _ (by omega) (by omega) (by omega) (by omega) (by omega) (by omega)) (by omega)]; exact h1 q hq, fun q hq => by rw [r _ _ _ (n _ _ (by omega) (by omega) (by omega) (by omega) (by omega) (by omega)) (by omega)]; exact h2 q hq, fun j hj => ?_, fun q hq => by rw [r _ _ _ (n _ _ (by omega) (by omega) (by omega) (by omega) (by omega) (by omega)) (by omega)]; exact h4 q hq, fun q hq => by rw [r _ _ _ (n _ _ (by omega) (by omega) (by omega) (by omega) (by omega) (by omega)) (by omega)]; exact h5 q hq, fun q hq => ?_, fun c hc => ?_, fun t i q q1 q2 => ?_, fun t i q => ?_, ?_, ?_, ?_, ?_⟩
  · by_cases z : j = 1 + s
    · subst z
      exact g6.cg (fun t i q ht _ => by rw [rdR, if_neg (by omega)]) (by omega) (by omega)
    · exact (h3 j (by omega)).cg (fun t i q ht y => r t i q (n2 j t i (by omega) y) (by omega)) (by omega) (by omega)
  · rw [rdR]
    by_cases z : q = s
    · rw [if_pos ⟨rfl, rfl, z⟩, z]
    · rw [if_neg (by omega), g4 _ _ _ (n _ _ (by omega) (by omega) (by omega) (by omega) (by omega) (by omega)), gR_al]
      exact h6 q (by omega)
  · rw [r _ _ _ (n _ _ (by omega) (by omega) (by omega) (by omega) (by omega) (by omega)) (by omega), gI_pR, g1, gI_al]
    exact h7 c hc
  · rw [gI_pR, g1, gI_al]; exact h8 t i q q1 q2
  · rw [gI_pR, g1, gI_al]; exact h9 t i q
  · rw [gL_pR, g2, gL_al]; exact hA
  · rw [gL_pR, g2, gL_al]; exact hB
  · rw [gL_pR, g2, gL_al]; exact hC
  · unfold CN at g7
    refine ⟨?_, ?_, ?_, ?_, ?_, ?_, ?_, ?_, ?_, ?_, fun t => ?_⟩
    · rw [cn_pR, g7]; exact d1
    · rw [cn_pR, g7]; exact d2
    · rw [cn_pR, g7]; show m.2.2.2 0 5 + 1 = _; omega
    · rw [cn_pR, g7]; show 1 + s + 1 = _; omega
    · rw [cn_pR, g7]; show 8 * (1 + s) + 8 = _; omega
    · rw [cn_pR, g7]; show 1 + s + 1 = _; omega
    · rw [cn_pR, g7]; show 40 * (1 + s) + 40 = _; omega
    · rw [cn_pR, g7]; show 40 * (1 + s) + 40 = _; omega
    · rw [cn_pR, g7]; show 1 + s + 1 = _; omega
    · rw [cn_pR, g7]; show 8 * (1 + s) + 8 = _; omega
    · rw [cn_pR, g5]; exact d11 t
theorem l_X_init75 {d : Nat} {K : Option Vv → Mem → Prop} (h : ∀ m, XI 6 4 3 m → K none m) (k : Nat) (m : Mem) (H : XI 6 4 k m) (hk : k ≤ 3) : Go (cW (d + 2)) i_X_init (429, 4371) K 75 [vo 0 0 0, vi (nI k)] [] m (129 + 100 * k) (2304 + 689 * k) := by
  have e0 : (nI k).toNatClampNeg = k := nI_clamp (by omega)
  obtain ⟨d1, d2, d3, d4, d5, d6, d7, d8, d9, d10, d11⟩ := H.cx
  refine Go.run (callT_mono MT _) [77] 20 ?_
  refine go_get (callT_mono MT _) rfl rfl (H.1 3 (by omega)) ?_
  refine Go.run (callT_mono MT _) [81, 89] 20 ?_
  refine And.intro (fun c => ?_) (fun c => ?_)
  · have hk2 : k = 3 := lq_e (n := 3) c rfl rfl hk (by omega)
    subst hk2
    refine Go.run (callT_mono MT _) [] 20 ?_
    exact And.intro trivial (h m H)
  · have hk2 : k < 3 := lq_m (n := 3) c rfl rfl hk (by omega)
    refine go_get (callT_mono MT _) rfl rfl (H.1 3 (by omega)) ?_
    refine Go.run (callT_mono MT _) [85] 20 ?_
    refine And.intro ⟨show 129 + 100 * k + 1 ≤ 429 by omega, show 2304 + 689 * k + 9 ≤ 4371 by omega⟩ ?_
    refine go_call (callT_mono MT _) rfl (show 129 + 100 * k + 1 ≤ 429 by omega) (show 2304 + 689 * k + 9 ≤ 4371 by omega) rfl ⟨show 129 + 100 * k + 1 + 99 ≤ 429 by omega, show 2304 + 689 * k + 9 + 680 ≤ 4371 by omega⟩ (fun z => absurd z (by decide)) ?_
    refine m_St_init (s := 1 + k) d3 d4 d5 d6 d7 d8 d9 d10 (fun m' G => ?_)
    refine Go.run (callT_mono MT _) [75] 20 ?_
    refine And.intro (vp_nI (k := k) (N := 3) (by omega) (by decide)) ?_
    refine go_eqC (ls' := [vo 0 0 0, vi (nI (k + 1))]) (uc' := 129 + 100 * (k + 1)) (us' := 2304 + 689 * (k + 1)) (by rw [nI_succ]; rfl) ?_ (show 129 + 100 * k + 1 + 99 = _ by omega) (show 2304 + 689 * k + 9 + 680 = _ by omega) (l_X_init75 h (k + 1) _ (H.kept hk2 G) hk2)
    show pR m' (0, 6, 0) (nI k).toNatClampNeg (some (0, 5, m.2.2.2 0 5)) = _
    rw [e0, d3]
termination_by 3 - k
decreasing_by all_goals omega

theorem l_X_init58 {d : Nat} {K : Option Vv → Mem → Prop} (h : ∀ m, XI 6 4 3 m → K none m) (k : Nat) (m : Mem) (H : XI 6 k 0 m) (hk : k ≤ 4) : Go (cW (d + 2)) i_X_init (429, 4371) K 58 [vo 0 0 0, vi (nI k)] [] m (121 + 2 * k) (1976 + 82 * k) := by
  have e0 : (nI k).toNatClampNeg = k := nI_clamp (by omega)
  have c1 := H.cx.1
  have c2 := H.cx.2.1
  refine Go.run (callT_mono MT _) [60] 20 ?_
  refine go_get (callT_mono MT _) rfl rfl (H.1 1 (by omega)) ?_
  refine Go.run (callT_mono MT _) [64, 75] 20 ?_
  refine And.intro (fun c => ?_) (fun c => ?_)
  · have hk2 : k = 4 := lq_e (n := 4) c rfl rfl hk (by omega)
    subst hk2
    exact l_X_init75 h 0 m H (by omega)
  · have hk2 : k < 4 := lq_m (n := 4) c rfl rfl hk (by omega)
    refine go_get (callT_mono MT _) rfl rfl (H.1 1 (by omega)) ?_
    refine Go.run (callT_mono MT _) [69] 20 ?_
    refine And.intro ⟨show 121 + 2 * k + 1 ≤ 429 by omega, show 1976 + 82 * k + 2 ≤ 4371 by omega⟩ ?_
    refine go_call (callT_mono MT _) rfl (show 121 + 2 * k + 1 ≤ 429 by omega) (show 1976 + 82 * k + 2 ≤ 4371 by omega) rfl ⟨show 121 + 2 * k + 1 + 1 ≤ 429 by omega, show 1976 + 82 * k + 2 + 80 ≤ 4371 by omega⟩ (fun z => absurd z (by decide)) ?_
    refine m_Ce_init (c := 6 + k) (c2.trans (by omega)) (by rw [show ln (0, 2, 6 + k) = 80 from if_neg (show ¬ 6 + k < 6 by omega)]; rfl) ?_
    refine Go.run (callT_mono MT _) [58] 20 ?_
    refine And.intro (vp_nI (k := k) (N := 4) (by omega) (by decide)) ?_
    refine go_eqC (ls' := [vo 0 0 0, vi (nI (k + 1))]) (uc' := 121 + 2 * (k + 1)) (us' := 1976 + 82 * (k + 1)) (by rw [nI_succ]; rfl) ?_ (show 121 + 2 * k + 1 + 1 = _ by omega) (show 1976 + 82 * k + 2 + 80 = _ by omega) (l_X_init58 h (k + 1) _ (H.text hk2) hk2)
    show pR (pR (al (pI (al m 0 1 1) (0, 1, m.2.2.2 0 1) 1 (-1)) 0 2 1) (0, 1, m.2.2.2 0 1) 0 (some (0, 2, 6 + k))) (0, 4, 0) (nI k).toNatClampNeg (some (0, 1, m.2.2.2 0 1)) = _
    rw [e0, c1]
    rfl
termination_by 4 - k
decreasing_by all_goals omega

theorem l_X_init41 {d : Nat} {K : Option Vv → Mem → Prop} (h : ∀ m, XI 6 4 3 m → K none m) (k : Nat) (m : Mem) (H : XI k 0 0 m) (hk : k ≤ 6) : Go (cW (d + 2)) i_X_init (429, 4371) K 41 [vo 0 0 0, vi (nI k)] [] m (109 + 2 * k) (1484 + 82 * k) := by
  have e0 : (nI k).toNatClampNeg = k := nI_clamp (by omega)
  have c1 := H.cx.1
  have c2 := H.cx.2.1
  refine Go.run (callT_mono MT _) [43] 20 ?_
  refine go_get (callT_mono MT _) rfl rfl (H.1 0 (by omega)) ?_
  refine Go.run (callT_mono MT _) [47, 58] 20 ?_
  refine And.intro (fun c => ?_) (fun c => ?_)
  · have hk2 : k = 6 := lq_e (n := 6) c rfl rfl hk (by omega)
    subst hk2
    exact l_X_init58 h 0 m H (by omega)
  · have hk2 : k < 6 := lq_m (n := 6) c rfl rfl hk (by omega)
    refine go_get (callT_mono MT _) rfl rfl (H.1 0 (by omega)) ?_
    refine Go.run (callT_mono MT _) [52] 20 ?_
    refine And.intro ⟨show 109 + 2 * k + 1 ≤ 429 by omega, show 1484 + 82 * k + 2 ≤ 4371 by omega⟩ ?_
    refine go_call (callT_mono MT _) rfl (show 109 + 2 * k + 1 ≤ 429 by omega) (show 1484 + 82 * k + 2 ≤ 4371 by omega) rfl ⟨show 109 + 2 * k + 1 + 1 ≤ 429 by omega, show 1484 + 82 * k + 2 + 80 ≤ 4371 by omega⟩ (fun z => absurd z (by decide)) ?_
    refine m_Ce_init (c := k) (c2.trans (by omega)) (by rw [show ln (0, 2, k) = 40 from if_pos hk2]; rfl) ?_
    refine Go.run (callT_mono MT _) [41] 20 ?_
    refine And.intro (vp_nI (k := k) (N := 6) (by omega) (by decide)) ?_
    refine go_eqC (ls' := [vo 0 0 0, vi (nI (k + 1))]) (uc' := 109 + 2 * (k + 1)) (us' := 1484 + 82 * (k + 1)) (by rw [nI_succ]; rfl) ?_ (show 109 + 2 * k + 1 + 1 = _ by omega) (show 1484 + 82 * k + 2 + 80 = _ by omega) (l_X_init41 h (k + 1) _ (H.row hk2) hk2)
    show pR (pR (al (pI (al m 0 1 1) (0, 1, m.2.2.2 0 1) 1 (-1)) 0 2 1) (0, 1, m.2.2.2 0 1) 0 (some (0, 2, k))) (0, 3, 0) (nI k).toNatClampNeg (some (0, 1, m.2.2.2 0 1)) = _
    rw [e0, c1]
    rfl
termination_by 6 - k
decreasing_by all_goals omega

def X1 (m : Mem) : Prop := gR m (0, 0, 0) 0 = some (0, 3, 0) ∧ gR m (0, 0, 0) 1 = some (0, 4, 0) ∧ OKs 0 m 8 40 ∧ (∀ o k, o.1 < 2 → gI m o k = 0) ∧ (∀ o k, o.1 < 2 → gL m o k = 0) ∧ CX m 0 1 ∧ m.2.2.2 0 6 = 0 ∧ ∀ t, 14 ≤ t → m.2.2.2 0 t = 0
def m2X (m : Mem) (a b c e f g h : Nat) : Mem := pI (pI (pR (al (pR (pL (pL (al (pR (setM (al (pR (al (pR m (0, 0, 0) 2 (some (0, 5, 0))) 0 6 1) (0, 0, 0) 3 (some (0, 6, a))) 0 14 1) e f g) (0, 0, 0) 4 (some (0, 14, b))) 0 18 1) (0, 18, c) 0 0) (0, 18, c) 1 1) (0, 0, 0) 5 (some (0, 18, c))) 0 19 1) (0, 0, 0) 6 (some (0, 19, h))) (0, 0, 0) 7 0) (0, 0, 0) 8 0
theorem m2X_R (m : Mem) (t i q : Nat) : gR (m2X m 0 0 0 0 0 0 0) (0, t, i) q = if t = 0 ∧ i = 0 ∧ q = 6 then some (0, 19, 0) else if t = 0 ∧ i = 0 ∧ q = 5 then some (0, 18, 0) else if t = 0 ∧ i = 0 ∧ q = 4 then some (0, 14, 0) else if t = 14 ∧ i = 0 ∧ q = 2 then some (0, 17, 0) else if t = 14 ∧ i = 0 ∧ q = 1 then some (0, 16, 0) else if t = 14 ∧ i = 0 ∧ q = 0 then some (0, 15, 0) else if t = 0 ∧ i = 0 ∧ q = 3 then some (0, 6, 0) else if t = 0 ∧ i = 0 ∧ q = 2 then some (0, 5, 0) else gR m (0, t, i) q := by
  unfold m2X setM
  rw [gR_pI, gR_pI, rdR, gR_al, rdR, gR_pL, gR_pL, gR_al, rdR, gR_pI, gR_pI, gR_pI, rdR, gR_al, rdR, gR_al, rdR, gR_al, gR_al, rdR, gR_al, rdR]
theorem m2X_I (m : Mem) (t i q : Nat) (h : t ≠ 14) : gI (m2X m 0 0 0 0 0 0 0) (0, t, i) q = if t = 0 ∧ i = 0 ∧ q = 8 then 0 else if t = 0 ∧ i = 0 ∧ q = 7 then 0 else gI m (0, t, i) q := by
  unfold m2X setM
  rw [rd00, rd00, gI_pR, gI_al, gI_pR, gI_pL, gI_pL, gI_al, gI_pR, rd00, if_neg (fun z : t = 14 ∧ i = 0 ∧ q = 5 => h z.1), rd00, if_neg (fun z : t = 14 ∧ i = 0 ∧ q = 4 => h z.1), rd00, if_neg (fun z : t = 14 ∧ i = 0 ∧ q = 3 => h z.1), gI_pR, gI_al, gI_pR, gI_al, gI_pR, gI_al, gI_al, gI_pR, gI_al, gI_pR]
theorem l_X_init14 {d : Nat} {K : Option Vv → Mem → Prop} (h : ∀ m, XI 6 4 3 m → K none m) (m : Mem) (H : X1 m) : Go (cW (d + 2)) i_X_init (429, 4371) K 14 [vo 0 0 0, vu] [vo 0 5 0, vo 0 0 0] m 102 699 := by
  obtain ⟨h1, h2, h3, h4, h5, h6, h7, h8⟩ := H
  refine Go.run (callT_mono MT _) [27] 200 ?_
  refine And.intro ⟨rfl, (show 103 ≤ 429 by decide), (show 702 ≤ 4371 by decide)⟩ ?_
  refine And.intro ⟨(show 104 ≤ 429 by decide), (show 708 ≤ 4371 by decide)⟩ ?_
  refine And.intro ⟨(show 107 ≤ 429 by decide), (show 1476 ≤ 4371 by decide)⟩ ?_
  refine m_Se_init (h8 14 (by omega)) ?_
  refine And.intro ⟨(show 108 ≤ 429 by decide), (show 1478 ≤ 4371 by decide)⟩ ?_
  refine go_eqC rfl rfl (show _ = 108 from rfl) (show _ = 1478 from rfl) ?_
  refine Go.run (callT_mono MT _) [41] 200 ?_
  refine m_Fr_init ?_
  refine And.intro ⟨rfl, (show 109 ≤ 429 by decide), (show 1484 ≤ 4371 by decide)⟩ ?_
  have e : m2X m (m.2.2.2 0 6) (m.2.2.2 0 14) (m.2.2.2 0 18) (m.2.2.2 0 15) (m.2.2.2 0 16) (m.2.2.2 0 17) (m.2.2.2 0 19) = m2X m 0 0 0 0 0 0 0 := by rw [h7, h8 14 (by omega), h8 18 (by omega), h8 15 (by omega), h8 16 (by omega), h8 17 (by omega), h8 19 (by omega)]
  refine go_eqC (ls' := [vo 0 0 0, vi (nI 0)]) (uc' := 109 + 2 * 0) (us' := 1484 + 82 * 0) rfl e rfl rfl (l_X_init41 h 0 _ ⟨fun k hk => ?_, fun k hk => ?_, fun j hj => ?_, fun k hk => absurd hk (by omega), fun k hk => absurd hk (by omega), fun k hk => absurd hk (by omega), fun c hc => absurd hc (by omega), fun t i k q1 q2 => ?_, fun t i k => h4 (1, t, i) k (by simp), ?_, ?_, ?_, h6⟩ (by omega))
  · rw [m2X_R]
    match k, hk with
    | 0, _ => exact h1
    | 1, _ => exact h2
    | 2, _ => rfl
    | 3, _ => rfl
    | 4, _ => rfl
    | 5, _ => rfl
    | 6, _ => rfl
  · rw [m2X_R]
    match k, hk with
    | 0, _ => rfl
    | 1, _ => rfl
    | 2, _ => rfl
  · obtain rfl : j = 0 := by omega
    exact h3.cg (fun t i q ht _ => by rw [m2X_R, if_neg (by omega), if_neg (by omega), if_neg (by omega), if_neg (by omega), if_neg (by omega), if_neg (by omega), if_neg (by omega), if_neg (by omega)]) (by omega) (by omega)
  · rw [m2X_I _ _ _ _ q2]
    split
    · rfl
    · split
      · rfl
      · exact h4 (0, t, i) k (by simp)
  · rfl
  · rfl
  · exact h5 (1, 0, 0) 3 (by simp)
def Z0 (m : Mem) : Prop := (∀ o k, o.1 < 2 → gI m o k = 0) ∧ (∀ o k, o.1 < 2 → gL m o k = 0) ∧ (∀ t, t ≠ 0 → m.2.2.2 0 t = 0) ∧ ∀ t, m.2.2.2 1 t = 0
theorem m_X_init {d : Nat} {m : Mem} {K : Option Vv → Mem → Prop} (H : Z0 m) (h : ∀ m, XI 6 4 3 m → K none m) : cW (d + 3) n_X_init [vo 0 0 0] m K := by
  obtain ⟨h1, h2, h3, h4⟩ := H
  refine w_X_init (Go.run (callT_mono MT _) [14] 200 ?_)
  refine And.intro ⟨rfl, (show 1 ≤ 429 by decide), (show 6 ≤ 4371 by decide)⟩ ?_
  refine And.intro ⟨rfl, (show 2 ≤ 429 by decide), (show 10 ≤ 4371 by decide)⟩ ?_
  refine And.intro ⟨(show 3 ≤ 429 by decide), (show 19 ≤ 4371 by decide)⟩ ?_
  refine And.intro ⟨(show 102 ≤ 429 by decide), (show 699 ≤ 4371 by decide)⟩ ?_
  refine m_St_init (s := 0) (h3 5 (by omega)) (h3 7 (by omega)) (h3 8 (by omega)) (h3 9 (by omega)) (h3 10 (by omega)) (h3 11 (by omega)) (h3 12 (by omega)) (h3 13 (by omega)) (fun m' G => ?_)
  obtain ⟨⟨g1, g2, g3, g4, g5⟩, g6, g7⟩ := G
  have c5 : (vo 0 5 (m.2.2.2 0 5) : Vv) = vo 0 5 0 := by rw [h3 5 (by omega)]
  have key : ∀ x : Vv, x = vo 0 5 0 → Go (cW (d + 2)) i_X_init (429, 4371) K 14 [vo 0 0 0, vu] [x, vo 0 0 0] m' 102 699 := fun x ex => by
    subst ex
    refine l_X_init14 h m' ⟨?_, ?_, g6, fun o k q => ?_, fun o k q => ?_, ⟨?_, ?_, ?_, ?_, ?_, ?_, ?_, ?_, ?_, ?_, fun t => ?_⟩, ?_, fun t ht => ?_⟩
    · rw [g4 0 0 0 (fun z => by unfold ofS at z; omega)]
      exact congrArg (fun i => some (0, 3, i)) (h3 3 (by omega))
    · rw [g4 0 0 1 (fun z => by unfold ofS at z; omega)]
      exact congrArg (fun i => some (0, 4, i)) (h3 4 (by omega))
    · rw [g1]
      simp only [gI_al, gI_pR]
      exact h1 o k q
    · rw [g2]
      simp only [gL_al, gL_pR]
      exact h2 o k q
    · rw [g7 1]; exact h3 1 (by omega)
    · rw [g7 2]; exact h3 2 (by omega)
    · rw [g7 5]; exact congrArg (· + 1) (h3 5 (by omega))
    · rw [g7 7]; rfl
    · rw [g7 8]; rfl
    · rw [g7 9]; rfl
    · rw [g7 10]; rfl
    · rw [g7 11]; rfl
    · rw [g7 12]; rfl
    · rw [g7 13]; rfl
    · rw [g5]; exact h4 t
    · rw [g7 6]; exact h3 6 (by omega)
    · rw [g7 t, if_neg (by omega), if_neg (by omega), if_neg (by omega), if_neg (by omega)]
      show (if 0 = 0 ∧ t = 5 then (if 0 = 0 ∧ t = 4 then (if 0 = 0 ∧ t = 3 then m.2.2.2 0 t + 1 else m.2.2.2 0 t) + 1 else (if 0 = 0 ∧ t = 3 then m.2.2.2 0 t + 1 else m.2.2.2 0 t)) + 1 else (if 0 = 0 ∧ t = 4 then (if 0 = 0 ∧ t = 3 then m.2.2.2 0 t + 1 else m.2.2.2 0 t) + 1 else (if 0 = 0 ∧ t = 3 then m.2.2.2 0 t + 1 else m.2.2.2 0 t))) = 0
      rw [if_neg (by omega), if_neg (by omega), if_neg (by omega)]
      exact h3 t (by omega)
  exact key _ c5
