/-! Written by a program (wip/whole/p88.py): the constructors: the reference; both sides alike at first. -/
def JI (m0 : Mem) (a b c : Nat) (m : Mem) : Prop := (∀ o k, gR m o k = gR m0 o k) ∧ (∀ o k, gL m o k = gL m0 o k) ∧ (∀ t i k, gI m (0, t, i) k = gI m0 (0, t, i) k) ∧ (∀ t i k, t ≠ 2 → t ≠ 5 → t ≠ 13 → gI m (1, t, i) k = gI m0 (1, t, i) k) ∧ (∀ q, q < a → gI m (1, 2, 0) q = -9) ∧ (∀ q, q < b → gI m (1, 5, 0) q = -9) ∧ (∀ q, q < c → gI m (1, 13, 0) (580 * q) = -9) ∧ ∀ k, (crM k).isSome = true → gR m0 (1, 0, 0) k = crM k
theorem JI.f {m0 m : Mem} {a b c : Nat} (H : JI m0 a b c m) (k : Nat) (hk : (crM k).isSome = true) : gR m (1, 0, 0) k = crM k := (H.1 _ _).trans (H.2.2.2.2.2.2.2 k hk)
theorem JI.p {m0 m : Mem} {a b c t k : Nat} {v : Int32} (H : JI m0 a b c m) (ht : t = 2 ∨ t = 5 ∨ t = 13) (h2 : t = 2 → a ≤ k) (h5 : t = 5 → b ≤ k) (h13 : t = 13 → 580 * c ≤ k) : JI m0 a b c (pI m (1, t, 0) k v) := by
  obtain ⟨h1, h3, h4, h6, h7, h8, h9, hA⟩ := H
  exact ⟨fun o q => (gR_pI ..).trans (h1 o q), fun o q => (gL_pI ..).trans (h3 o q), fun t i q => h4 t i q, fun t' i q q1 q2 q3 => by rw [rd11, if_neg (by omega)]; exact h6 t' i q q1 q2 q3, fun q hq => by rw [rd11, if_neg (by omega)]; exact h7 q hq, fun q hq => by rw [rd11, if_neg (by omega)]; exact h8 q hq, fun q hq => by rw [rd11, if_neg (by omega)]; exact h9 q hq, hA⟩
theorem JI.sz {m0 m : Mem} {k : Nat} (H : JI m0 k 0 0 m) (hk : k < 6) : JI m0 (k + 1) 0 0 (pI m (1, 2, 0) k (-9)) := by
  obtain ⟨h1, h3, h4, h6, h7, h8, h9, hA⟩ := H.p (t := 2) (k := k) (v := -9) (by omega) (by omega) (by omega) (by omega)
  refine ⟨h1, h3, h4, h6, fun q hq => ?_, h8, h9, hA⟩
  by_cases z : q = k
  · rw [rd11, if_pos ⟨rfl, rfl, z⟩]
  · exact h7 q (by omega)
theorem JI.ln {m0 m : Mem} {k : Nat} (H : JI m0 6 k 0 m) (hk : k < 4) : JI m0 6 (k + 1) 0 (pI m (1, 5, 0) k (-9)) := by
  obtain ⟨h1, h3, h4, h6, h7, h8, h9, hA⟩ := H.p (t := 5) (k := k) (v := -9) (by omega) (by omega) (by omega) (by omega)
  refine ⟨h1, h3, h4, h6, h7, fun q hq => ?_, h9, hA⟩
  by_cases z : q = k
  · rw [rd11, if_pos ⟨rfl, rfl, z⟩]
  · exact h8 q (by omega)
theorem JI.kp {m0 m : Mem} {k : Nat} (H : JI m0 6 4 k m) (hk : k < 3) : JI m0 6 4 (k + 1) (pI m (1, 13, 0) (580 * k) (-9)) := by
  obtain ⟨h1, h3, h4, h6, h7, h8, h9, hA⟩ := H.p (t := 13) (k := 580 * k) (v := -9) (by omega) (by omega) (by omega) (by omega)
  refine ⟨h1, h3, h4, h6, h7, h8, fun q hq => ?_, hA⟩
  by_cases z : q = k
  · rw [rd11, if_pos ⟨rfl, rfl, by omega⟩]
  · exact h9 q (by omega)

theorem l_M_init107 {d : Nat} {m0 : Mem} {K : Option Vv → Mem → Prop} (h : ∀ m, JI m0 6 4 3 m → K none m) (k : Nat) (m : Mem) (H : JI m0 6 4 k m) (hk : k ≤ 3) : Go (cW d) i_M_init (19, 3652) K 107 [vo 1 0 0, vi (nI k)] [] m 19 3652 := by
  have e0 : (nI k).toNatClampNeg = k := nI_clamp (by omega)
  refine Go.run (callT_mono MT _) [111, 119] 20 ?_
  refine And.intro (fun c => ?_) (fun c => ?_)
  · have hk2 : k = 3 := lq_e (n := 3) c rfl rfl hk (by omega)
    subst hk2
    refine go_ret (callT_mono MT _) rfl (show 19 ≤ 19 by decide) (show 3652 ≤ 3652 by decide) (h m H)
  · have hk2 : k < 3 := lq_m (n := 3) c rfl rfl hk (by omega)
    refine go_get (callT_mono MT _) rfl rfl (H.f 26 rfl) ?_
    refine Go.run (callT_mono MT _) [107] 20 ?_
    refine And.intro (by show vp_in (580 * nI k) 1740; rw [pk580]; exact vp_nI (by omega) (by decide)) ?_
    refine go_eqC (ls' := [vo 1 0 0, vi (nI (k + 1))]) (m' := pI m (1, 13, 0) (580 * k) (-9)) (by rw [nI_succ]; rfl) ?_ rfl rfl (l_M_init107 h (k + 1) _ (H.kp hk2) hk2)
    show pI m (1, 13, 0) (580 * nI k).toNatClampNeg (-9) = _
    rw [pk580, nI_clamp (by omega)]
termination_by 3 - k
decreasing_by all_goals omega

theorem l_M_init95 {d : Nat} {m0 : Mem} {K : Option Vv → Mem → Prop} (h : ∀ m, JI m0 6 4 3 m → K none m) (k : Nat) (m : Mem) (H : JI m0 6 k 0 m) (hk : k ≤ 4) : Go (cW d) i_M_init (19, 3652) K 95 [vo 1 0 0, vi (nI k)] [] m 19 3652 := by
  have e0 : (nI k).toNatClampNeg = k := nI_clamp (by omega)
  refine Go.run (callT_mono MT _) [99, 107] 20 ?_
  refine And.intro (fun c => ?_) (fun c => ?_)
  · have hk2 : k = 4 := lq_e (n := 4) c rfl rfl hk (by omega)
    subst hk2
    exact l_M_init107 h 0 m H (by omega)
  · have hk2 : k < 4 := lq_m (n := 4) c rfl rfl hk (by omega)
    refine go_get (callT_mono MT _) rfl rfl (H.f 8 rfl) ?_
    refine Go.run (callT_mono MT _) [95] 20 ?_
    refine And.intro (vp_nI (k := k) (N := 4) (by omega) (by decide)) ?_
    refine go_eqC (ls' := [vo 1 0 0, vi (nI (k + 1))]) (m' := pI m (1, 5, 0) k (-9)) (by rw [nI_succ]; rfl) ?_ rfl rfl (l_M_init95 h (k + 1) _ (H.ln hk2) hk2)
    show pI m (1, 5, 0) (nI k).toNatClampNeg (-9) = _
    rw [e0]
termination_by 4 - k
decreasing_by all_goals omega

theorem l_M_init83 {d : Nat} {m0 : Mem} {K : Option Vv → Mem → Prop} (h : ∀ m, JI m0 6 4 3 m → K none m) (k : Nat) (m : Mem) (H : JI m0 k 0 0 m) (hk : k ≤ 6) : Go (cW d) i_M_init (19, 3652) K 83 [vo 1 0 0, vi (nI k)] [] m 19 3652 := by
  have e0 : (nI k).toNatClampNeg = k := nI_clamp (by omega)
  refine Go.run (callT_mono MT _) [87, 95] 20 ?_
  refine And.intro (fun c => ?_) (fun c => ?_)
  · have hk2 : k = 6 := lq_e (n := 6) c rfl rfl hk (by omega)
    subst hk2
    exact l_M_init95 h 0 m H (by omega)
  · have hk2 : k < 6 := lq_m (n := 6) c rfl rfl hk (by omega)
    refine go_get (callT_mono MT _) rfl rfl (H.f 5 rfl) ?_
    refine Go.run (callT_mono MT _) [83] 20 ?_
    refine And.intro (vp_nI (k := k) (N := 6) (by omega) (by decide)) ?_
    refine go_eqC (ls' := [vo 1 0 0, vi (nI (k + 1))]) (m' := pI m (1, 2, 0) k (-9)) (by rw [nI_succ]; rfl) ?_ rfl rfl (l_M_init83 h (k + 1) _ (H.sz hk2) hk2)
    show pI m (1, 2, 0) (nI k).toNatClampNeg (-9) = _
    rw [e0]
termination_by 6 - k
decreasing_by all_goals omega

def fkF (q : Nat) : Nat := match q with
  | 0 => 1
  | 1 => 5
  | 2 => 6
  | 3 => 7
  | 4 => 8
  | 5 => 9
  | 6 => 13
  | 7 => 14
  | 8 => 15
  | 9 => 23
  | 10 => 24
  | 11 => 25
  | 12 => 26
  | 13 => 31
  | 14 => 32
  | 15 => 33
  | 16 => 34
  | 17 => 35
  | _ => 36
theorem fkF_ne : ∀ j, j < 19 → ∀ q, q < j → fkF q ≠ fkF j := by decide +kernel
theorem fkF_all : ∀ k, k < 40 → (crM k).isSome = true → ∃ q, q < 19 ∧ fkF q = k ∧ crM k = some (1, q + 1, 0) := by decide +kernel
theorem crM_lt {k : Nat} (h : (crM k).isSome = true) : k < 40 := by
  unfold crM at h
  split at h
  all_goals first
    | omega
    | exact absurd h (by decide)
def AJ (m0 m : Mem) (j : Nat) : Prop := (∀ t i k, gR m (0, t, i) k = gR m0 (0, t, i) k) ∧ (∀ t i k, gI m (0, t, i) k = gI m0 (0, t, i) k) ∧ (∀ t i k, gI m (1, t, i) k = gI m0 (1, t, i) k) ∧ (∀ t i k, gL m (0, t, i) k = gL m0 (0, t, i) k) ∧ gL m (1, 0, 0) 3 = gL m0 (1, 0, 0) 3 ∧ gL m (1, 0, 0) 4 = 1 ∧ (∀ t, j < t → m.2.2.2 1 t = m0.2.2.2 1 t) ∧ ∀ q, q < j → gR m (1, 0, 0) (fkF q) = some (1, q + 1, 0)
theorem rdR1 (m : Mem) (t i k : Nat) (v : Option Id3) (t' i' k' : Nat) : gR (pR m (1, t, i) k v) (1, t', i') k' = if t' = t ∧ i' = i ∧ k' = k then v else gR m (1, t', i') k' := rfl
theorem rdR10 (m : Mem) (t i k : Nat) (v : Option Id3) (t' i' k' : Nat) : gR (pR m (1, t, i) k v) (0, t', i') k' = gR m (0, t', i') k' := rfl
theorem AJ.step {m0 m : Mem} {j i : Nat} (H : AJ m0 m j) (hj : j < 19) (hc : m0.2.2.2 1 (j + 1) = 0) (hi : i = m.2.2.2 1 (j + 1)) : AJ m0 (pR (al m 1 (j + 1) 1) (1, 0, 0) (fkF j) (some (1, j + 1, i))) (j + 1) := by
  obtain ⟨h1, h2, h3, h4, h5, h6, h7, h8⟩ := H
  refine ⟨fun t i k => by rw [rdR10, gR_al]; exact h1 t i k, fun t i k => by rw [gI_pR, gI_al]; exact h2 t i k, fun t i k => by rw [gI_pR, gI_al]; exact h3 t i k, fun t i k => by rw [gL_pR, gL_al]; exact h4 t i k, by rw [gL_pR, gL_al]; exact h5, by rw [gL_pR, gL_al]; exact h6, fun t ht => ?_, fun q hq => ?_⟩
  · show (if 1 = 1 ∧ t = j + 1 then m.2.2.2 1 t + 1 else m.2.2.2 1 t) = _
    rw [if_neg (by omega)]
    exact h7 t (by omega)
  · rw [rdR1]
    by_cases z : q = j
    · rw [z, if_pos ⟨rfl, rfl, rfl⟩, hi, h7 (j + 1) (by omega), hc]
    · rw [if_neg (fun y => fkF_ne j hj q (by omega) y.2.2), gR_al]
      exact h8 q (by omega)

theorem l_M_arr19 {d : Nat} {m0 : Mem} {K : Option Vv → Mem → Prop} (hc : ∀ t, t ≠ 0 → m0.2.2.2 1 t = 0) (h : ∀ m1 m', AJ m0 m1 19 → JI m1 6 4 3 m' → K none m') (m : Mem) (H : AJ m0 m 19) : Go (cW d) i_M_init (19, 3652) K 81 [vo 1 0 0, vu] [] m 19 3652 := by
  refine Go.run (callT_mono MT _) [83] 200 ?_
  exact l_M_init83 (fun m' J => h m m' H J) 0 m ⟨fun _ _ => rfl, fun _ _ => rfl, fun _ _ _ => rfl, fun _ _ _ _ _ _ => rfl, fun q hq => absurd hq (by omega), fun q hq => absurd hq (by omega), fun q hq => absurd hq (by omega), fun k hk => by
    obtain ⟨q, q1, q2, q3⟩ := fkF_all k (crM_lt hk) hk
    rw [q3, ← q2]
    exact H.2.2.2.2.2.2.2 q q1⟩ (by omega)

theorem l_M_arr18 {d : Nat} {m0 : Mem} {K : Option Vv → Mem → Prop} (hc : ∀ t, t ≠ 0 → m0.2.2.2 1 t = 0) (h : ∀ m1 m', AJ m0 m1 19 → JI m1 6 4 3 m' → K none m') (m : Mem) (H : AJ m0 m 18) : Go (cW d) i_M_init (19, 3652) K 77 [vo 1 0 0, vu] [] m 18 3396 := by
  refine Go.run (callT_mono MT _) [81] 200 ?_
  refine And.intro ⟨rfl, (show 19 ≤ 19 by decide), (show 3652 ≤ 3652 by decide)⟩ ?_
  exact go_eqC rfl rfl (show _ = 19 from rfl) (show _ = 3652 from rfl) (l_M_arr19 hc h _ (H.step (by omega) (hc _ (by omega)) rfl))

theorem l_M_arr17 {d : Nat} {m0 : Mem} {K : Option Vv → Mem → Prop} (hc : ∀ t, t ≠ 0 → m0.2.2.2 1 t = 0) (h : ∀ m1 m', AJ m0 m1 19 → JI m1 6 4 3 m' → K none m') (m : Mem) (H : AJ m0 m 17) : Go (cW d) i_M_init (19, 3652) K 73 [vo 1 0 0, vu] [] m 17 3332 := by
  refine Go.run (callT_mono MT _) [77] 200 ?_
  refine And.intro ⟨rfl, (show 18 ≤ 19 by decide), (show 3396 ≤ 3652 by decide)⟩ ?_
  exact go_eqC rfl rfl (show _ = 18 from rfl) (show _ = 3396 from rfl) (l_M_arr18 hc h _ (H.step (by omega) (hc _ (by omega)) rfl))

theorem l_M_arr16 {d : Nat} {m0 : Mem} {K : Option Vv → Mem → Prop} (hc : ∀ t, t ≠ 0 → m0.2.2.2 1 t = 0) (h : ∀ m1 m', AJ m0 m1 19 → JI m1 6 4 3 m' → K none m') (m : Mem) (H : AJ m0 m 16) : Go (cW d) i_M_init (19, 3652) K 69 [vo 1 0 0, vu] [] m 16 3076 := by
  refine Go.run (callT_mono MT _) [73] 200 ?_
  refine And.intro ⟨rfl, (show 17 ≤ 19 by decide), (show 3332 ≤ 3652 by decide)⟩ ?_
  exact go_eqC rfl rfl (show _ = 17 from rfl) (show _ = 3332 from rfl) (l_M_arr17 hc h _ (H.step (by omega) (hc _ (by omega)) rfl))

theorem l_M_arr15 {d : Nat} {m0 : Mem} {K : Option Vv → Mem → Prop} (hc : ∀ t, t ≠ 0 → m0.2.2.2 1 t = 0) (h : ∀ m1 m', AJ m0 m1 19 → JI m1 6 4 3 m' → K none m') (m : Mem) (H : AJ m0 m 15) : Go (cW d) i_M_init (19, 3652) K 65 [vo 1 0 0, vu] [] m 15 3068 := by
  refine Go.run (callT_mono MT _) [69] 200 ?_
  refine And.intro ⟨rfl, (show 16 ≤ 19 by decide), (show 3076 ≤ 3652 by decide)⟩ ?_
  exact go_eqC rfl rfl (show _ = 16 from rfl) (show _ = 3076 from rfl) (l_M_arr16 hc h _ (H.step (by omega) (hc _ (by omega)) rfl))

theorem l_M_arr14 {d : Nat} {m0 : Mem} {K : Option Vv → Mem → Prop} (hc : ∀ t, t ≠ 0 → m0.2.2.2 1 t = 0) (h : ∀ m1 m', AJ m0 m1 19 → JI m1 6 4 3 m' → K none m') (m : Mem) (H : AJ m0 m 14) : Go (cW d) i_M_init (19, 3652) K 61 [vo 1 0 0, vu] [] m 14 2908 := by
  refine Go.run (callT_mono MT _) [65] 200 ?_
  refine And.intro ⟨rfl, (show 15 ≤ 19 by decide), (show 3068 ≤ 3652 by decide)⟩ ?_
  exact go_eqC rfl rfl (show _ = 15 from rfl) (show _ = 3068 from rfl) (l_M_arr15 hc h _ (H.step (by omega) (hc _ (by omega)) rfl))

theorem l_M_arr13 {d : Nat} {m0 : Mem} {K : Option Vv → Mem → Prop} (hc : ∀ t, t ≠ 0 → m0.2.2.2 1 t = 0) (h : ∀ m1 m', AJ m0 m1 19 → JI m1 6 4 3 m' → K none m') (m : Mem) (H : AJ m0 m 13) : Go (cW d) i_M_init (19, 3652) K 57 [vo 1 0 0, vu] [] m 13 2900 := by
  refine Go.run (callT_mono MT _) [61] 200 ?_
  refine And.intro ⟨rfl, (show 14 ≤ 19 by decide), (show 2908 ≤ 3652 by decide)⟩ ?_
  exact go_eqC rfl rfl (show _ = 14 from rfl) (show _ = 2908 from rfl) (l_M_arr14 hc h _ (H.step (by omega) (hc _ (by omega)) rfl))

theorem l_M_arr12 {d : Nat} {m0 : Mem} {K : Option Vv → Mem → Prop} (hc : ∀ t, t ≠ 0 → m0.2.2.2 1 t = 0) (h : ∀ m1 m', AJ m0 m1 19 → JI m1 6 4 3 m' → K none m') (m : Mem) (H : AJ m0 m 12) : Go (cW d) i_M_init (19, 3652) K 53 [vo 1 0 0, vu] [] m 12 1160 := by
  refine Go.run (callT_mono MT _) [57] 200 ?_
  refine And.intro ⟨rfl, (show 13 ≤ 19 by decide), (show 2900 ≤ 3652 by decide)⟩ ?_
  exact go_eqC rfl rfl (show _ = 13 from rfl) (show _ = 2900 from rfl) (l_M_arr13 hc h _ (H.step (by omega) (hc _ (by omega)) rfl))

theorem l_M_arr11 {d : Nat} {m0 : Mem} {K : Option Vv → Mem → Prop} (hc : ∀ t, t ≠ 0 → m0.2.2.2 1 t = 0) (h : ∀ m1 m', AJ m0 m1 19 → JI m1 6 4 3 m' → K none m') (m : Mem) (H : AJ m0 m 11) : Go (cW d) i_M_init (19, 3652) K 49 [vo 1 0 0, vu] [] m 11 680 := by
  refine Go.run (callT_mono MT _) [53] 200 ?_
  refine And.intro ⟨rfl, (show 12 ≤ 19 by decide), (show 1160 ≤ 3652 by decide)⟩ ?_
  exact go_eqC rfl rfl (show _ = 12 from rfl) (show _ = 1160 from rfl) (l_M_arr12 hc h _ (H.step (by omega) (hc _ (by omega)) rfl))

theorem l_M_arr10 {d : Nat} {m0 : Mem} {K : Option Vv → Mem → Prop} (hc : ∀ t, t ≠ 0 → m0.2.2.2 1 t = 0) (h : ∀ m1 m', AJ m0 m1 19 → JI m1 6 4 3 m' → K none m') (m : Mem) (H : AJ m0 m 10) : Go (cW d) i_M_init (19, 3652) K 45 [vo 1 0 0, vu] [] m 10 672 := by
  refine Go.run (callT_mono MT _) [49] 200 ?_
  refine And.intro ⟨rfl, (show 11 ≤ 19 by decide), (show 680 ≤ 3652 by decide)⟩ ?_
  exact go_eqC rfl rfl (show _ = 11 from rfl) (show _ = 680 from rfl) (l_M_arr11 hc h _ (H.step (by omega) (hc _ (by omega)) rfl))

theorem l_M_arr9 {d : Nat} {m0 : Mem} {K : Option Vv → Mem → Prop} (hc : ∀ t, t ≠ 0 → m0.2.2.2 1 t = 0) (h : ∀ m1 m', AJ m0 m1 19 → JI m1 6 4 3 m' → K none m') (m : Mem) (H : AJ m0 m 9) : Go (cW d) i_M_init (19, 3652) K 41 [vo 1 0 0, vu] [] m 9 664 := by
  refine Go.run (callT_mono MT _) [45] 200 ?_
  refine And.intro ⟨rfl, (show 10 ≤ 19 by decide), (show 672 ≤ 3652 by decide)⟩ ?_
  exact go_eqC rfl rfl (show _ = 10 from rfl) (show _ = 672 from rfl) (l_M_arr10 hc h _ (H.step (by omega) (hc _ (by omega)) rfl))

theorem l_M_arr8 {d : Nat} {m0 : Mem} {K : Option Vv → Mem → Prop} (hc : ∀ t, t ≠ 0 → m0.2.2.2 1 t = 0) (h : ∀ m1 m', AJ m0 m1 19 → JI m1 6 4 3 m' → K none m') (m : Mem) (H : AJ m0 m 8) : Go (cW d) i_M_init (19, 3652) K 37 [vo 1 0 0, vu] [] m 8 648 := by
  refine Go.run (callT_mono MT _) [41] 200 ?_
  refine And.intro ⟨rfl, (show 9 ≤ 19 by decide), (show 664 ≤ 3652 by decide)⟩ ?_
  exact go_eqC rfl rfl (show _ = 9 from rfl) (show _ = 664 from rfl) (l_M_arr9 hc h _ (H.step (by omega) (hc _ (by omega)) rfl))

theorem l_M_arr7 {d : Nat} {m0 : Mem} {K : Option Vv → Mem → Prop} (hc : ∀ t, t ≠ 0 → m0.2.2.2 1 t = 0) (h : ∀ m1 m', AJ m0 m1 19 → JI m1 6 4 3 m' → K none m') (m : Mem) (H : AJ m0 m 7) : Go (cW d) i_M_init (19, 3652) K 33 [vo 1 0 0, vu] [] m 7 632 := by
  refine Go.run (callT_mono MT _) [37] 200 ?_
  refine And.intro ⟨rfl, (show 8 ≤ 19 by decide), (show 648 ≤ 3652 by decide)⟩ ?_
  exact go_eqC rfl rfl (show _ = 8 from rfl) (show _ = 648 from rfl) (l_M_arr8 hc h _ (H.step (by omega) (hc _ (by omega)) rfl))

theorem l_M_arr6 {d : Nat} {m0 : Mem} {K : Option Vv → Mem → Prop} (hc : ∀ t, t ≠ 0 → m0.2.2.2 1 t = 0) (h : ∀ m1 m', AJ m0 m1 19 → JI m1 6 4 3 m' → K none m') (m : Mem) (H : AJ m0 m 6) : Go (cW d) i_M_init (19, 3652) K 29 [vo 1 0 0, vu] [] m 6 616 := by
  refine Go.run (callT_mono MT _) [33] 200 ?_
  refine And.intro ⟨rfl, (show 7 ≤ 19 by decide), (show 632 ≤ 3652 by decide)⟩ ?_
  exact go_eqC rfl rfl (show _ = 7 from rfl) (show _ = 632 from rfl) (l_M_arr7 hc h _ (H.step (by omega) (hc _ (by omega)) rfl))

theorem l_M_arr5 {d : Nat} {m0 : Mem} {K : Option Vv → Mem → Prop} (hc : ∀ t, t ≠ 0 → m0.2.2.2 1 t = 0) (h : ∀ m1 m', AJ m0 m1 19 → JI m1 6 4 3 m' → K none m') (m : Mem) (H : AJ m0 m 5) : Go (cW d) i_M_init (19, 3652) K 25 [vo 1 0 0, vu] [] m 5 296 := by
  refine Go.run (callT_mono MT _) [29] 200 ?_
  refine And.intro ⟨rfl, (show 6 ≤ 19 by decide), (show 616 ≤ 3652 by decide)⟩ ?_
  exact go_eqC rfl rfl (show _ = 6 from rfl) (show _ = 616 from rfl) (l_M_arr6 hc h _ (H.step (by omega) (hc _ (by omega)) rfl))

theorem l_M_arr4 {d : Nat} {m0 : Mem} {K : Option Vv → Mem → Prop} (hc : ∀ t, t ≠ 0 → m0.2.2.2 1 t = 0) (h : ∀ m1 m', AJ m0 m1 19 → JI m1 6 4 3 m' → K none m') (m : Mem) (H : AJ m0 m 4) : Go (cW d) i_M_init (19, 3652) K 21 [vo 1 0 0, vu] [] m 4 292 := by
  refine Go.run (callT_mono MT _) [25] 200 ?_
  refine And.intro ⟨rfl, (show 5 ≤ 19 by decide), (show 296 ≤ 3652 by decide)⟩ ?_
  exact go_eqC rfl rfl (show _ = 5 from rfl) (show _ = 296 from rfl) (l_M_arr5 hc h _ (H.step (by omega) (hc _ (by omega)) rfl))

theorem l_M_arr3 {d : Nat} {m0 : Mem} {K : Option Vv → Mem → Prop} (hc : ∀ t, t ≠ 0 → m0.2.2.2 1 t = 0) (h : ∀ m1 m', AJ m0 m1 19 → JI m1 6 4 3 m' → K none m') (m : Mem) (H : AJ m0 m 3) : Go (cW d) i_M_init (19, 3652) K 17 [vo 1 0 0, vu] [] m 3 252 := by
  refine Go.run (callT_mono MT _) [21] 200 ?_
  refine And.intro ⟨rfl, (show 4 ≤ 19 by decide), (show 292 ≤ 3652 by decide)⟩ ?_
  exact go_eqC rfl rfl (show _ = 4 from rfl) (show _ = 292 from rfl) (l_M_arr4 hc h _ (H.step (by omega) (hc _ (by omega)) rfl))

theorem l_M_arr2 {d : Nat} {m0 : Mem} {K : Option Vv → Mem → Prop} (hc : ∀ t, t ≠ 0 → m0.2.2.2 1 t = 0) (h : ∀ m1 m', AJ m0 m1 19 → JI m1 6 4 3 m' → K none m') (m : Mem) (H : AJ m0 m 2) : Go (cW d) i_M_init (19, 3652) K 13 [vo 1 0 0, vu] [] m 2 12 := by
  refine Go.run (callT_mono MT _) [17] 200 ?_
  refine And.intro ⟨rfl, (show 3 ≤ 19 by decide), (show 252 ≤ 3652 by decide)⟩ ?_
  exact go_eqC rfl rfl (show _ = 3 from rfl) (show _ = 252 from rfl) (l_M_arr3 hc h _ (H.step (by omega) (hc _ (by omega)) rfl))

theorem l_M_arr1 {d : Nat} {m0 : Mem} {K : Option Vv → Mem → Prop} (hc : ∀ t, t ≠ 0 → m0.2.2.2 1 t = 0) (h : ∀ m1 m', AJ m0 m1 19 → JI m1 6 4 3 m' → K none m') (m : Mem) (H : AJ m0 m 1) : Go (cW d) i_M_init (19, 3652) K 9 [vo 1 0 0, vu] [] m 1 6 := by
  refine Go.run (callT_mono MT _) [13] 200 ?_
  refine And.intro ⟨rfl, (show 2 ≤ 19 by decide), (show 12 ≤ 3652 by decide)⟩ ?_
  exact go_eqC rfl rfl (show _ = 2 from rfl) (show _ = 12 from rfl) (l_M_arr2 hc h _ (H.step (by omega) (hc _ (by omega)) rfl))

theorem m_M_init {d x : Nat} {m : Mem} {K : Option Vv → Mem → Prop} (hx : x = 0) (hc : ∀ t, t ≠ 0 → m.2.2.2 1 t = 0) (h : ∀ m1 m', AJ m m1 19 → JI m1 6 4 3 m' → K none m') : cW (d + 1) n_M_init [vo 1 0 x] m K := by
  subst hx
  refine w_M_init (Go.run (callT_mono MT _) [9] 200 ?_)
  refine And.intro ⟨rfl, (show 1 ≤ 19 by decide), (show 6 ≤ 3652 by decide)⟩ ?_
  refine go_eqC (m' := pL (pR (al m 1 1 1) (1, 0, 0) 1 (some (1, 1, 0))) (1, 0, 0) 4 1) rfl ?_ (show _ = 1 from rfl) (show _ = 6 from rfl) (l_M_arr1 hc h _ ⟨fun t i k => ?_, fun t i k => ?_, fun t i k => ?_, fun t i k => ?_, ?_, ?_, fun t ht => ?_, fun q hq => ?_⟩)
  · show pL (pR (al m 1 1 1) (1, 0, 0) 1 (some (1, 1, m.2.2.2 1 1))) (1, 0, 0) 4 1 = _
    rw [hc 1 (by decide)]
  · rw [gR_pL, rdR10, gR_al]
  · rw [gI_pL, gI_pR, gI_al]
  · rw [gI_pL, gI_pR, gI_al]
  · rfl
  · rfl
  · rfl
  · show (if 1 = 1 ∧ t = 1 then m.2.2.2 1 t + 1 else m.2.2.2 1 t) = _
    rw [if_neg (by omega)]
  · obtain rfl : q = 0 := by omega
    rw [gR_pL]
    rfl

/-- both sides alike at first -/
theorem RelAB.init {m m1 m' : Mem} (X : XI 6 4 3 m) (A : AJ (al m 1 0 1) m1 19) (J : JI m1 6 4 3 m') : RelAB m' := by
  obtain ⟨a1, a2, a3, a4, a5, a6, -, -⟩ := A
  obtain ⟨h1, h2, h3, h4, h5, h6, h7, h8, h9, hA, hB, hC, -⟩ := X
  obtain ⟨j1, j2, j3, j4, j5, j6, j7, j8⟩ := J
  have r : ∀ t i k, gR m' (0, t, i) k = gR m (0, t, i) k := fun t i k => by rw [j1, a1, gR_al]
  have i0 : ∀ t i k, gI m' (0, t, i) k = gI m (0, t, i) k := fun t i k => by rw [j3, a2, gI_al]
  have z0 : ∀ t i k, t ≠ 1 → t ≠ 14 → gI m' (0, t, i) k = 0 := fun t i k q1 q2 => (i0 t i k).trans (h8 t i k q1 q2)
  have z1 : ∀ t i k, t ≠ 2 → t ≠ 5 → t ≠ 13 → gI m' (1, t, i) k = 0 := fun t i k q1 q2 q3 => by rw [j4 t i k q1 q2 q3, a3, gI_al]; exact h9 t i k
  have k8 : ∀ i, i < 32 → gR m' (0, 8, i) 0 = some (0, 20, 0) := fun i hi => by
    rw [r]
    have q := (h3 (i / 8) (by omega)).2.2.2.2.1 (i % 8) (by omega)
    rw [show 8 * (i / 8) + i % 8 = i by omega] at q
    exact q.2
  have kz : ∀ i, i < 32 → kn m' i = 0 := fun i hi => by unfold kn; rw [k8 i hi]
  have L0 : gL m' (0, 18, 0) 0 = 0 := by rw [j2, a4, gL_al]; exact hA
  have L1 : gL m' (0, 18, 0) 1 = 1 := by rw [j2, a4, gL_al]; exact hB
  have L3 : gL m' (1, 0, 0) 3 = 0 := by rw [j2, a5, gL_al]; exact hC
  have L4 : gL m' (1, 0, 0) 4 = 1 := by rw [j2, a6]
  refine ⟨⟨fun o k ho => ?_, fun i hi => by rw [kz i hi]; decide⟩, fun c hc => Or.inl ⟨(i0 1 c 1).trans (h7 c (by omega)).2, j5 c hc⟩, fun c hc => Or.inl ⟨(i0 1 (6 + c) 1).trans (h7 (6 + c) (by omega)).2, j6 c hc⟩, ⟨?_, ?_, fun f q1 q2 => ?_, L0.trans L3.symm, L1.trans L4.symm, z0 _ _ _ (by decide) (by decide), z0 _ _ _ (by decide) (by decide)⟩, 0, by omega, z1 0 0 10 (by decide) (by decide) (by decide), fun _ => ⟨z0 _ _ _ (by decide) (by decide), z0 _ _ _ (by decide) (by decide), z1 0 0 20 (by decide) (by decide) (by decide), z0 _ _ _ (by decide) (by decide), z1 0 0 21 (by decide) (by decide) (by decide), z0 _ _ _ (by decide) (by decide), z1 0 0 22 (by decide) (by decide) (by decide), z1 0 0 11 (by decide) (by decide) (by decide), z1 0 0 12 (by decide) (by decide) (by decide), fun k hk => ⟨z0 _ _ _ (by decide) (by decide), j7 k hk⟩⟩, fun z => absurd z (by omega)⟩
  · obtain ⟨s, t, i⟩ := o
    match s, ho with
    | 0, ho =>
      rw [r]
      match t, ho with
      | 0, ho => obtain ⟨rfl, hk⟩ := ho; exact h1 k hk
      | 1, ho => obtain ⟨hi, rfl⟩ := ho; exact (h7 i hi).1
      | 3, ho => obtain ⟨rfl, hk⟩ := ho; exact h4 k hk
      | 4, ho => obtain ⟨rfl, hk⟩ := ho; exact h5 k hk
      | 5, ho =>
        obtain ⟨hi, hk⟩ := ho
        have q := h3 i (by omega)
        match k, hk with
        | 0, _ => exact q.1
        | 1, _ => exact q.2.1
        | 2, _ => exact q.2.2.1
      | 6, ho => obtain ⟨rfl, hk⟩ := ho; exact h6 k hk
      | 7, ho => obtain ⟨hi, hk⟩ := ho; exact ((h3 i (by omega)).2.2.2.2.1 k hk).1
      | 8, ho =>
        obtain ⟨hi, rfl⟩ := ho
        rw [← r, k8 i hi]
        show some (0, 20, 0) = some (0, 20, kn m' i)
        rw [kz i hi]
      | 9, ho => obtain ⟨hi, hk⟩ := ho; exact ((h3 i (by omega)).2.2.2.2.2 k hk).1
      | 10, ho =>
        obtain ⟨hi, rfl⟩ := ho
        have q := (h3 (i / 40) (by omega)).2.2.2.2.2 (i % 40) (by omega)
        rw [show 40 * (i / 40) + i % 40 = i by omega] at q
        exact q.2
      | 12, ho => obtain ⟨hi, hk⟩ := ho; exact (h3 i (by omega)).2.2.2.1 k hk
      | 14, ho => obtain ⟨rfl, hk⟩ := ho; exact h2 k hk
    | 1, ho =>
      obtain ⟨q1, q2, q3⟩ := ho
      subst q1; subst q2
      rw [j1]
      exact j8 k q3
  · rw [z0 _ _ _ (by decide) (by decide), z1 _ _ _ (by decide) (by decide) (by decide)]
  · rw [z0 _ _ _ (by decide) (by decide), z1 _ _ _ (by decide) (by decide) (by decide)]
  · rw [z0 _ _ _ (by decide) (by decide), z1 _ _ _ (by decide) (by decide) (by decide)]
