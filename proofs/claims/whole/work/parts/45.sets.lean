/-! Written by a program (wip/whole/p45.py): SETS: sums of all sets. -/
theorem pI_sI0 (m : Mem) (t i k : Nat) (v : Int32) (f : Nat → Int32) : pI (sI m (0, t, i) f) (0, t, i) k v = sI m (0, t, i) (fun j => if j = k then v else f j) := by
  refine Prod.ext (Prod.ext ?_ rfl) rfl
  funext t' i' k'
  show (if t' = t ∧ i' = i ∧ k' = k then v else if t' = t ∧ i' = i then f k' else m.1.1 t' i' k') = if t' = t ∧ i' = i then (if k' = k then v else f k') else m.1.1 t' i' k'
  grind
theorem pI_sI1 (m : Mem) (t i k : Nat) (v : Int32) (f : Nat → Int32) : pI (sI m (1, t, i) f) (1, t, i) k v = sI m (1, t, i) (fun j => if j = k then v else f j) := by
  refine Prod.ext rfl (Prod.ext (Prod.ext ?_ rfl) rfl)
  funext t' i' k'
  show (if t' = t ∧ i' = i ∧ k' = k then v else if t' = t ∧ i' = i then f k' else m.2.1.1 t' i' k') = if t' = t ∧ i' = i then (if k' = k then v else f k') else m.2.1.1 t' i' k'
  grind
theorem Fr.s0 {a m : Mem} (h : Fr a m) {t i : Nat} {f : Nat → Int32} (ht : t = 14 ∨ t = 17 ∨ ((t = 15 ∨ t = 16) ∧ f 0 = gI m (0, t, i) 0)) : Fr a (sI m (0, t, i) f) :=
  h.trans ⟨h.1.wI, fun _ _ => gR_sI .., fun _ => gL_sI .., fun _ _ => gL_sI .., fun t' i' k' q => by
    rw [sI00]
    split
    · rename_i z
      obtain ⟨rfl, rfl⟩ := z
      rcases ht with y | y | y
      · omega
      · omega
      · obtain rfl : k' = 0 := by omega
        exact y.2
    · rfl, fun _ _ => rfl, fun _ _ _ _ _ => rfl⟩
theorem Fr.s1 {a m : Mem} (h : Fr a m) {t i : Nat} {f : Nat → Int32} (ht : t = 4 ∨ (14 ≤ t ∧ t ≠ 18)) : Fr a (sI m (1, t, i) f) :=
  h.trans ⟨h.1.wI, fun _ _ => gR_sI .., fun _ => gL_sI .., fun _ _ => gL_sI .., fun t' i' k' q => rfl, fun k' q => by rw [sI11, if_neg (by omega)], fun t' k' q1 q2 q3 => by rw [sI11, if_neg (by omega)]⟩
theorem two_e : ∀ i, i < 9 → (1 : Int32) <<< (nI i &&& 31) = nI (2 ^ i) := by decide +kernel
theorem two_l : ∀ i, i < 9 → 2 ^ i ≤ 256 := by decide
theorem two_p (i : Nat) : 0 < 2 ^ i := Nat.two_pow_pos i
def adF (f : Nat → Int32) (i k : Nat) (v : Int32) (j : Nat) : Int32 := if 2 ^ i ≤ j ∧ j < 2 ^ i + k then f (j - 2 ^ i) + v else f j
theorem adF0 (f : Nat → Int32) (i : Nat) (v : Int32) : adF f i 0 v = f := funext fun j => by unfold adF; rw [if_neg (by omega)]
theorem adFz (f : Nat → Int32) (i k : Nat) (v : Int32) : adF f i k v 0 = f 0 := by unfold adF; rw [if_neg (by have := two_p i; omega)]
theorem adFs (f : Nat → Int32) (i k : Nat) (v : Int32) (hk : k < 2 ^ i) : (fun j => if j = 2 ^ i + k then adF f i k v k + v else adF f i k v j) = adF f i (k + 1) v := funext fun j => by
  unfold adF
  by_cases q : j = 2 ^ i + k
  · rw [if_pos q, if_neg (by omega : ¬ (2 ^ i ≤ k ∧ k < 2 ^ i + k)), if_pos (by omega : 2 ^ i ≤ j ∧ j < 2 ^ i + (k + 1)), show j - 2 ^ i = k by omega]
  · rw [if_neg q]
    by_cases z : 2 ^ i ≤ j ∧ j < 2 ^ i + k
    · rw [if_pos z, if_pos (by omega)]
    · rw [if_neg z, if_neg (by omega)]

theorem l_Se_addHouse15 {d : Nat} {K : Option Vv → Mem → Prop} {m : Mem} {i : Nat} {v : Int32} (hR0 : OKR m) (hi : i < 8) (h : K none (sI m (0, 15, 0) (adF (gI m (0, 15, 0)) i (2 ^ i) v))) (k : Nat) (hk : k ≤ 2 ^ i) : Go (cW (d + 0)) i_Se_addHouse (0, 0) K 6 [vo 0 15 0, vi (nI i), vi v, vi (nI (2 ^ i)), vi (nI k)] [] (sI m (0, 15, 0) (adF (gI m (0, 15, 0)) i k v)) 0 0 := by
  have hR : OKR (sI m (0, 15, 0) (adF (gI m (0, 15, 0)) i k v)) := hR0.wI
  have b2 := Nat.pow_le_pow_right (n := 2) (by decide) (show i ≤ 7 by omega)
  have b3 := two_p i
  refine Go.runR (callT_mono MT _) [6] 200 hR ?_
  refine And.intro (fun c8 => ?_) (fun c8 => ?_)
  · try dsimp only at c8
    have hk2 := lq_e c8 rfl rfl hk (by omega)
    rw [hk2]
    refine And.intro trivial ?_
    exact h
  · try dsimp only at c8
    have hk2 := lq_m c8 rfl rfl hk (by omega)
    refine And.intro (fun c14 => ?_) (fun c14 => ?_)
    · exact absurd c14 (by show ¬ nI 256 ≤ nI (2 ^ i) + nI k; rw [nI_add]; exact nI_ge (by omega) (by decide))
    · try dsimp only at c14
      refine And.intro (vp_nI (k := k) (N := 256) (by omega) (by decide)) ?_
      refine And.intro (by show vp_in (nI (2 ^ i) + nI k) 256; rw [nI_add]; exact vp_nI (N := 256) (by omega) (by decide)) ?_
      refine go_eq (ls' := [vo 0 15 0, vi (nI i), vi v, vi (nI (2 ^ i)), vi (nI (k + 1))]) (by rw [nI_succ]; rfl) (by
      have e3 : (nI k).toNatClampNeg = k := nI_clamp (by omega)
      have e4 : (nI (2 ^ i) + nI k).toNatClampNeg = 2 ^ i + k := by rw [nI_add, nI_clamp (by omega)]
      show pI (sI m (0, 15, 0) (adF (gI m (0, 15, 0)) i k v)) (0, 15, 0) (nI (2 ^ i) + nI k).toNatClampNeg (gI (sI m (0, 15, 0) (adF (gI m (0, 15, 0)) i k v)) (0, 15, 0) (nI k).toNatClampNeg + v) = _
      rw [e4, e3, pI_sI0, sI00, if_pos ⟨rfl, rfl⟩, adFs _ _ _ _ hk2]) (l_Se_addHouse15 hR0 hi h (k + 1) hk2)
termination_by 2 ^ i - k
decreasing_by all_goals omega

theorem m_Se_addHouse15 {d : Nat} {m : Mem} {K : Option Vv → Mem → Prop} (hR : OKR m) {i : Nat} {u v : Int32} (hu : u = nI i) (hi : i < 8) (h : K none (sI m (0, 15, 0) (adF (gI m (0, 15, 0)) i (2 ^ i) v))) : cW (d + 1) n_Se_addHouse [vo 0 15 0, vi u, vi v] m K := by
  subst hu
  refine w_Se_addHouse (Go.runR (callT_mono MT _) [6] 200 hR ?_)
  refine go_eq (ls' := [vo 0 15 0, vi (nI i), vi v, vi (nI (2 ^ i)), vi (nI 0)]) (by rw [← two_e i (by omega)]; rfl) ?_ (l_Se_addHouse15 hR hi h 0 (Nat.zero_le _))
  rw [adF0, sI_self0]
  intro j; rfl

theorem l_Se_addHouse16 {d : Nat} {K : Option Vv → Mem → Prop} {m : Mem} {i : Nat} {v : Int32} (hR0 : OKR m) (hi : i < 8) (h : K none (sI m (0, 16, 0) (adF (gI m (0, 16, 0)) i (2 ^ i) v))) (k : Nat) (hk : k ≤ 2 ^ i) : Go (cW (d + 0)) i_Se_addHouse (0, 0) K 6 [vo 0 16 0, vi (nI i), vi v, vi (nI (2 ^ i)), vi (nI k)] [] (sI m (0, 16, 0) (adF (gI m (0, 16, 0)) i k v)) 0 0 := by
  have hR : OKR (sI m (0, 16, 0) (adF (gI m (0, 16, 0)) i k v)) := hR0.wI
  have b2 := Nat.pow_le_pow_right (n := 2) (by decide) (show i ≤ 7 by omega)
  have b3 := two_p i
  refine Go.runR (callT_mono MT _) [6] 200 hR ?_
  refine And.intro (fun c8 => ?_) (fun c8 => ?_)
  · try dsimp only at c8
    have hk2 := lq_e c8 rfl rfl hk (by omega)
    rw [hk2]
    refine And.intro trivial ?_
    exact h
  · try dsimp only at c8
    have hk2 := lq_m c8 rfl rfl hk (by omega)
    refine And.intro (fun c14 => ?_) (fun c14 => ?_)
    · exact absurd c14 (by show ¬ nI 256 ≤ nI (2 ^ i) + nI k; rw [nI_add]; exact nI_ge (by omega) (by decide))
    · try dsimp only at c14
      refine And.intro (vp_nI (k := k) (N := 256) (by omega) (by decide)) ?_
      refine And.intro (by show vp_in (nI (2 ^ i) + nI k) 256; rw [nI_add]; exact vp_nI (N := 256) (by omega) (by decide)) ?_
      refine go_eq (ls' := [vo 0 16 0, vi (nI i), vi v, vi (nI (2 ^ i)), vi (nI (k + 1))]) (by rw [nI_succ]; rfl) (by
      have e3 : (nI k).toNatClampNeg = k := nI_clamp (by omega)
      have e4 : (nI (2 ^ i) + nI k).toNatClampNeg = 2 ^ i + k := by rw [nI_add, nI_clamp (by omega)]
      show pI (sI m (0, 16, 0) (adF (gI m (0, 16, 0)) i k v)) (0, 16, 0) (nI (2 ^ i) + nI k).toNatClampNeg (gI (sI m (0, 16, 0) (adF (gI m (0, 16, 0)) i k v)) (0, 16, 0) (nI k).toNatClampNeg + v) = _
      rw [e4, e3, pI_sI0, sI00, if_pos ⟨rfl, rfl⟩, adFs _ _ _ _ hk2]) (l_Se_addHouse16 hR0 hi h (k + 1) hk2)
termination_by 2 ^ i - k
decreasing_by all_goals omega

theorem m_Se_addHouse16 {d : Nat} {m : Mem} {K : Option Vv → Mem → Prop} (hR : OKR m) {i : Nat} {u v : Int32} (hu : u = nI i) (hi : i < 8) (h : K none (sI m (0, 16, 0) (adF (gI m (0, 16, 0)) i (2 ^ i) v))) : cW (d + 1) n_Se_addHouse [vo 0 16 0, vi u, vi v] m K := by
  subst hu
  refine w_Se_addHouse (Go.runR (callT_mono MT _) [6] 200 hR ?_)
  refine go_eq (ls' := [vo 0 16 0, vi (nI i), vi v, vi (nI (2 ^ i)), vi (nI 0)]) (by rw [← two_e i (by omega)]; rfl) ?_ (l_Se_addHouse16 hR hi h 0 (Nat.zero_le _))
  rw [adF0, sI_self0]
  intro j; rfl

/-- what a look at the street leaves -/
def SeR (n : Nat) (D : SDt) (m : Mem) : Prop := SC n D m ∧ gI m (0, 14, 0) 3 = nI (2 ^ n) ∧ gI m (0, 14, 0) 4 = nI n ∧ gI m (0, 14, 0) 5 = mu n D ∧ (∀ s, s < 2 ^ n → gI m (0, 15, 0) s = nI (rs n D s)) ∧ gI m (0, 16, 0) 0 = 0
theorem rs_lo {D : SDt} : ∀ {k s : Nat}, s < 2 ^ k → rs (k + 1) D s = rs k D s := fun {k s} h => by
  unfold rs
  rw [itS, if_neg (by rw [Nat.testBit_lt_two_pow h]; decide)]
  rfl
theorem rs_ge {D : SDt} {s : Nat} : ∀ {k j : Nat}, k ≤ j → s < 2 ^ k → rs j D s = rs k D s
  | k, j, h, hs => by
    rcases Nat.lt_or_ge k j with q | q
    · obtain ⟨i, rfl⟩ : ∃ i, j = i + 1 := ⟨j - 1, by omega⟩
      rw [rs_lo (Nat.lt_of_lt_of_le hs (Nat.pow_le_pow_right (by decide) (by omega)))]
      exact rs_ge (by omega) hs
    · rw [show j = k by omega]
theorem rs_cg {D : SDt} {s t : Nat} : ∀ {k : Nat}, (∀ i, i < k → s.testBit i = t.testBit i) → rs k D s = rs k D t
  | 0, _ => rfl
  | k + 1, h => by
    have := rs_cg (D := D) (k := k) fun i hi => h i (by omega)
    unfold rs at *
    rw [itS, itS, this, h k (by omega)]
theorem tb_add {i s : Nat} (hs : s < 2 ^ i) : (∀ j, j < i → (2 ^ i + s).testBit j = s.testBit j) ∧ (2 ^ i + s).testBit i = true := by
  refine ⟨fun j hj => ?_, ?_⟩
  · rw [Nat.testBit_two_pow_add_gt hj]
  · rw [Nat.testBit_two_pow_add_eq, Nat.testBit_lt_two_pow hs]; rfl
theorem rs_hi {D : SDt} {k s : Nat} (h : s < 2 ^ k) : rs (k + 1) D (2 ^ k + s) = rs k D s + rp D k := by
  have e := rs_cg (D := D) (k := k) (s := 2 ^ k + s) (t := s) (tb_add h).1
  unfold rs at *
  rw [itS, e, if_pos (tb_add h).2]
def LkI (n k : Nat) (D : SDt) (m0 m : Mem) : Prop := Fr m0 m ∧ gI m (0, 14, 0) 3 = nI (2 ^ n) ∧ gI m (0, 14, 0) 4 = nI n ∧ gI m (0, 14, 0) 5 = mu k D ∧ (∀ s, s < 2 ^ k → gI m (0, 15, 0) s = nI (rs k D s)) ∧ gI m (0, 16, 0) 0 = 0
theorem LkI.step {n k : Nat} {D : SDt} {m0 m : Mem} (H : LkI n k D m0 m) {v : Int32} (hv : v = mu (k + 1) D) : LkI n (k + 1) D m0 (pI (sI m (0, 15, 0) (adF (gI m (0, 15, 0)) k (2 ^ k) (nI (rp D k)))) (0, 14, 0) 5 v) := by
  obtain ⟨a, b, c, e, f, g⟩ := H
  refine ⟨(a.s0 (Or.inr (Or.inr ⟨Or.inl rfl, adFz _ _ _ _⟩))).p0 (by omega), b, c, hv, fun s hs => ?_, g⟩
  have hq : gI (pI (sI m (0, 15, 0) (adF (gI m (0, 15, 0)) k (2 ^ k) (nI (rp D k)))) (0, 14, 0) 5 v) (0, 15, 0) s = adF (gI m (0, 15, 0)) k (2 ^ k) (nI (rp D k)) s := rfl
  rw [hq]
  unfold adF
  rw [Nat.pow_succ] at hs
  split
  · rename_i z
    rw [f (s - 2 ^ k) (by omega), nI_add]
    have := rs_hi (D := D) (k := k) (s := s - 2 ^ k) (by omega)
    rw [show 2 ^ k + (s - 2 ^ k) = s by omega] at this
    rw [this]
  · rw [f s (by omega), rs_lo (by omega)]

theorem m_Ho_isMute {d n : Nat} {D : SDt} {m : Mem} {K : Option Vv → Mem → Prop} (hS : SC n D m) {x i : Nat} (hx : x = i) (hi : i < n) (h : K (some (vi (if dK D i = 4 then 1 else 0))) m) : cW (d + 1) n_Ho_isMute [vo 0 8 x] m K := by
  have hR := hS.ok
  have h8 := hS.le
  have q1 := hS.nA
  have q2 := hS.nB
  subst hx
  have hh := hS.hs hi
  have k6 := hh.2.1
  have kk := hh.1
  have g : ((0, 20, kn m x) : Id3) = (0, 20, 4) ↔ dK D x = 4 := by rw [kk]; simp
  refine w_Ho_isMute (Go.runR (callT_mono MT _) [] 200 hR ?_)
  refine And.intro ⟨(by first | decide | assumption | omega), (by first | decide | assumption | omega)⟩ ?_
  refine And.intro (fun c3 => ?_) (fun c3 => ?_)
  · try dsimp only at c3
    refine And.intro (by first | exact Or.inl rfl | exact Or.inr rfl | grind) ?_
    exact kvi (by grind) h
  · try dsimp only at c3
    refine And.intro (by first | exact Or.inl rfl | exact Or.inr rfl | grind) ?_
    exact kvi (by grind) h

theorem l_Se_lookAt {d n : Nat} {D : SDt} {m0 : Mem} {K : Option Vv → Mem → Prop} (hS0 : SC n D m0) (h : ∀ m, LkI n n D m0 m → K none m) (k : Nat) (m : Mem) (H : LkI n k D m0 m) (hk : k ≤ n) : Go (cW (d + 3)) i_Se_lookAt (0, 0) K 15 [vo 0 14 0, vo 0 5 0, vi (nI k)] [] m 0 0 := by
  have a := H.1
  have hS := a.sc hS0
  have hR := hS.ok
  have h8 := hS.le
  have q1 : gI m (0, 14, 0) 4 = nI n := H.2.2.1
  have e0 : (nI k).toNatClampNeg = k := nI_clamp (by omega)
  refine Go.runR (callT_mono MT _) [15] 200 hR ?_
  refine And.intro (fun c18 => ?_) (fun c18 => ?_)
  · try dsimp only at c18
    obtain rfl := lq_e c18 q1 rfl hk (by omega)
    refine And.intro trivial ?_
    exact h _ H
  · try dsimp only at c18
    have hk2 := lq_m c18 q1 rfl hk (by omega)
    refine And.intro ⟨(by first | decide | assumption | omega), (by first | decide | assumption | omega)⟩ ?_
    refine m_St_ripple (by exact hS) rfl hk2 (And.intro (by repeat' (first | exact hR | apply OKR.pI | apply OKR.pL | apply OKR.cpI | apply OKR.wI)) ?_)
    refine m_Se_addHouse15 (by repeat' (first | exact hR | apply OKR.pI | apply OKR.pL | apply OKR.cpI | apply OKR.wI)) rfl (by omega) (And.intro (by repeat' (first | exact hR | apply OKR.wI | apply OKR.pI)) ?_)
    refine And.intro ⟨(by first | decide | assumption | omega), (by first | decide | assumption | omega)⟩ ?_
    refine And.intro ⟨(vp_nI (k := k) (N := 8) (by omega) (by decide)), ⟨(by decide), by rw [e0]; omega⟩⟩ ?_
    refine m_Ho_isMute (n := n) (D := D) (by exact ((Fr.refl hR).s0 (Or.inr (Or.inr ⟨Or.inl rfl, adFz _ _ _ _⟩))).sc hS) (i := k) (by rw [e0]; omega) hk2 (And.intro (by repeat' (first | exact hR | apply OKR.wI | apply OKR.pI)) ?_)
    refine And.intro (fun c34 => ?_) (fun c34 => ?_)
    · try dsimp only at c34
      refine go_eq (ls' := [vo 0 14 0, vo 0 5 0, vi (nI (k + 1))]) (by rw [nI_succ]; rfl) rfl (l_Se_lookAt hS0 h (k + 1) _ (H.step ?_) hk2)
      show gI m (0, 14, 0) 5 ||| _ = _
      rw [H.2.2.2.1]
      unfold mu
      rw [itS]
      grind
    · try dsimp only at c34
      refine go_eq (ls' := [vo 0 14 0, vo 0 5 0, vi (nI (k + 1))]) (by rw [nI_succ]; rfl) rfl (l_Se_lookAt hS0 h (k + 1) _ (H.step ?_) hk2)
      show gI m (0, 14, 0) 5 ||| _ = _
      rw [H.2.2.2.1]
      unfold mu
      rw [itS]
      grind
termination_by n - k
decreasing_by all_goals omega

theorem m_Se_lookAt {d n : Nat} {D : SDt} {m : Mem} {K : Option Vv → Mem → Prop} (hS : SC n D m) (hz : gI m (0, 15, 0) 0 = 0 ∧ gI m (0, 16, 0) 0 = 0) (h : ∀ m', Fr m m' → SeR n D m' → K none m') : cW (d + 4) n_Se_lookAt [vo 0 14 0, vo 0 5 0] m K := by
  have hR := hS.ok
  have h8 := hS.le
  have q1 := hS.nA
  refine w_Se_lookAt (Go.runR (callT_mono MT _) [15] 200 hR ?_)
  refine go_eq (ls' := [vo 0 14 0, vo 0 5 0, vi (nI 0)]) rfl rfl (l_Se_lookAt hS (fun m' H => h m' H.1 ⟨H.1.sc hS, H.2⟩) 0 _ ⟨(((Fr.refl hR).p0 (by omega)).p0 (by omega)).p0 (by omega), ?_, q1, rfl, fun s hs => ?_, hz.2⟩ (by omega))
  · show (1 : Int32) <<< (gI m (0, 5, 0) 3 &&& 31) = _
    rw [q1]
    exact two_e n (by omega)
  · obtain rfl : s = 0 := by omega
    exact hz.1
