/-! Written by a program (wip/whole/p64.py): hour, the reference's side; both sides. -/
def HoN (m0 m : Mem) (T s k : Nat) : Prop := (∀ x, x < 12 * T → gI m (1, 12, 0) x = gI m0 (1, 12, 0) x) ∧ gI m (1, 12, 0) (12 * T) = nI s ∧ gI m (1, 12, 0) (12 * T + 2) = gI m0 (1, 0, 0) 21 ∧ gI m (1, 12, 0) (12 * T + 3) = gI m0 (1, 0, 0) 22 ∧ ∀ i, i < k → gI m (1, 12, 0) (12 * T + 4 + i) = gI m0 (1, 10, 0) i
def HoA (m0 m : Mem) (T s k : Nat) : Prop := Nx [] [12] m0 m ∧ HoN m0 m T s k
def HoB (n : Nat) (D : SDt) (m0 m : Mem) (T s k : Nat) : Prop := Nx [] [0, 10, 12] m0 m ∧ HoN m0 m T s 8 ∧ gI m (1, 12, 0) (12 * T + 1) = nI (roH n D s) ∧ (∀ q, gI m (1, 0, 0) q = if q = 21 then nI (lkN D (dT D + roH n D s)) else if q = 22 then gI m0 (1, 0, 0) 22 + nI (ovH n D s) else gI m0 (1, 0, 0) q) ∧ ∀ i, gI m (1, 10, 0) i = if i < k then mdH D s i else gI m0 (1, 10, 0) i
def HoZ (n : Nat) (D : SDt) (m0 m : Mem) (T s : Nat) : Prop := Nx [] [0, 10, 12] m0 m ∧ HoN m0 m T s 8 ∧ gI m (1, 12, 0) (12 * T + 1) = nI (roH n D s) ∧ (∀ q, gI m (1, 0, 0) q = if q = 20 then nI (T + 1) else if q = 21 then nI (lkN D (dT D + roH n D s)) else if q = 22 then gI m0 (1, 0, 0) 22 + nI (ovH n D s) else gI m0 (1, 0, 0) q) ∧ ∀ i, gI m (1, 10, 0) i = if i < n then mdH D s i else gI m0 (1, 10, 0) i
theorem HoN.up {m0 m : Mem} {T s k j : Nat} {v : Int32} (H : HoN m0 m T s k) (hj : 12 * T + 4 + k ≤ j) : HoN m0 (pI m (1, 12, 0) j v) T s k := by
  obtain ⟨a, b, c, d, e⟩ := H
  refine ⟨fun x hx => ?_, ?_, ?_, ?_, fun i hi => ?_⟩
  · rw [rd11, if_neg (by omega)]; exact a x hx
  · rw [rd11, if_neg (by omega)]; exact b
  · rw [rd11, if_neg (by omega)]; exact c
  · rw [rd11, if_neg (by omega)]; exact d
  · rw [rd11, if_neg (by omega)]; exact e i hi
theorem HoN.one {m0 m : Mem} {T s k : Nat} {v : Int32} (H : HoN m0 m T s k) : HoN m0 (pI m (1, 12, 0) (12 * T + 1) v) T s k := by
  obtain ⟨a, b, c, d, e⟩ := H
  refine ⟨fun x hx => ?_, ?_, ?_, ?_, fun i hi => ?_⟩
  · rw [rd11, if_neg (by omega)]; exact a x hx
  · rw [rd11, if_neg (by omega)]; exact b
  · rw [rd11, if_neg (by omega)]; exact c
  · rw [rd11, if_neg (by omega)]; exact d
  · rw [rd11, if_neg (by omega)]; exact e i hi
theorem HoB.sw {n : Nat} {D : SDt} {m0 m : Mem} {T s k : Nat} (H : HoB n D m0 m T s k) (hS : SW n D m0) : SW n D m :=
  SW.cg (m := m0) H.1.ok H.1.kn (fun q _ => H.1.2.2.2.1 5 0 q (by simp)) (fun i q _ => H.1.2.2.2.1 8 i q (by simp)) (fun q hq => by rw [H.2.2.2.1, if_neg (by omega), if_neg (by omega)]) (fun t q ht => H.1.2.2.2.2 t 0 q (by rcases ht with rfl | rfl | rfl <;> simp)) hS
theorem HoA.sw {n : Nat} {D : SDt} {m0 m : Mem} {T s k : Nat} (H : HoA m0 m T s k) (hS : SW n D m0) : SW n D m :=
  SW.cg (m := m0) H.1.ok H.1.kn (fun q _ => H.1.2.2.2.1 5 0 q (by simp)) (fun i q _ => H.1.2.2.2.1 8 i q (by simp)) (fun q _ => H.1.2.2.2.2 0 0 q (by simp)) (fun t q ht => H.1.2.2.2.2 t 0 q (by rcases ht with rfl | rfl | rfl <;> simp)) hS

theorem l_M_hour121 {d n T s : Nat} {D : SDt} {m0 : Mem} {K : Option Vv → Mem → Prop} {b c e : Int32} (hS0 : SW n D m0) (hd : ∀ i, i < n → gI m0 (1, 10, 0) i = dM D i) (hs : s < 256) (hT : T < 40) (q20 : gI m0 (1, 0, 0) 20 = nI T) (h : ∀ m, HoZ n D m0 m T s → K (some (vi (nI (lkN D (dT D + roH n D s))))) (askM m (nI (ovH n D s)))) (k : Nat) (m : Mem) (H : HoB n D m0 m T s k) (hk : k ≤ n) : Go (cW (d + 3)) i_M_hour (0, 0) K 121 [vo 1 0 0, vi (nI s), vi b, vi c, vi (nI (ovH n D s)), vi (nI k)] [] m 0 0 := by
  have hS := H.sw hS0
  have hR := hS.ok
  have h8 := hS.le
  have q2 := hS.nB
  have e0 : (nI k).toNatClampNeg = k := nI_clamp (by omega)
  refine Go.runR (callT_mono MT _) [121] 200 hR ?_
  refine And.intro (fun c124 => ?_) (fun c124 => ?_)
  · try dsimp only at c124
    obtain rfl := lq_e c124 q2 rfl hk (by omega)
    refine m_M_ask (by repeat' (first | exact hR | apply OKR.pI | apply OKR.pL | apply OKR.cpI | apply OKR.wI))  (And.intro (by repeat' (first | exact hR | apply OKR.pI | apply OKR.pL | apply OKR.cpI | apply OKR.wI)) ?_)
    refine And.intro trivial ?_
    have e21 : gI m (1, 0, 0) 21 = nI (lkN D (dT D + roH k D s)) := by rw [H.2.2.2.1]; rfl
    have e20 : gI m (1, 0, 0) 20 = nI T := by rw [H.2.2.2.1]; exact q20
    show K (some (vi (gI m (1, 0, 0) 21))) (askM (pI m (1, 0, 0) 20 (gI m (1, 0, 0) 20 + 1)) (nI (ovH k D s)))
    rw [e21, e20, nI_1]
    refine h _ ⟨H.1.p1 (by simp), H.2.1, H.2.2.1, fun q => ?_, H.2.2.2.2⟩
    rw [rd11, H.2.2.2.1]
    by_cases z : q = 20
    · rw [if_pos ⟨rfl, rfl, z⟩, if_pos z]
    · rw [if_neg (fun y => z y.2.2), if_neg z]
  · try dsimp only at c124
    have hk2 := lq_m c124 q2 rfl hk (by omega)
    have dm : gI m (1, 10, 0) (nI k).toNatClampNeg = dM D k := (by rw [e0, H.2.2.2.2, if_neg (by omega)]; exact hd k hk2)
    have key : ∀ x, x = mdH D s k → Go (cW (d + 3)) i_M_hour (0, 0) K 121 [vo 1 0 0, vi (nI s), vi b, vi c, vi (nI (ovH n D s)), vi (nI k + 1)] [] (pI m (1, 10, 0) (nI k).toNatClampNeg x) 0 0 := fun x z => (by
      subst z
      refine go_eq (by rw [← nI_succ]) rfl (l_M_hour121 (e := e) hS0 hd hs hT q20 h (k + 1) _ ⟨H.1.p1 (by simp), H.2.1, H.2.2.1, H.2.2.2.1, fun i => ?_⟩ hk2)
      rw [rd11, e0, H.2.2.2.2]
      by_cases z : i = k
      · rw [if_pos ⟨rfl, rfl, z⟩, if_pos (by omega), z]
      · rw [if_neg (fun y => z y.2.2)]
        by_cases y : i < k
        · rw [if_pos y, if_pos (by omega)]
        · rw [if_neg y, if_neg (by omega)])
    unfold mdH at key
    refine And.intro ⟨rfl, rfl, rfl⟩ ?_
    refine And.intro (vp_nI (k := k) (N := 8) (by omega) (by decide)) ?_
    refine m_M_has (by repeat' (first | exact hR | apply OKR.pI | apply OKR.pL | apply OKR.cpI | apply OKR.wI)) (s := s) (i := k) rfl rfl hs (by omega) (And.intro (by repeat' (first | exact hR | apply OKR.pI | apply OKR.pL | apply OKR.cpI | apply OKR.wI)) ?_)
    refine And.intro (fun c133 => ?_) (fun c133 => ?_)
    · try dsimp only at c133
      refine And.intro (vp_nI (k := k) (N := 8) (by omega) (by decide)) ?_
      first
      | exact key _ (by
          show gI m (1, 10, 0) (nI k).toNatClampNeg + nI (rp D k) = _
          rw [if_pos (tb_n0 c133), dm])
      | exact key _ (by
          show gI m (1, 10, 0) (nI k).toNatClampNeg + 0 = _
          rw [if_neg (tb_e0 c133), dm])
    · try dsimp only at c133
      refine wm_M_rippleOf (by exact hS) (i := k) rfl hk2 (And.intro (by repeat' (first | exact hR | apply OKR.pI | apply OKR.pL | apply OKR.cpI | apply OKR.wI)) ?_)
      refine And.intro (vp_nI (k := k) (N := 8) (by omega) (by decide)) ?_
      first
      | exact key _ (by
          show gI m (1, 10, 0) (nI k).toNatClampNeg + nI (rp D k) = _
          rw [if_pos (tb_n0 c133), dm])
      | exact key _ (by
          show gI m (1, 10, 0) (nI k).toNatClampNeg + 0 = _
          rw [if_neg (tb_e0 c133), dm])
termination_by n - k
decreasing_by all_goals omega

theorem l_M_hour45 {d n T s : Nat} {D : SDt} {m0 : Mem} {K : Option Vv → Mem → Prop} (hS0 : SW n D m0) (hn : 0 < n) (hd : ∀ i, i < n → gI m0 (1, 10, 0) i = dM D i) (hw : dT D ≤ 60 ∧ gI m0 (1, 0, 0) 21 = nI (dT D)) (hs : s < 256) (hT : T < 40) (q20 : gI m0 (1, 0, 0) 20 = nI T) (h : ∀ m, HoZ n D m0 m T s → K (some (vi (nI (lkN D (dT D + roH n D s))))) (askM m (nI (ovH n D s)))) (k : Nat) (m : Mem) (H : HoA m0 m T s k) (hk : k ≤ 8) : Go (cW (d + 3)) i_M_hour (0, 0) K 45 [vo 1 0 0, vi (nI s), vi (nI (12 * T)), vi (nI k), vu, vu] [] m 0 0 := by
  have hS := H.sw hS0
  have hR := hS.ok
  have h8 := hS.le
  have e0 : (nI k).toNatClampNeg = k := nI_clamp (by omega)
  have w0 : ∀ q, gI m (1, 0, 0) q = gI m0 (1, 0, 0) q := fun q => H.1.2.2.2.2 0 0 q (by simp)
  have ew : gI m (1, 0, 0) 21 = nI (dT D) := (w0 21).trans hw.2
  have r0 := wrsL hS s
  have al := hS.al hn
  have le : gI m (1, 0, 0) 12 = nI (dE D) := al.2.2.2.2.2
  have l9 := al.2.1
  have ep : (nI (12 * T) + 4 + nI k).toNatClampNeg = 12 * T + 4 + k := by rw [pk4, nI_clamp (by omega)]
  refine Go.runR (callT_mono MT _) [45, 121] 200 hR ?_
  refine And.intro (fun c47 => ?_) (fun c47 => ?_)
  · try dsimp only at c47
    have hk2 := lq_e (n := 8) c47 rfl rfl hk (by omega)
    rw [hk2] at H
    have rol : roH n D s ≤ rs n D s := (by unfold roH; split <;> omega)
    have HB : HoB n D m0 (pI (pI (pI (pI m (1, 12, 0) (12 * T + 1) (nI (roH n D s))) (1, 0, 0) 21 (nI (dT D + roH n D s))) (1, 0, 0) 22 (gI m (1, 0, 0) 22 + nI (ovH n D s))) (1, 0, 0) 21 (nI (lkN D (dT D + roH n D s)))) T s 0 := (by
      refine ⟨((((H.1.wk (by simp) (by simp)).p1 (by simp)).p1 (by simp)).p1 (by simp)).p1 (by simp), H.2.one, ?_, fun q => ?_, fun i => ?_⟩
      · show gI (pI m (1, 12, 0) (12 * T + 1) (nI (roH n D s))) (1, 12, 0) (12 * T + 1) = _
        rw [rd11, if_pos ⟨rfl, rfl, rfl⟩]
      · rw [rd11]
        by_cases z : q = 21
        · rw [if_pos ⟨rfl, rfl, z⟩, if_pos z]
        · rw [if_neg (fun y => z y.2.2), if_neg z, rd11]
          by_cases z2 : q = 22
          · rw [if_pos ⟨rfl, rfl, z2⟩, if_pos z2, w0]
          · rw [if_neg (fun y => z2 y.2.2), if_neg z2, rd11, if_neg (fun y => z y.2.2)]
            exact w0 q
      · rw [if_neg (by omega)]
        exact H.1.2.2.2.2 10 0 i (by simp))
    have E1 : nI (rs n D s) - nI (ovH n D s) = nI (roH n D s) := (by unfold ovH; rw [pk_sub (by omega), show rs n D s - (rs n D s - roH n D s) = roH n D s by omega])
    have E2 : gI m (1, 0, 0) 21 + nI (roH n D s) = nI (dT D + roH n D s) := (by rw [ew, nI_add])
    have rl2 : roH n D s ≤ 60 - dT D := (by unfold roH; split <;> omega)
    have i1 : gI m (1, 0, 0) 21 + nI (rs n D s) ≤ 60 ↔ dT D + rs n D s ≤ 60 := (by rw [ew, nI_add]; exact nI_leI (b := 60) (by omega) (by omega))
    have i2 : nI (dE D) ≤ nI (dT D + roH n D s) ↔ dE D ≤ dT D + roH n D s := nI_leI (by omega) (by omega)
    refine wm_M_ripples (by exact hS) (s := s) rfl hs (And.intro (by repeat' (first | exact hR | apply OKR.pI | apply OKR.pL | apply OKR.cpI | apply OKR.wI)) ?_)
    refine And.intro (fun c71 => ?_) (fun c71 => ?_)
    · try dsimp only at c71
      have c71 := i1.mp c71
      have hX : (0 : Int32) = nI (ovH n D s) := (by unfold ovH roH; rw [if_neg (by omega), Nat.sub_self]; rfl)
      refine And.intro ⟨rfl, rfl, rfl⟩ ?_
      refine And.intro (by show vp_in (nI (12 * T) + 1) 480; rw [nI_1]; exact vp_nI (by omega) (by decide)) ?_
      refine And.intro (fun c111 => ?_) (fun c111 => ?_)
      · try dsimp only at c111
        have c111 : gI m (1, 0, 0) 12 ≤ gI m (1, 0, 0) 21 + (nI (rs n D s) - (0)) := c111
        rw [hX, E1, E2, le] at c111
        have hY : nI (dT D + roH n D s) - gI m (1, 0, 0) 12 = nI (lkN D (dT D + roH n D s)) := by
          have := i2.mp c111
          unfold lkN
          rw [le, if_neg (by omega), pk_sub (by omega)]
        exact go_eq (ls' := [vo 1 0 0, vi (nI s), vi (nI (12 * T)), vi (nI (rs n D s)), vi (nI (ovH n D s)), vi (nI 0)]) (by show [vo 1 0 0, vi (nI s), vi (nI (12 * T)), vi (nI (rs n D s)), vi ((0)), vi (nI 0)] = _; rw [hX]) (m' := (pI (pI (pI (pI m (1, 12, 0) (12 * T + 1) (nI (roH n D s))) (1, 0, 0) 21 (nI (dT D + roH n D s))) (1, 0, 0) 22 (gI m (1, 0, 0) 22 + nI (ovH n D s))) (1, 0, 0) 21 (nI (lkN D (dT D + roH n D s))))) (by
          show pI (pI (pI (pI m (1, 12, 0) (nI (12 * T) + 1).toNatClampNeg (nI (rs n D s) - (0))) (1, 0, 0) 21 (gI m (1, 0, 0) 21 + (nI (rs n D s) - (0)))) (1, 0, 0) 22 (gI m (1, 0, 0) 22 + ((0)))) (1, 0, 0) 21 ((gI m (1, 0, 0) 21 + (nI (rs n D s) - (0))) - (gI m (1, 0, 0) 12)) = (pI (pI (pI (pI m (1, 12, 0) (12 * T + 1) (nI (roH n D s))) (1, 0, 0) 21 (nI (dT D + roH n D s))) (1, 0, 0) 22 (gI m (1, 0, 0) 22 + nI (ovH n D s))) (1, 0, 0) 21 (nI (lkN D (dT D + roH n D s))))
          rw [hX, E1, E2, nI_1, nI_clamp (n := 12 * T + 1) (by omega), hY]) (l_M_hour121 (e := 0) hS0 hd hs hT q20 h 0 _ HB (Nat.zero_le _))
      · try dsimp only at c111
        have c111 : ¬ gI m (1, 0, 0) 12 ≤ gI m (1, 0, 0) 21 + (nI (rs n D s) - (0)) := c111
        rw [hX, E1, E2, le] at c111
        have hY : nI (dT D + roH n D s) - nI (dT D + roH n D s) = nI (lkN D (dT D + roH n D s)) := by
          have := mt i2.mpr c111
          unfold lkN
          rw [Int32.sub_self, if_pos (by omega)]
          rfl
        exact go_eq (ls' := [vo 1 0 0, vi (nI s), vi (nI (12 * T)), vi (nI (rs n D s)), vi (nI (ovH n D s)), vi (nI 0)]) (by show [vo 1 0 0, vi (nI s), vi (nI (12 * T)), vi (nI (rs n D s)), vi ((0)), vi (nI 0)] = _; rw [hX]) (m' := (pI (pI (pI (pI m (1, 12, 0) (12 * T + 1) (nI (roH n D s))) (1, 0, 0) 21 (nI (dT D + roH n D s))) (1, 0, 0) 22 (gI m (1, 0, 0) 22 + nI (ovH n D s))) (1, 0, 0) 21 (nI (lkN D (dT D + roH n D s))))) (by
          show pI (pI (pI (pI m (1, 12, 0) (nI (12 * T) + 1).toNatClampNeg (nI (rs n D s) - (0))) (1, 0, 0) 21 (gI m (1, 0, 0) 21 + (nI (rs n D s) - (0)))) (1, 0, 0) 22 (gI m (1, 0, 0) 22 + ((0)))) (1, 0, 0) 21 ((gI m (1, 0, 0) 21 + (nI (rs n D s) - (0))) - (gI m (1, 0, 0) 21 + (nI (rs n D s) - 0))) = (pI (pI (pI (pI m (1, 12, 0) (12 * T + 1) (nI (roH n D s))) (1, 0, 0) 21 (nI (dT D + roH n D s))) (1, 0, 0) 22 (gI m (1, 0, 0) 22 + nI (ovH n D s))) (1, 0, 0) 21 (nI (lkN D (dT D + roH n D s))))
          rw [hX, E1, E2, nI_1, nI_clamp (n := 12 * T + 1) (by omega), hY]) (l_M_hour121 (e := 0) hS0 hd hs hT q20 h 0 _ HB (Nat.zero_le _))
    · try dsimp only at c71
      have c71 := mt i1.mpr c71
      have hX : gI m (1, 0, 0) 21 + nI (rs n D s) - 60 = nI (ovH n D s) := (by unfold ovH roH; rw [if_pos (by omega), ew, nI_add, show (60 : Int32) = nI 60 from rfl, pk_sub (by omega), show dT D + rs n D s - 60 = rs n D s - (60 - dT D) by omega])
      refine And.intro ⟨rfl, rfl, rfl⟩ ?_
      refine And.intro (by show vp_in (nI (12 * T) + 1) 480; rw [nI_1]; exact vp_nI (by omega) (by decide)) ?_
      refine And.intro (fun c111 => ?_) (fun c111 => ?_)
      · try dsimp only at c111
        have c111 : gI m (1, 0, 0) 12 ≤ gI m (1, 0, 0) 21 + (nI (rs n D s) - (gI m (1, 0, 0) 21 + nI (rs n D s) - 60)) := c111
        rw [hX, E1, E2, le] at c111
        have hY : nI (dT D + roH n D s) - gI m (1, 0, 0) 12 = nI (lkN D (dT D + roH n D s)) := by
          have := i2.mp c111
          unfold lkN
          rw [le, if_neg (by omega), pk_sub (by omega)]
        exact go_eq (ls' := [vo 1 0 0, vi (nI s), vi (nI (12 * T)), vi (nI (rs n D s)), vi (nI (ovH n D s)), vi (nI 0)]) (by show [vo 1 0 0, vi (nI s), vi (nI (12 * T)), vi (nI (rs n D s)), vi ((gI m (1, 0, 0) 21 + nI (rs n D s) - 60)), vi (nI 0)] = _; rw [hX]) (m' := (pI (pI (pI (pI m (1, 12, 0) (12 * T + 1) (nI (roH n D s))) (1, 0, 0) 21 (nI (dT D + roH n D s))) (1, 0, 0) 22 (gI m (1, 0, 0) 22 + nI (ovH n D s))) (1, 0, 0) 21 (nI (lkN D (dT D + roH n D s))))) (by
          show pI (pI (pI (pI m (1, 12, 0) (nI (12 * T) + 1).toNatClampNeg (nI (rs n D s) - (gI m (1, 0, 0) 21 + nI (rs n D s) - 60))) (1, 0, 0) 21 (gI m (1, 0, 0) 21 + (nI (rs n D s) - (gI m (1, 0, 0) 21 + nI (rs n D s) - 60)))) (1, 0, 0) 22 (gI m (1, 0, 0) 22 + ((gI m (1, 0, 0) 21 + nI (rs n D s) - 60)))) (1, 0, 0) 21 ((gI m (1, 0, 0) 21 + (nI (rs n D s) - (gI m (1, 0, 0) 21 + nI (rs n D s) - 60))) - (gI m (1, 0, 0) 12)) = (pI (pI (pI (pI m (1, 12, 0) (12 * T + 1) (nI (roH n D s))) (1, 0, 0) 21 (nI (dT D + roH n D s))) (1, 0, 0) 22 (gI m (1, 0, 0) 22 + nI (ovH n D s))) (1, 0, 0) 21 (nI (lkN D (dT D + roH n D s))))
          rw [hX, E1, E2, nI_1, nI_clamp (n := 12 * T + 1) (by omega), hY]) (l_M_hour121 (e := 0) hS0 hd hs hT q20 h 0 _ HB (Nat.zero_le _))
      · try dsimp only at c111
        have c111 : ¬ gI m (1, 0, 0) 12 ≤ gI m (1, 0, 0) 21 + (nI (rs n D s) - (gI m (1, 0, 0) 21 + nI (rs n D s) - 60)) := c111
        rw [hX, E1, E2, le] at c111
        have hY : nI (dT D + roH n D s) - nI (dT D + roH n D s) = nI (lkN D (dT D + roH n D s)) := by
          have := mt i2.mpr c111
          unfold lkN
          rw [Int32.sub_self, if_pos (by omega)]
          rfl
        exact go_eq (ls' := [vo 1 0 0, vi (nI s), vi (nI (12 * T)), vi (nI (rs n D s)), vi (nI (ovH n D s)), vi (nI 0)]) (by show [vo 1 0 0, vi (nI s), vi (nI (12 * T)), vi (nI (rs n D s)), vi ((gI m (1, 0, 0) 21 + nI (rs n D s) - 60)), vi (nI 0)] = _; rw [hX]) (m' := (pI (pI (pI (pI m (1, 12, 0) (12 * T + 1) (nI (roH n D s))) (1, 0, 0) 21 (nI (dT D + roH n D s))) (1, 0, 0) 22 (gI m (1, 0, 0) 22 + nI (ovH n D s))) (1, 0, 0) 21 (nI (lkN D (dT D + roH n D s))))) (by
          show pI (pI (pI (pI m (1, 12, 0) (nI (12 * T) + 1).toNatClampNeg (nI (rs n D s) - (gI m (1, 0, 0) 21 + nI (rs n D s) - 60))) (1, 0, 0) 21 (gI m (1, 0, 0) 21 + (nI (rs n D s) - (gI m (1, 0, 0) 21 + nI (rs n D s) - 60)))) (1, 0, 0) 22 (gI m (1, 0, 0) 22 + ((gI m (1, 0, 0) 21 + nI (rs n D s) - 60)))) (1, 0, 0) 21 ((gI m (1, 0, 0) 21 + (nI (rs n D s) - (gI m (1, 0, 0) 21 + nI (rs n D s) - 60))) - (gI m (1, 0, 0) 21 + (nI (rs n D s) - (gI m (1, 0, 0) 21 + nI (rs n D s) - 60)))) = (pI (pI (pI (pI m (1, 12, 0) (12 * T + 1) (nI (roH n D s))) (1, 0, 0) 21 (nI (dT D + roH n D s))) (1, 0, 0) 22 (gI m (1, 0, 0) 22 + nI (ovH n D s))) (1, 0, 0) 21 (nI (lkN D (dT D + roH n D s))))
          rw [hX, E1, E2, nI_1, nI_clamp (n := 12 * T + 1) (by omega), hY]) (l_M_hour121 (e := 0) hS0 hd hs hT q20 h 0 _ HB (Nat.zero_le _))
  · try dsimp only at c47
    have hk2 := lq_m (n := 8) c47 rfl rfl hk (by omega)
    refine And.intro ⟨rfl, rfl, rfl⟩ ?_
    refine And.intro ⟨rfl, rfl, rfl⟩ ?_
    refine And.intro (vp_nI (k := k) (N := 8) (by omega) (by decide)) ?_
    refine And.intro (by show vp_in (nI (12 * T) + 4 + nI k) 480; rw [pk4]; exact vp_nI (by omega) (by decide)) ?_
    refine go_eq (ls' := [vo 1 0 0, vi (nI s), vi (nI (12 * T)), vi (nI (k + 1)), vu, vu]) (by rw [nI_succ]; rfl) (m' := pI m (1, 12, 0) (12 * T + 4 + k) (gI m (1, 10, 0) k)) ?_ (l_M_hour45 hS0 hn hd hw hs hT q20 h (k + 1) _ ⟨H.1.p1 (by simp), ?_⟩ hk2)
    · show pI m (1, 12, 0) (nI (12 * T) + 4 + nI k).toNatClampNeg (gI m (1, 10, 0) (nI k).toNatClampNeg) = _
      rw [ep, e0]
    · obtain ⟨x1, x2, x3, x4, x5⟩ := H.2.up (v := gI m (1, 10, 0) k) (Nat.le_refl _)
      refine ⟨x1, x2, x3, x4, fun i hi => ?_⟩
      rw [rd11]
      by_cases z : i = k
      · rw [if_pos ⟨rfl, rfl, by omega⟩, z]
        exact H.1.2.2.2.2 10 0 k (by simp)
      · rw [if_neg (by omega)]
        exact H.2.2.2.2.2 i (by omega)
termination_by 8 - k
decreasing_by all_goals omega

theorem RelAB.hour {n T s : Nat} {D : SDt} {m m1 m2 : Mem} {v : Int32} (R : RelAB m) (hc : CurR n m) (hS : SC n D m) (hn : 0 < n) (hT : T < 40) (q4 : gI m (0, 5, 0) 4 = nI T) (A : RgZ n D m m1 T s) (B : HoZ n D (tellM m1 v) m2 T s) : RelAB (askM m2 v) := by
  obtain ⟨h8, hm, -, h1⟩ := hc
  obtain ⟨hl, ⟨T', s1, s2⟩, hk⟩ := h1 hn
  obtain ⟨a1, a2, a3, a4, a5, a6, a7, a8, a9⟩ := s2
  obtain rfl : T' = T := nI_in1 (by omega) (by omega) (a2.symm.trans q4)
  obtain ⟨BN, ⟨b1, b2, b3, b4, b5⟩, b6, b7, b8⟩ := B
  obtain ⟨AN, A8, A10, A11, A5⟩ := A
  have k2 : ∀ i, kn (askM m2 v) i = kn m i := fun i => ((kn_rw (fun _ => rfl) i).trans (BN.kn i)).trans ((kn_rw (fun _ => rfl) i).trans (AN.kn i))
  have z0 : ∀ t i k, t ≠ 0 → gI (askM m2 v) (0, t, i) k = gI m1 (0, t, i) k := fun t i k h0 => by
    show gI m2 (0, t, i) k = _
    rw [BN.2.2.2.1 t i k (by simp), rd00, if_neg (by omega)]
  have c0 : ∀ t i k, t ≠ 0 → t ≠ 5 → t ≠ 8 → t ≠ 10 → t ≠ 11 → gI (askM m2 v) (0, t, i) k = gI m (0, t, i) k := fun t i k h0 h5 h8 h10 h11 => (z0 t i k h0).trans (AN.2.2.2.1 t i k (by simp [h5, h8, h10, h11]))
  have z1 : ∀ t k, gI (tellM m1 v) (1, t, 0) k = gI m (1, t, 0) k := fun t k => AN.2.2.2.2 t 0 k (by simp)
  have c1 : ∀ t k, t ≠ 0 → t ≠ 10 → t ≠ 12 → gI (askM m2 v) (1, t, 0) k = gI m (1, t, 0) k := fun t k h0 h10 h12 => by
    rw [rd11, if_neg (by omega), BN.2.2.2.2 t 0 k (by simp [h0, h10, h12]), z1]
  have c5 : ∀ s' q, gI (askM m2 v) (0, 5, s') q = if s' = 0 ∧ q = 4 then nI (T' + 1) else if s' = 0 ∧ q = 8 then gI m (0, 5, 0) 8 + nI (ovH n D s) else if s' = 0 ∧ q = 7 then nI (lkN D (dT D + roH n D s)) else gI m (0, 5, s') q := fun s' q => (z0 5 s' q (by omega)).trans (A5 s' q)
  have c8 : ∀ i q, gI (askM m2 v) (0, 8, i) q = if i < n ∧ q = 3 then mdH D s i else gI m (0, 8, i) q := fun i q => (z0 8 i q (by omega)).trans (A8 i q)
  have c10 := fun h q => (z0 10 h q (by omega)).trans (A10 h q)
  have c11 := fun h q => (z0 11 h q (by omega)).trans (A11 h q)
  have d0 : ∀ q, q ≠ 2 → gI (askM m2 v) (1, 0, 0) q = if q = 20 then nI (T' + 1) else if q = 21 then nI (lkN D (dT D + roH n D s)) else if q = 22 then gI m (1, 0, 0) 22 + nI (ovH n D s) else gI m (1, 0, 0) q := fun q hq => by rw [rd11, if_neg (by omega), b7, z1, z1]
  have d10 : ∀ i, i < n → gI (askM m2 v) (1, 10, 0) i = mdH D s i := fun i hi => by rw [rd11, if_neg (by omega), b8, if_pos hi]
  have d12 : ∀ x, gI (askM m2 v) (1, 12, 0) x = gI m2 (1, 12, 0) x := fun _ => rfl
  have wt := hS.wt
  have lw := lkL D (dT D + roH n D s)
  have ro : dT D + roH n D s ≤ 60 := by unfold roH; split <;> omega
  refine R.ofCur (n := n) BN.1.pI ⟨h8, by rw [d0 10 (by omega)]; exact hm, fun z => absurd z (by omega), fun _ => ⟨LoudR.cg (m := m) h8 k2 (fun i => c1 7 i (by omega) (by omega) (by omega)) (fun i => c1 8 i (by omega) (by omega) (by omega)) (fun i _ => by rw [c8, if_neg (by omega)]) (by rw [c5]; simp) (by rw [d0 12 (by omega)]; simp) hl, ⟨T' + 1, by rw [d0 20 (by omega)]; simp, ?_⟩, fun k hk3 => KeptR.cg (m := m) h8 (fun q => by rw [c5, if_neg (by omega), if_neg (by omega), if_neg (by omega)]) (fun i q _ => by rw [c8, if_neg (by omega)]) (fun t q _ => by rw [c10, if_neg (by omega), if_neg (by omega), if_neg (by omega), if_neg (by omega)]) (fun t q _ => by rw [c11, if_neg (by omega)]) (fun t q _ => c0 13 _ _ (by omega) (by omega) (by omega) (by omega) (by omega)) (fun q => c1 13 q (by omega) (by omega) (by omega)) k2 (fun i _ => by rw [c8, if_neg (by omega)]) (by rw [c5]; simp) (hk k hk3)⟩⟩ (fun t i k q => c0 t i k (by omega) (by omega) (by omega) (by omega) (by omega)) (fun t k q => c1 t k (by omega) (by omega) (by omega)) ?_
  · refine ⟨by rw [c5]; simp [a1], by rw [c5]; simp, by omega, ⟨by rw [c5, d0 11 (by omega)]; simp [a4.1], by rw [d0 11 (by omega)]; simp only [show ¬ (11 = 20) by decide, show ¬ (11 = 21) by decide, show ¬ (11 = 22) by decide, if_false]; exact a4.2⟩, ⟨by rw [c5, d0 21 (by omega)]; simp, ⟨lkN D (dT D + roH n D s), by omega, by rw [d0 21 (by omega)]; simp⟩⟩, by rw [c5, d0 22 (by omega)]; simp [a6], fun i hi => ?_, fun i k hi hk => ?_, fun t ht => ?_⟩
    · have := a7 i hi
      unfold HoR at *
      rw [show 8 * 0 + i = i by omega] at *
      rw [c8, c8, c8, if_neg (by omega), if_pos ⟨hi, rfl⟩, if_neg (by omega), c1 9 i (by omega) (by omega) (by omega), c1 11 i (by omega) (by omega) (by omega), d10 i hi]
      exact ⟨this.1, this.2.1, rfl, this.2.2.2⟩
    · rw [c0 13 _ _ (by omega) (by omega) (by omega) (by omega) (by omega), c1 18 _ (by omega) (by omega) (by omega)]
      exact a8 i k hi hk
    · rw [show 40 * 0 + t = t by omega]
      unfold HrR
      simp only [d12]
      rw [c10, c10, c10, c10]
      by_cases z : t = T'
      · subst z
        simp only [true_and, show ¬ (1 = 2) by decide, show ¬ (3 = 2) by decide, show ¬ (3 = 1) by decide, show ¬ (4 = 2) by decide, show ¬ (4 = 1) by decide, show ¬ (4 = 3) by decide, if_true, if_false]
        refine ⟨b2.symm, b6.symm, by rw [b3, z1]; exact a5.1, ⟨dT D, wt.1, by rw [b3, z1]; exact wt.2.2⟩, by rw [b4, z1]; exact a6, fun i hi => ?_⟩
        rw [c11, if_pos ⟨rfl, hi⟩, show 12 * t + (4 + i) = 12 * t + 4 + i by omega, b5 i (by omega), z1]
        have := (a7 i hi).2.2.1
        rw [show 8 * 0 + i = i by omega] at this
        exact this
      · have ht2 : t < T' := by omega
        have := a9 t ht2
        rw [show 40 * 0 + t = t by omega] at this
        unfold HrR at this
        simp only [z, false_and, if_false]
        have n12 : ∀ c, c < 12 → gI m2 (1, 12, 0) (12 * t + c) = gI m (1, 12, 0) (12 * t + c) := fun c hc => by rw [b1 _ (by omega), z1]
        rw [show gI m2 (1, 12, 0) (12 * t + 0) = _ from n12 0 (by omega), n12 1 (by omega), n12 2 (by omega), n12 3 (by omega)]
        refine ⟨this.1, this.2.1, this.2.2.1, this.2.2.2.1, this.2.2.2.2.1, fun i hi => ?_⟩
        rw [c11, if_neg (fun y => z y.1), n12 (4 + i) (by omega)]
        exact this.2.2.2.2.2 i hi
  · have dd := R.2.2.2.1
    unfold TellR at *
    have g7 : gI (askM m2 v) (0, 0, 0) 7 = gI m (0, 0, 0) 7 := by
      show gI m2 (0, 0, 0) 7 = _
      rw [BN.2.2.2.1 0 0 7 (by simp), rd00, if_neg (by omega), AN.2.2.2.1 0 0 7 (by simp)]
    have g8 : gI (askM m2 v) (0, 0, 0) 8 = v := by
      show gI m2 (0, 0, 0) 8 = _
      rw [BN.2.2.2.1 0 0 8 (by simp), rd00, if_pos ⟨rfl, rfl, rfl⟩]
    have gl : ∀ ob k, gL (askM m2 v) ob k = gL m ob k := fun ob k => by rw [gL_pI, BN.2.2.1, gL_pI, AN.2.2.1]
    rw [g7, g8, d0 0 (by omega), show gI (askM m2 v) (1, 0, 0) 2 = v from rfl, gl, gl, gl, gl, c0 15 0 0 (by omega) (by omega) (by omega) (by omega) (by omega), c0 16 0 0 (by omega) (by omega) (by omega) (by omega) (by omega)]
    refine ⟨dd.1, rfl, fun f f1 f5 => ?_, dd.2.2.2⟩
    rw [c0 19 0 f (by omega) (by omega) (by omega) (by omega) (by omega), c1 1 f (by omega) (by omega) (by omega)]
    exact dd.2.2.1 f f1 f5
