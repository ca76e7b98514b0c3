/-! Written by a program (wip/whole/p58.py): sings, crickets, loud. -/
def siF (D : SDt) (i : Nat) (p : Nat × Nat) : Nat × Nat := if dK D i = 4 then p else (p.1 * (12 - dL D i), p.2 * 12)
def siN (D : SDt) (k : Nat) : Nat × Nat := itr (siF D) (1, 1) k
theorem sis (D : SDt) (k : Nat) : siN D (k + 1) = if dK D k = 4 then siN D k else ((siN D k).1 * (12 - dL D k), (siN D k).2 * 12) := rfl
theorem siL (D : SDt) : ∀ k, (siN D k).1 ≤ (siN D k).2 ∧ 0 < (siN D k).2 ∧ (siN D k).2 ≤ 12 ^ k
  | 0 => ⟨Nat.le_refl _, Nat.one_pos, Nat.le_refl _⟩
  | k + 1 => by
    obtain ⟨a, b, c⟩ := siL D k
    rw [sis, Nat.pow_succ]
    split
    · exact ⟨a, b, by omega⟩
    · refine ⟨?_, by show 0 < (siN D k).2 * 12; omega, by show (siN D k).2 * 12 ≤ _; omega⟩
      show (siN D k).1 * (12 - dL D k) ≤ (siN D k).2 * 12
      exact Nat.mul_le_mul a (by omega)
theorem p12 : ∀ k, k < 9 → 12 ^ k < 2 ^ 30 := by decide
theorem mute_n {D : SDt} {i : Nat} (h : ¬ (if dK D i = 4 then (1 : Int32) else 0) = 0) : dK D i = 4 := Classical.byContradiction fun y => h (if_neg y)
theorem mute_e {D : SDt} {i : Nat} (h : (if dK D i = 4 then (1 : Int32) else 0) = 0) : ¬ dK D i = 4 := fun y => by rw [if_pos y] at h; exact absurd h (by decide)

theorem l_X_sings {d n : Nat} {D : SDt} {m : Mem} {K : Option Vv → Mem → Prop} (hS : SC n D m)  (h : K (some (vi 1)) (frA m ((siN D n).2 - (siN D n).1) (siN D n).2)) (k : Nat) (hk : k ≤ n) : Go (cW (d + 2)) i_X_sings (0, 0) K 12 [vo 0 0 0, vl (lN (siN D k).1), vu, vl (lN (siN D k).2), vu, vi (nI k)] [] m 0 0 := by
  have hR := hS.ok
  have h8 := hS.le
  have q1 := hS.nA
  have q2 := hS.nB
  refine Go.runR (callT_mono MT _) [12] 200 hR ?_
  refine And.intro ⟨(by first | decide | assumption | omega), (by first | decide | assumption | omega)⟩ ?_
  refine And.intro (fun c16 => ?_) (fun c16 => ?_)
  · try dsimp only at c16
    obtain rfl := lq_e c16 q1 rfl hk (by omega)
    have sl := siL D k
    have p12 := p12 k (by omega)
    refine And.intro ⟨(by first | decide | assumption | omega), (by first | decide | assumption | omega)⟩ ?_
    refine m_Fr_become (by repeat' (first | exact hR | apply OKR.pI | apply OKR.pL | apply OKR.cpI | apply OKR.wI)) (u := (siN D k).2 - (siN D k).1) (w := (siN D k).2) (lN_sub sl.1) rfl (by omega) sl.2.1 (by omega) (And.intro (by repeat' (first | exact hR | apply OKR.pI | apply OKR.pL | apply OKR.cpI | apply OKR.wI)) ?_)
    refine And.intro trivial ?_
    exact h
  · try dsimp only at c16
    have hk2 := lq_m c16 q1 rfl hk (by omega)
    have e0 : (nI k).toNatClampNeg = k := nI_clamp (by omega)
    have key : ∀ a b, a = lN (siN D (k + 1)).1 → b = lN (siN D (k + 1)).2 → Go (cW (d + 2)) i_X_sings (0, 0) K 12 [vo 0 0 0, vl a, vu, vl b, vu, vi (nI k + 1)] [] m 0 0 := fun a b z1 z2 => go_eq (by rw [z1, z2, ← nI_succ]) rfl (l_X_sings hS h (k + 1) hk2)
    rw [sis] at key
    have hh := hS.hs hk2
    have l9 := hh.2.2.1
    refine And.intro ⟨(by first | decide | assumption | omega), (by first | decide | assumption | omega)⟩ ?_
    refine And.intro ⟨(by first | decide | assumption | omega), (by first | decide | assumption | omega)⟩ ?_
    refine And.intro ⟨(vp_nI (k := k) (N := 8) (by omega) (by decide)), ⟨(by decide), by rw [e0]; omega⟩⟩ ?_
    refine m_Ho_isMute (by exact hS) (i := k) (by rw [e0]; omega) hk2 (And.intro (by repeat' (first | exact hR | apply OKR.pI | apply OKR.pL | apply OKR.cpI | apply OKR.wI)) ?_)
    refine And.intro (fun c23 => ?_) (fun c23 => ?_)
    · try dsimp only at c23
      refine And.intro ⟨(by first | decide | assumption | omega), (by first | decide | assumption | omega)⟩ ?_
      refine And.intro ⟨(by first | decide | assumption | omega), (by first | decide | assumption | omega)⟩ ?_
      refine And.intro ⟨(vp_nI (k := k) (N := 8) (by omega) (by decide)), ⟨(by decide), by rw [e0]; omega⟩⟩ ?_
      first
      | (have z := mute_n c23
         rw [if_pos z] at key
         exact key _ _ rfl rfl)
      | (have z := mute_e c23
         rw [if_neg z] at key
         refine key _ _ ?_ (lN_mul _ 12)
         show lN (siN D k).1 * (12 - gI m (0, 8, 8 * 0 + (nI k).toNatClampNeg) 1).toInt64 = _
         rw [e0, show 8 * 0 + k = k by omega, hh.2.2.2.2.2.1, show (12 : Int32) = nI 12 from rfl, pk_sub (by omega), nI_l (by omega), lN_mul])
    · try dsimp only at c23
      first
      | (have z := mute_n c23
         rw [if_pos z] at key
         exact key _ _ rfl rfl)
      | (have z := mute_e c23
         rw [if_neg z] at key
         refine key _ _ ?_ (lN_mul _ 12)
         show lN (siN D k).1 * (12 - gI m (0, 8, 8 * 0 + (nI k).toNatClampNeg) 1).toInt64 = _
         rw [e0, show 8 * 0 + k = k by omega, hh.2.2.2.2.2.1, show (12 : Int32) = nI 12 from rfl, pk_sub (by omega), nI_l (by omega), lN_mul])
termination_by n - k
decreasing_by all_goals omega

theorem l_M_sings {d n : Nat} {D : SDt} {m : Mem} {K : Option Vv → Mem → Prop} (hS : SC n D m)  (h : K (some (vi 1)) (frB m ((siN D n).2 - (siN D n).1) (siN D n).2)) (k : Nat) (hk : k ≤ n) : Go (cW (d + 2)) i_M_sings (0, 0) K 11 [vo 1 0 0, vl (lN (siN D k).1), vu, vl (lN (siN D k).2), vu, vi (nI k)] [] m 0 0 := by
  have hR := hS.ok
  have h8 := hS.le
  have q1 := hS.nA
  have q2 := hS.nB
  refine Go.runR (callT_mono MT _) [11] 200 hR ?_
  refine And.intro (fun c14 => ?_) (fun c14 => ?_)
  · try dsimp only at c14
    obtain rfl := lq_e c14 q2 rfl hk (by omega)
    have sl := siL D k
    have p12 := p12 k (by omega)
    refine m_M_part (by repeat' (first | exact hR | apply OKR.pI | apply OKR.pL | apply OKR.cpI | apply OKR.wI)) (u := (siN D k).2 - (siN D k).1) (w := (siN D k).2) (lN_sub sl.1) rfl (by omega) sl.2.1 (by omega) (And.intro (by repeat' (first | exact hR | apply OKR.pI | apply OKR.pL | apply OKR.cpI | apply OKR.wI)) ?_)
    refine And.intro trivial ?_
    exact h
  · try dsimp only at c14
    have hk2 := lq_m c14 q2 rfl hk (by omega)
    have e0 : (nI k).toNatClampNeg = k := nI_clamp (by omega)
    have key : ∀ a b, a = lN (siN D (k + 1)).1 → b = lN (siN D (k + 1)).2 → Go (cW (d + 2)) i_M_sings (0, 0) K 11 [vo 1 0 0, vl a, vu, vl b, vu, vi (nI k + 1)] [] m 0 0 := fun a b z1 z2 => go_eq (by rw [z1, z2, ← nI_succ]) rfl (l_M_sings hS h (k + 1) hk2)
    rw [sis] at key
    have hh := hS.hs hk2
    have l9 := hh.2.2.1
    have k6 := hh.2.1
    refine And.intro ⟨rfl, rfl, rfl⟩ ?_
    refine And.intro (vp_nI (k := k) (N := 16) (by omega) (by decide)) ?_
    refine And.intro (fun c20 => ?_) (fun c20 => ?_)
    · try dsimp only at c20
      rw [e0] at c20
      first
      | (have z : dK D k = 4 := nI_in1 (by omega) (by omega) (hh.2.2.2.2.2.2.2.2.2.1.symm.trans c20)
         rw [if_pos z] at key
         exact key _ _ rfl rfl)
      | (have z : ¬ dK D k = 4 := fun y => c20 (hh.2.2.2.2.2.2.2.2.2.1.trans (by rw [y]; rfl))
         rw [if_neg z] at key
         refine key _ _ ?_ (lN_mul _ 12)
         show lN (siN D k).1 * (12 - gI m (1, 8, 0) (nI k).toNatClampNeg).toInt64 = _
         rw [e0, hh.2.2.2.2.2.2.2.2.2.2.1, show (12 : Int32) = nI 12 from rfl, pk_sub (by omega), nI_l (by omega), lN_mul])
    · try dsimp only at c20
      rw [e0] at c20
      refine And.intro ⟨rfl, rfl, rfl⟩ ?_
      refine And.intro (vp_nI (k := k) (N := 16) (by omega) (by decide)) ?_
      first
      | (have z : dK D k = 4 := nI_in1 (by omega) (by omega) (hh.2.2.2.2.2.2.2.2.2.1.symm.trans c20)
         rw [if_pos z] at key
         exact key _ _ rfl rfl)
      | (have z : ¬ dK D k = 4 := fun y => c20 (hh.2.2.2.2.2.2.2.2.2.1.trans (by rw [y]; rfl))
         rw [if_neg z] at key
         refine key _ _ ?_ (lN_mul _ 12)
         show lN (siN D k).1 * (12 - gI m (1, 8, 0) (nI k).toNatClampNeg).toInt64 = _
         rw [e0, hh.2.2.2.2.2.2.2.2.2.2.1, show (12 : Int32) = nI 12 from rfl, pk_sub (by omega), nI_l (by omega), lN_mul])
termination_by n - k
decreasing_by all_goals omega

theorem p_sings {d : Nat} {m : Mem} {K : Option Vv → Option Vv → Mem → Prop} (R : RelAB m) (h : ∀ v m', RelAB m' → K v v m') : cW (d + 6) n_X_sings [vo 0 0 0] m (fun u m1 => cW (d + 6) n_M_sings [vo 1 0 0] m1 (fun w m2 => K u w m2)) := by
  have hR := R.1
  obtain ⟨n, hc⟩ := R.2.2.2.2
  obtain ⟨D, hS⟩ := hc.sc hR
  have ht := R.2.2.2.1
  obtain ⟨q1, q2⟩ := hc.many
  have h8 := hc.le
  rcases Nat.eq_zero_or_pos n with z | z
  · subst z
    refine w_X_sings (Go.runR (callT_mono MT _) [12] 200 (by repeat' (first | exact hR | exact g1.ok | exact g2.ok | exact g3.ok | apply OKR.pI | apply OKR.pL | apply OKR.cpI | apply OKR.wI)) ?_)
    refine And.intro ⟨(by first | decide | assumption | omega), (by first | decide | assumption | omega)⟩ ?_
    refine And.intro (fun c3 => ?_) (fun c3 => ?_)
    · try dsimp only at c3
      refine And.intro trivial ?_
      refine w_M_sings (Go.runR (callT_mono MT _) [11] 200 (by repeat' (first | exact hR | exact g1.ok | exact g2.ok | exact g3.ok | apply OKR.pI | apply OKR.pL | apply OKR.cpI | apply OKR.wI)) ?_)
      refine And.intro (fun c2 => ?_) (fun c2 => ?_)
      · try dsimp only at c2
        refine And.intro trivial ?_
        exact h _ _ R
      · exact absurd q2 c2
    · exact absurd q1 c3
  · refine w_X_sings (Go.runR (callT_mono MT _) [12] 200 (by repeat' (first | exact hR | exact g1.ok | exact g2.ok | exact g3.ok | apply OKR.pI | apply OKR.pL | apply OKR.cpI | apply OKR.wI)) ?_)
    refine And.intro ⟨(by first | decide | assumption | omega), (by first | decide | assumption | omega)⟩ ?_
    refine And.intro (fun c3 => ?_) (fun c3 => ?_)
    · exact absurd (q1.symm.trans c3) (sz0 z (by omega))
    · try dsimp only at c3
      refine go_eq (ls' := [vo 0 0 0, vl (lN (siN D 0).1), vu, vl (lN (siN D 0).2), vu, vi (nI 0)]) rfl rfl (l_X_sings hS ?_ 0 (Nat.zero_le _))
      refine w_M_sings (Go.runR (callT_mono MT _) [11] 200 hS.frA.ok ?_)
      refine And.intro (fun c2 => ?_) (fun c2 => ?_)
      · exact absurd (q2.symm.trans c2) (sz0 z (by omega))
      · try dsimp only at c2
        exact go_eq (ls' := [vo 1 0 0, vl (lN (siN D 0).1), vu, vl (lN (siN D 0).2), vu, vi (nI 0)]) rfl rfl (l_M_sings hS.frA (h _ _ (R.frac _ _)) 0 (Nat.zero_le _))

theorem CurR.hrs {n : Nat} {m : Mem} (H : CurR n m) : ∃ T, T ≤ 40 ∧ gI m (0, 5, 0) 4 = nI T ∧ gI m (1, 0, 0) 20 = nI T ∧ ∀ t, t < T → HrR n t (fun c => gI m (1, 12, 0) (12 * t + c)) m := by
  obtain ⟨-, -, h0, h1⟩ := H
  rcases Nat.eq_zero_or_pos n with z | z
  · exact ⟨0, by omega, (h0 z).2.1, (h0 z).2.2.1, fun t ht => absurd ht (by omega)⟩
  · obtain ⟨-, ⟨T, s1, s2⟩, -⟩ := h1 z
    obtain ⟨-, a, b, -, -, -, -, -, c⟩ := s2
    exact ⟨T, b, a, s1, fun t ht => by have := c t ht; rw [show 40 * 0 + t = t by omega] at this; exact this⟩
theorem pk12 (a : Nat) : (12 : Int32) * nI a = nI (12 * a) := by rw [show (12 : Int32) = nI 12 from rfl, pk_mul]

theorem p_loud {d : Nat} {m : Mem} {K : Option Vv → Option Vv → Mem → Prop} (R : RelAB m) {t : Int32} (h : ∀ v m', RelAB m' → K v v m') : cW (d + 4) n_X_loud [vo 0 0 0, vi t] m (fun u m1 => cW (d + 4) n_M_loud [vo 1 0 0, vi t] m1 (fun w m2 => K u w m2)) := by
  have hR := R.1
  obtain ⟨n, hc⟩ := R.2.2.2.2
  obtain ⟨D, hS⟩ := hc.sc hR
  have ht := R.2.2.2.1
  obtain ⟨q1, q2⟩ := hc.many
  have h8 := hc.le
  obtain ⟨T, hT, t1, t2, t3⟩ := hc.hrs
  by_cases q0 : 0 ≤ t
  · obtain ⟨j, hj, rfl⟩ := nI_of (Int32.not_lt.mpr q0)
    by_cases q : j < T
    · have e0 : (nI j).toNatClampNeg = j := nI_clamp (by omega)
      have hh := t3 j q
      refine w_X_loud (Go.runR (callT_mono MT _) [] 200 (by repeat' (first | exact hR | exact g1.ok | exact g2.ok | exact g3.ok | apply OKR.pI | apply OKR.pL | apply OKR.cpI | apply OKR.wI)) ?_)
      refine And.intro (fun c1 => ?_) (fun c1 => ?_)
      · try dsimp only at c1
        refine And.intro ⟨(by first | decide | assumption | omega), (by first | decide | assumption | omega)⟩ ?_
        refine And.intro (fun c8 => ?_) (fun c8 => ?_)
        · try dsimp only at c8
          refine And.intro ⟨(by first | decide | assumption | omega), (by first | decide | assumption | omega)⟩ ?_
          refine And.intro ⟨(by first | decide | assumption | omega), (by first | decide | assumption | omega)⟩ ?_
          refine And.intro ⟨(vp_nI (k := j) (N := 40) (by omega) (by decide)), ⟨(by decide), by rw [e0]; omega⟩⟩ ?_
          refine And.intro ⟨(by first | decide | assumption | omega), (by first | decide | assumption | omega)⟩ ?_
          refine And.intro ⟨(by first | decide | assumption | omega), (by first | decide | assumption | omega)⟩ ?_
          refine And.intro ⟨(vp_nI (k := j) (N := 40) (by omega) (by decide)), ⟨(by decide), by rw [e0]; omega⟩⟩ ?_
          refine m_X_tell (by repeat' (first | exact hR | exact g1.ok | exact g2.ok | exact g3.ok | apply OKR.pI | apply OKR.pL | apply OKR.cpI | apply OKR.wI))  (And.intro (by repeat' (first | exact hR | exact g1.ok | exact g2.ok | exact g3.ok | apply OKR.pI | apply OKR.pL | apply OKR.cpI | apply OKR.wI)) ?_)
          refine And.intro trivial ?_
          refine w_M_loud (Go.runR (callT_mono MT _) [] 200 (by repeat' (first | exact hR | exact g1.ok | exact g2.ok | exact g3.ok | apply OKR.pI | apply OKR.pL | apply OKR.cpI | apply OKR.wI)) ?_)
          refine And.intro (fun c1 => ?_) (fun c1 => ?_)
          · try dsimp only at c1
            refine And.intro (fun c7 => ?_) (fun c7 => ?_)
            · exact absurd c7 (by show ¬ gI m (1, 0, 0) 20 ≤ nI j; rw [t2]; exact nI_ge q (by omega))
            · try dsimp only at c7
              refine And.intro ⟨rfl, rfl, rfl⟩ ?_
              refine And.intro (by show vp_in (12 * nI j + 1) 480; rw [pk12, nI_1]; exact vp_nI (by omega) (by decide)) ?_
              refine And.intro ⟨rfl, rfl, rfl⟩ ?_
              refine And.intro (by show vp_in (12 * nI j) 480; rw [pk12]; exact vp_nI (by omega) (by decide)) ?_
              refine m_M_ask (by repeat' (first | exact hR | exact g1.ok | exact g2.ok | exact g3.ok | apply OKR.pI | apply OKR.pL | apply OKR.cpI | apply OKR.wI))  (And.intro (by repeat' (first | exact hR | exact g1.ok | exact g2.ok | exact g3.ok | apply OKR.pI | apply OKR.pL | apply OKR.cpI | apply OKR.wI)) ?_)
              refine And.intro trivial ?_
              show K (some (vi (gI m (0, 10, 40 * 0 + (nI j).toNatClampNeg) 1))) (some (vi (gI m (1, 12, 0) (12 * nI j).toNatClampNeg))) (askM (tellM m (gI m (0, 10, 40 * 0 + (nI j).toNatClampNeg) 2)) (gI m (1, 12, 0) (12 * nI j + 1).toNatClampNeg))
              rw [pk12, nI_1, nI_clamp (n := 12 * j) (by omega), nI_clamp (n := 12 * j + 1) (by omega), e0, show 40 * 0 + j = j by omega, hh.1, hh.2.1]
              exact h _ _ (R.tell _)
          · exact absurd q0 c1
        · exact absurd (by show nI j < gI m (0, 5, 0) 4; rw [t1]; exact nI_lt q (by omega)) c8
      · exact absurd q0 c1
    · refine w_X_loud (Go.runR (callT_mono MT _) [] 200 (by repeat' (first | exact hR | exact g1.ok | exact g2.ok | exact g3.ok | apply OKR.pI | apply OKR.pL | apply OKR.cpI | apply OKR.wI)) ?_)
      refine And.intro (fun c1 => ?_) (fun c1 => ?_)
      · try dsimp only at c1
        refine And.intro ⟨(by first | decide | assumption | omega), (by first | decide | assumption | omega)⟩ ?_
        refine And.intro (fun c8 => ?_) (fun c8 => ?_)
        · exact absurd c8 (by show ¬ nI j < gI m (0, 5, 0) 4; rw [t1]; exact nI_nlt (by omega) hj)
        · try dsimp only at c8
          refine m_X_found2 (by repeat' (first | exact hR | exact g1.ok | exact g2.ok | exact g3.ok | apply OKR.pI | apply OKR.pL | apply OKR.cpI | apply OKR.wI))  (And.intro (by repeat' (first | exact hR | exact g1.ok | exact g2.ok | exact g3.ok | apply OKR.pI | apply OKR.pL | apply OKR.cpI | apply OKR.wI)) ?_)
          refine And.intro trivial ?_
          refine w_M_loud (Go.runR (callT_mono MT _) [] 200 (by repeat' (first | exact hR | exact g1.ok | exact g2.ok | exact g3.ok | apply OKR.pI | apply OKR.pL | apply OKR.cpI | apply OKR.wI)) ?_)
          refine And.intro (fun c1 => ?_) (fun c1 => ?_)
          · try dsimp only at c1
            refine And.intro (fun c7 => ?_) (fun c7 => ?_)
            · try dsimp only at c7
              refine m_M_meet2 (by repeat' (first | exact hR | exact g1.ok | exact g2.ok | exact g3.ok | apply OKR.pI | apply OKR.pL | apply OKR.cpI | apply OKR.wI))  (And.intro (by repeat' (first | exact hR | exact g1.ok | exact g2.ok | exact g3.ok | apply OKR.pI | apply OKR.pL | apply OKR.cpI | apply OKR.wI)) ?_)
              refine And.intro trivial ?_
              exact h _ _ (R.meet (by omega) (by omega))
            · exact absurd (by show gI m (1, 0, 0) 20 ≤ nI j; rw [t2]; exact nI_le (by omega) hj) c7
          · exact absurd q0 c1
      · exact absurd q0 c1
  · refine w_X_loud (Go.runR (callT_mono MT _) [] 200 (by repeat' (first | exact hR | exact g1.ok | exact g2.ok | exact g3.ok | apply OKR.pI | apply OKR.pL | apply OKR.cpI | apply OKR.wI)) ?_)
    refine And.intro (fun c1 => ?_) (fun c1 => ?_)
    · exact absurd c1 q0
    · try dsimp only at c1
      refine And.intro trivial ?_
      refine w_M_loud (Go.runR (callT_mono MT _) [] 200 (by repeat' (first | exact hR | exact g1.ok | exact g2.ok | exact g3.ok | apply OKR.pI | apply OKR.pL | apply OKR.cpI | apply OKR.wI)) ?_)
      refine And.intro (fun c1 => ?_) (fun c1 => ?_)
      · exact absurd c1 q0
      · try dsimp only at c1
        refine And.intro trivial ?_
        exact h _ _ R

def nxL (L : Nat) : Nat := 48271 * L % 2147483647
theorem nxL_lt (L : Nat) : nxL L < 2147483647 := Nat.mod_lt _ (by decide)
def crF (D : SDt) (i : Nat) (p : Nat × Nat) : Nat × Nat := if dK D i = 4 then p else (nxL p.1, p.2 + if nxL p.1 % 12 < dL D i then 1 else 0)
def crN (D : SDt) (L k : Nat) : Nat × Nat := itr (crF D) (L, 0) k
theorem crs (D : SDt) (L k : Nat) : crN D L (k + 1) = if dK D k = 4 then crN D L k else (nxL (crN D L k).1, (crN D L k).2 + if nxL (crN D L k).1 % 12 < dL D k then 1 else 0) := rfl
theorem crL (D : SDt) (L : Nat) (hL : L < 2147483647) : ∀ k, (crN D L k).1 < 2147483647 ∧ (crN D L k).2 ≤ k
  | 0 => ⟨hL, Nat.le_refl _⟩
  | k + 1 => by
    obtain ⟨a, b⟩ := crL D L hL k
    rw [crs]
    split
    · exact ⟨a, by omega⟩
    · refine ⟨nxL_lt _, ?_⟩
      show (crN D L k).2 + _ ≤ k + 1
      split <;> omega
def onF (n : Nat) (D : SDt) (k : Nat) (p : Nat × Nat × Nat × Nat) : Nat × Nat × Nat × Nat := ((crN D p.1 n).1, p.2.1 + (crN D p.1 n).2, if p.2.2.1 < (crN D p.1 n).2 then (crN D p.1 n).2 else p.2.2.1, if p.2.2.1 < (crN D p.1 n).2 then k else p.2.2.2)
def onN (n : Nat) (D : SDt) (L k : Nat) : Nat × Nat × Nat × Nat := itr (onF n D) (L, 0, 0, 0) k
theorem ons (n : Nat) (D : SDt) (L k : Nat) : onN n D L (k + 1) = onF n D k (onN n D L k) := rfl
theorem onL (n : Nat) (D : SDt) (L : Nat) (hL : L < 2147483647) : ∀ k, (onN n D L k).1 < 2147483647 ∧ (onN n D L k).2.2.1 ≤ n ∧ (k = 0 → (onN n D L k).2.2.1 = 0 ∧ (onN n D L k).2.2.2 = 0)
  | 0 => ⟨hL, Nat.zero_le _, fun _ => ⟨rfl, rfl⟩⟩
  | k + 1 => by
    obtain ⟨a, b, -⟩ := onL n D L hL k
    have c := crL D (onN n D L k).1 a n
    rw [ons]
    unfold onF
    refine ⟨c.1, ?_, fun h => absurd h (by omega)⟩
    dsimp only
    split
    · exact c.2
    · exact b
theorem lot_e {L : Nat} (hL : L < 2147483647) : lN 48271 * (nI L).toInt64 - lN 48271 * (nI L).toInt64 / lN 2147483647 * lN 2147483647 = lN (nxL L) := by
  rw [nI_l (by omega), lN_mul, pk_lRem (by omega) (by decide) (by decide)]
  rfl
theorem lot_e2 {L : Nat} (hL : L < 2147483647) : lN 48271 * lN L - lN 48271 * lN L / lN 2147483647 * lN 2147483647 = lN (nxL L) := by
  rw [lN_mul, pk_lRem (by omega) (by decide) (by decide)]
  rfl

theorem m_X_lotBehind {d : Nat} {m : Mem} {K : Option Vv → Mem → Prop} {v : Int32} {L : Nat} (hR : OKR m) (hv : v = nI L) (hL : L < 2147483647) (h : K (some (vi (nI (nxL L)))) m) : cW (d + 1) n_X_lotBehind [vi v] m K := by
  subst hv
  refine w_X_lotBehind (Go.runR (callT_mono MT _) [] 200 hR ?_)
  refine And.intro (by decide) ?_
  refine And.intro trivial ?_
  refine kvi ?_ h
  show (lN 48271 * (nI L).toInt64 - lN 48271 * (nI L).toInt64 / lN 2147483647 * lN 2147483647).toInt32 = _
  rw [lot_e hL, lN_i]

theorem l_X_crickets35 {d n : Nat} {D : SDt} {m : Mem} {K : Option Vv → Mem → Prop} {L : Nat} {z1 z3 z4 z5 : Vv} {w2 w6 : Int32} (hS : SC n D m) (hL : L < 2147483647) (h : Go (cW (d + 1)) i_X_crickets (0, 0) K 68 [vo 0 0 0, z1, vi w2, vi (nI (crN D L n).1), z3, z4, z5, vi w6, vi (nI (crN D L n).2), vi (nI n)] [] m 0 0) (k : Nat) (hk : k ≤ n) : Go (cW (d + 1)) i_X_crickets (0, 0) K 35 [vo 0 0 0, z1, vi w2, vi (nI (crN D L k).1), z3, z4, z5, vi w6, vi (nI (crN D L k).2), vi (nI k)] [] m 0 0 := by
  have hR := hS.ok
  have h8 := hS.le
  have q1 := hS.nA
  have cl := crL D L hL k
  refine Go.runR (callT_mono MT _) [35, 68] 200 hR ?_
  refine And.intro ⟨(by first | decide | assumption | omega), (by first | decide | assumption | omega)⟩ ?_
  refine And.intro (fun c39 => ?_) (fun c39 => ?_)
  · try dsimp only at c39
    obtain rfl := lq_e c39 q1 rfl hk (by omega)
    exact h
  · try dsimp only at c39
    have hk2 := lq_m c39 q1 rfl hk (by omega)
    have e0 : (nI k).toNatClampNeg = k := nI_clamp (by omega)
    have hh := hS.hs hk2
    have l9 := hh.2.2.1
    have nl := nxL_lt (crN D L k).1
    have key : ∀ a b, a = nI (crN D L (k + 1)).1 → b = nI (crN D L (k + 1)).2 → Go (cW (d + 1)) i_X_crickets (0, 0) K 35 [vo 0 0 0, z1, vi w2, vi a, z3, z4, z5, vi w6, vi b, vi (nI k + 1)] [] m 0 0 := fun a b y1 y2 => go_eq (ls' := [vo 0 0 0, z1, vi w2, vi (nI (crN D L (k + 1)).1), z3, z4, z5, vi w6, vi (nI (crN D L (k + 1)).2), vi (nI (k + 1))]) (by rw [y1, y2, ← nI_succ]) rfl (l_X_crickets35 hS hL h (k + 1) hk2)
    rw [crs] at key
    have rem : nI (nxL (crN D L k).1) - nI (nxL (crN D L k).1) / 12 * 12 = nI (nxL (crN D L k).1 % 12) := pk_rem (d := 12) (by omega) (by decide) (by decide)
    have i1 : nI (dL D k) ≤ nI (nxL (crN D L k).1 % 12) ↔ dL D k ≤ nxL (crN D L k).1 % 12 := nI_leI (by omega) (by omega)
    refine And.intro ⟨(by first | decide | assumption | omega), (by first | decide | assumption | omega)⟩ ?_
    refine And.intro ⟨(by first | decide | assumption | omega), (by first | decide | assumption | omega)⟩ ?_
    refine And.intro ⟨(vp_nI (k := k) (N := 8) (by omega) (by decide)), ⟨(by decide), by rw [e0]; omega⟩⟩ ?_
    refine m_Ho_isMute (by exact hS) (i := k) (by rw [e0]; omega) hk2 (And.intro (by repeat' (first | exact hR | apply OKR.pI | apply OKR.pL | apply OKR.cpI | apply OKR.wI)) ?_)
    refine And.intro (fun c46 => ?_) (fun c46 => ?_)
    · try dsimp only at c46
      refine m_X_lotBehind (by repeat' (first | exact hR | apply OKR.pI | apply OKR.pL | apply OKR.cpI | apply OKR.wI)) rfl cl.1 (And.intro (by repeat' (first | exact hR | apply OKR.pI | apply OKR.pL | apply OKR.cpI | apply OKR.wI)) ?_)
      refine And.intro (by decide) ?_
      refine And.intro ⟨(by first | decide | assumption | omega), (by first | decide | assumption | omega)⟩ ?_
      refine And.intro ⟨(by first | decide | assumption | omega), (by first | decide | assumption | omega)⟩ ?_
      refine And.intro ⟨(vp_nI (k := k) (N := 8) (by omega) (by decide)), ⟨(by decide), by rw [e0]; omega⟩⟩ ?_
      refine And.intro (fun c60 => ?_) (fun c60 => ?_)
      · try dsimp only at c60
        rw [e0, show 8 * 0 + k = k by omega, hh.2.2.2.2.2.1, rem] at c60
        have c60 := i1.mp c60
        rw [if_neg (mute_e c46), if_neg (by omega : ¬ nxL (crN D L k).1 % 12 < dL D k)] at key
        dsimp only at key
        first
        | exact key _ _ rfl rfl
        | exact key _ _ rfl (nI_1 _)
        | exact key _ _ rfl (i_add0 _)
      · try dsimp only at c60
        rw [e0, show 8 * 0 + k = k by omega, hh.2.2.2.2.2.1, rem] at c60
        have c60 := mt i1.mpr c60
        rw [if_neg (mute_e c46), if_pos (by omega : nxL (crN D L k).1 % 12 < dL D k)] at key
        dsimp only at key
        first
        | exact key _ _ rfl rfl
        | exact key _ _ rfl (nI_1 _)
        | exact key _ _ rfl (i_add0 _)
    · try dsimp only at c46
      rw [if_pos (mute_n c46)] at key
      first
      | exact key _ _ rfl rfl
      | exact key _ _ rfl (nI_1 _)
      | exact key _ _ rfl (i_add0 _)
termination_by n - k
decreasing_by all_goals omega

theorem l_X_crickets28 {d n N : Nat} {D : SDt} {m : Mem} {K : Option Vv → Mem → Prop} {L : Nat} {w2 : Int32} (hS : SC n D m) (hL : L < 2147483647) (hN : N ≤ 60) (h : K (some (vi (nI (onN n D L N).2.1))) (tellM m (nI (onN n D L N).2.2.2))) (k : Nat) (x y : Vv) (hk : k ≤ N) : Go (cW (d + 2)) i_X_crickets (0, 0) K 28 [vo 0 0 0, vi (nI N), vi w2, vi (nI (onN n D L k).1), vi (nI (onN n D L k).2.1), vi (nI (onN n D L k).2.2.1), vi (nI (onN n D L k).2.2.2), vi (nI k), x, y] [] m 0 0 := by
  have hR := hS.ok
  have h8 := hS.le
  have ol := onL n D L hL k
  refine Go.runR (callT_mono MT _) [28, 35] 200 hR ?_
  refine And.intro (fun c30 => ?_) (fun c30 => ?_)
  · try dsimp only at c30
    obtain rfl := lq_e c30 rfl rfl hk (by omega)
    refine m_X_tell (by repeat' (first | exact hR | apply OKR.pI | apply OKR.pL | apply OKR.cpI | apply OKR.wI))  (And.intro (by repeat' (first | exact hR | apply OKR.pI | apply OKR.pL | apply OKR.cpI | apply OKR.wI)) ?_)
    refine And.intro trivial ?_
    exact h
  · try dsimp only at c30
    have hk2 := lq_m c30 rfl rfl hk (by omega)
    refine go_eq (ls' := [vo 0 0 0, vi (nI N), vi w2, vi (nI (crN D (onN n D L k).1 0).1), vi (nI (onN n D L k).2.1), vi (nI (onN n D L k).2.2.1), vi (nI (onN n D L k).2.2.2), vi (nI k), vi (nI (crN D (onN n D L k).1 0).2), vi (nI 0)]) rfl rfl (l_X_crickets35 (d := d + 1) hS ol.1 ?_ 0 (Nat.zero_le _))
    have cl := crL D (onN n D L k).1 ol.1 n
    have i1 : nI (crN D (onN n D L k).1 n).2 ≤ nI (onN n D L k).2.2.1 ↔ (crN D (onN n D L k).1 n).2 ≤ (onN n D L k).2.2.1 := nI_leI (by omega) (by omega)
    have key : ∀ a b c x y, a = nI (onN n D L (k + 1)).2.1 → b = nI (onN n D L (k + 1)).2.2.1 → c = nI (onN n D L (k + 1)).2.2.2 → Go (cW (d + 2)) i_X_crickets (0, 0) K 28 [vo 0 0 0, vi (nI N), vi w2, vi (nI (onN n D L (k + 1)).1), vi a, vi b, vi c, vi (nI k + 1), x, y] [] m 0 0 := fun a b c x y y1 y2 y3 => go_eq (ls' := [vo 0 0 0, vi (nI N), vi w2, vi (nI (onN n D L (k + 1)).1), vi (nI (onN n D L (k + 1)).2.1), vi (nI (onN n D L (k + 1)).2.2.1), vi (nI (onN n D L (k + 1)).2.2.2), vi (nI (k + 1)), x, y]) (by rw [y1, y2, y3, ← nI_succ]) rfl (l_X_crickets28 hS hL hN h (k + 1) x y hk2)
    rw [ons] at key
    unfold onF at key
    dsimp only at key
    refine Go.runR (callT_mono MT _) [28] 200 hR ?_
    refine And.intro (fun c74 => ?_) (fun c74 => ?_)
    · try dsimp only at c74
      have c74 := i1.mp c74
      rw [if_neg (by omega), if_neg (by omega)] at key
      exact key _ _ _ _ _ (nI_add _ _) rfl rfl
    · try dsimp only at c74
      have c74 := mt i1.mpr c74
      rw [if_pos (by omega), if_pos (by omega)] at key
      exact key _ _ _ _ _ (nI_add _ _) rfl rfl
termination_by N - k
decreasing_by all_goals omega

theorem l_M_crickets35 {d n : Nat} {D : SDt} {m : Mem} {K : Option Vv → Mem → Prop} {L : Nat} {z1 z3 z4 z5 : Vv} {w2 w6 : Int32} (hS : SC n D m) (hL : L < 2147483647) (h : Go (cW d) i_M_crickets (0, 0) K 69 [vo 1 0 0, z1, vi w2, vl (lN (crN D L n).1), vu, z3, z4, z5, vi w6, vi (nI (crN D L n).2), vi (nI n)] [] m 0 0) (k : Nat) (hk : k ≤ n) : Go (cW d) i_M_crickets (0, 0) K 35 [vo 1 0 0, z1, vi w2, vl (lN (crN D L k).1), vu, z3, z4, z5, vi w6, vi (nI (crN D L k).2), vi (nI k)] [] m 0 0 := by
  have hR := hS.ok
  have h8 := hS.le
  have q2 := hS.nB
  have cl := crL D L hL k
  refine Go.runR (callT_mono MT _) [35, 69] 200 hR ?_
  refine And.intro (fun c38 => ?_) (fun c38 => ?_)
  · try dsimp only at c38
    obtain rfl := lq_e c38 q2 rfl hk (by omega)
    exact h
  · try dsimp only at c38
    have hk2 := lq_m c38 q2 rfl hk (by omega)
    have e0 : (nI k).toNatClampNeg = k := nI_clamp (by omega)
    have hh := hS.hs hk2
    have l9 := hh.2.2.1
    have k6 := hh.2.1
    have nl := nxL_lt (crN D L k).1
    have kd : gI m (1, 7, 0) (nI k).toNatClampNeg = nI (dK D k) := by rw [e0]; exact hh.2.2.2.2.2.2.2.2.2.1
    have ld : gI m (1, 8, 0) (nI k).toNatClampNeg = nI (dL D k) := by rw [e0]; exact hh.2.2.2.2.2.2.2.2.2.2.1
    have le2 := lot_e2 cl.1
    have key : ∀ a b, a = lN (crN D L (k + 1)).1 → b = nI (crN D L (k + 1)).2 → Go (cW d) i_M_crickets (0, 0) K 35 [vo 1 0 0, z1, vi w2, vl a, vu, z3, z4, z5, vi w6, vi b, vi (nI k + 1)] [] m 0 0 := fun a b y1 y2 => go_eq (ls' := [vo 1 0 0, z1, vi w2, vl (lN (crN D L (k + 1)).1), vu, z3, z4, z5, vi w6, vi (nI (crN D L (k + 1)).2), vi (nI (k + 1))]) (by rw [y1, y2, ← nI_succ]) rfl (l_M_crickets35 hS hL h (k + 1) hk2)
    rw [crs] at key
    have rem : lN (nxL (crN D L k).1) - lN (nxL (crN D L k).1) / lN 12 * lN 12 = lN (nxL (crN D L k).1 % 12) := pk_lRem (by omega) (by decide) (by decide)
    have i1 : 0 ≤ lg_cmp (lN (nxL (crN D L k).1 % 12)) (nI (dL D k)).toInt64 ↔ dL D k ≤ nxL (crN D L k).1 % 12 := by rw [lg_cmp_ge, nI_l (by omega)]; exact lN_le (by omega) (by omega)
    refine And.intro ⟨rfl, rfl, rfl⟩ ?_
    refine And.intro (vp_nI (k := k) (N := 16) (by omega) (by decide)) ?_
    refine And.intro (fun c44 => ?_) (fun c44 => ?_)
    · try dsimp only at c44
      have z : dK D k = 4 := nI_in1 (by omega) (by omega) (kd.symm.trans c44)
      rw [if_pos z] at key
      first
      | exact key _ _ rfl rfl
      | exact key _ _ le2 (nI_1 _)
      | exact key _ _ le2 (i_add0 _)
    · try dsimp only at c44
      have z : ¬ dK D k = 4 := fun y => c44 (kd.trans (by rw [y]; rfl))
      refine And.intro (by decide) ?_
      refine And.intro (by decide) ?_
      refine And.intro ⟨rfl, rfl, rfl⟩ ?_
      refine And.intro (vp_nI (k := k) (N := 16) (by omega) (by decide)) ?_
      refine And.intro (fun c61 => ?_) (fun c61 => ?_)
      · try dsimp only at c61
        have c61 : 0 ≤ lg_cmp ((lN 48271 * lN (crN D L k).1 - lN 48271 * lN (crN D L k).1 / lN 2147483647 * lN 2147483647) - (lN 48271 * lN (crN D L k).1 - lN 48271 * lN (crN D L k).1 / lN 2147483647 * lN 2147483647) / lN 12 * lN 12) (gI m (1, 8, 0) (nI k).toNatClampNeg).toInt64 := c61
        rw [le2, rem, ld] at c61
        have c61 := i1.mp c61
        rw [if_neg z, if_neg (by omega : ¬ nxL (crN D L k).1 % 12 < dL D k)] at key
        dsimp only at key
        first
        | exact key _ _ rfl rfl
        | exact key _ _ le2 (nI_1 _)
        | exact key _ _ le2 (i_add0 _)
      · try dsimp only at c61
        have c61 : ¬ 0 ≤ lg_cmp ((lN 48271 * lN (crN D L k).1 - lN 48271 * lN (crN D L k).1 / lN 2147483647 * lN 2147483647) - (lN 48271 * lN (crN D L k).1 - lN 48271 * lN (crN D L k).1 / lN 2147483647 * lN 2147483647) / lN 12 * lN 12) (gI m (1, 8, 0) (nI k).toNatClampNeg).toInt64 := c61
        rw [le2, rem, ld] at c61
        have c61 := mt i1.mpr c61
        rw [if_neg z, if_pos (by omega : nxL (crN D L k).1 % 12 < dL D k)] at key
        dsimp only at key
        first
        | exact key _ _ rfl rfl
        | exact key _ _ le2 (nI_1 _)
        | exact key _ _ le2 (i_add0 _)
termination_by n - k
decreasing_by all_goals omega

theorem l_M_crickets28 {d n N : Nat} {D : SDt} {m : Mem} {K : Option Vv → Mem → Prop} {L : Nat} {w2 : Int32} (hS : SC n D m) (hL : L < 2147483647) (hN : N ≤ 60) (h : K (some (vi (nI (onN n D L N).2.1))) (askM m (nI (onN n D L N).2.2.2))) (k : Nat) (x y : Vv) (c7 : Int32) (hk : k ≤ N) (h7 : (k = 0 ∧ c7 = -1) ∨ (0 < k ∧ c7 = nI (onN n D L k).2.2.1)) : Go (cW (d + 2)) i_M_crickets (0, 0) K 28 [vo 1 0 0, vi (nI N), vi w2, vl (lN (onN n D L k).1), vu, vi (nI (onN n D L k).2.1), vi (nI (onN n D L k).2.2.2), vi c7, vi (nI k), x, y] [] m 0 0 := by
  have hR := hS.ok
  have h8 := hS.le
  have ol := onL n D L hL k
  refine Go.runR (callT_mono MT _) [28, 35] 200 hR ?_
  refine And.intro (fun c30 => ?_) (fun c30 => ?_)
  · try dsimp only at c30
    obtain rfl := lq_e c30 rfl rfl hk (by omega)
    refine m_M_ask (by repeat' (first | exact hR | apply OKR.pI | apply OKR.pL | apply OKR.cpI | apply OKR.wI))  (And.intro (by repeat' (first | exact hR | apply OKR.pI | apply OKR.pL | apply OKR.cpI | apply OKR.wI)) ?_)
    refine And.intro trivial ?_
    exact h
  · try dsimp only at c30
    have hk2 := lq_m c30 rfl rfl hk (by omega)
    refine go_eq (ls' := [vo 1 0 0, vi (nI N), vi w2, vl (lN (crN D (onN n D L k).1 0).1), vu, vi (nI (onN n D L k).2.1), vi (nI (onN n D L k).2.2.2), vi c7, vi (nI k), vi (nI (crN D (onN n D L k).1 0).2), vi (nI 0)]) rfl rfl (l_M_crickets35 (d := d + 2) hS ol.1 ?_ 0 (Nat.zero_le _))
    have cl := crL D (onN n D L k).1 ol.1 n
    have i1 : nI (crN D (onN n D L k).1 n).2 ≤ nI (onN n D L k).2.2.1 ↔ (crN D (onN n D L k).1 n).2 ≤ (onN n D L k).2.2.1 := nI_leI (by omega) (by omega)
    have key : ∀ a b c x y, a = nI (onN n D L (k + 1)).2.1 → b = nI (onN n D L (k + 1)).2.2.1 → c = nI (onN n D L (k + 1)).2.2.2 → Go (cW (d + 2)) i_M_crickets (0, 0) K 28 [vo 1 0 0, vi (nI N), vi w2, vl (lN (onN n D L (k + 1)).1), vu, vi a, vi c, vi b, vi (nI k + 1), x, y] [] m 0 0 := fun a b c x y y1 y2 y3 => go_eq (ls' := [vo 1 0 0, vi (nI N), vi w2, vl (lN (onN n D L (k + 1)).1), vu, vi (nI (onN n D L (k + 1)).2.1), vi (nI (onN n D L (k + 1)).2.2.2), vi b, vi (nI (k + 1)), x, y]) (by rw [y1, y3, ← nI_succ]) rfl (l_M_crickets28 hS hL hN h (k + 1) x y b hk2 (Or.inr ⟨by omega, y2⟩))
    rw [ons] at key
    unfold onF at key
    dsimp only at key
    refine Go.runR (callT_mono MT _) [28] 200 hR ?_
    rcases h7 with ⟨k0, rfl⟩ | ⟨k0, rfl⟩
    · have o0 := ol.2.2 k0
      rw [o0.1, o0.2, k0] at key
      rw [o0.2, k0]
      have ng : ¬ nI (crN D (onN n D L k).1 n).2 ≤ -1 := fun z => by have := nI_pos' (n := (crN D (onN n D L k).1 n).2) (by omega); grind
      rw [k0] at ng
      refine And.intro (fun c75 => ?_) (fun c75 => ?_)
      · exact absurd c75 ng
      · try dsimp only at c75
        refine And.intro (fun c82 => ?_) (fun c82 => ?_)
        · exact absurd c82 ng
        · try dsimp only at c82
          refine key _ _ _ _ _ (nI_add _ _) ?_ ?_
          · split
            · rfl
            · rw [show (crN D (onN n D L 0).1 n).2 = 0 by omega]
          · split <;> rfl
    · refine And.intro (fun c75 => ?_) (fun c75 => ?_)
      · try dsimp only at c75
        have c75 := i1.mp c75
        rw [if_neg (by omega), if_neg (by omega)] at key
        refine And.intro (fun c82 => ?_) (fun c82 => ?_)
        · try dsimp only at c82
          have c82 := i1.mp c82
          first | (exfalso; omega) | exact key _ _ _ _ _ (nI_add _ _) rfl rfl
        · try dsimp only at c82
          have c82 := mt i1.mpr c82
          first | (exfalso; omega) | exact key _ _ _ _ _ (nI_add _ _) rfl rfl
      · try dsimp only at c75
        have c75 := mt i1.mpr c75
        rw [if_pos (by omega), if_pos (by omega)] at key
        refine And.intro (fun c82 => ?_) (fun c82 => ?_)
        · try dsimp only at c82
          have c82 := i1.mp c82
          first | (exfalso; omega) | exact key _ _ _ _ _ (nI_add _ _) rfl rfl
        · try dsimp only at c82
          have c82 := mt i1.mpr c82
          first | (exfalso; omega) | exact key _ _ _ _ _ (nI_add _ _) rfl rfl
termination_by N - k
decreasing_by all_goals omega

theorem p_crickets {d : Nat} {m : Mem} {K : Option Vv → Option Vv → Mem → Prop} (R : RelAB m) {v w : Int32} (h : ∀ v m', RelAB m' → K v v m') : cW (d + 6) n_X_crickets [vo 0 0 0, vi v, vi w] m (fun u m1 => cW (d + 6) n_M_crickets [vo 1 0 0, vi v, vi w] m1 (fun w m2 => K u w m2)) := by
  have hR := R.1
  obtain ⟨n, hc⟩ := R.2.2.2.2
  obtain ⟨D, hS⟩ := hc.sc hR
  have ht := R.2.2.2.1
  obtain ⟨q1, q2⟩ := hc.many
  have h8 := hc.le
  by_cases q : 1 ≤ v ∧ v ≤ 60
  · by_cases qw : 1 ≤ w ∧ w ≤ 2147483646
    · rcases Nat.eq_zero_or_pos n with z | z
      · subst z
        refine w_X_crickets (Go.runR (callT_mono MT _) [28] 200 (by repeat' (first | exact hR | exact g1.ok | exact g2.ok | exact g3.ok | apply OKR.pI | apply OKR.pL | apply OKR.cpI | apply OKR.wI)) ?_)
        refine m_X_isWithin (by repeat' (first | exact hR | exact g1.ok | exact g2.ok | exact g3.ok | apply OKR.pI | apply OKR.pL | apply OKR.cpI | apply OKR.wI)) (And.intro (by repeat' (first | exact hR | exact g1.ok | exact g2.ok | exact g3.ok | apply OKR.pI | apply OKR.pL | apply OKR.cpI | apply OKR.wI)) ?_)
        rw [show b2 (1 ≤ v ∧ v ≤ 60) = 1 from if_pos q]
        refine And.intro (fun c4 => ?_) (fun c4 => ?_)
        · first | exact absurd c4 (by decide) | exact absurd (by decide) c4 | (exfalso; grind)
        · try dsimp only at c4
          refine m_X_isWithin (by repeat' (first | exact hR | exact g1.ok | exact g2.ok | exact g3.ok | apply OKR.pI | apply OKR.pL | apply OKR.cpI | apply OKR.wI)) (And.intro (by repeat' (first | exact hR | exact g1.ok | exact g2.ok | exact g3.ok | apply OKR.pI | apply OKR.pL | apply OKR.cpI | apply OKR.wI)) ?_)
          rw [show b2 (1 ≤ w ∧ w ≤ 2147483646) = 1 from if_pos qw]
          refine And.intro (fun c9 => ?_) (fun c9 => ?_)
          · first | exact absurd c9 (by decide) | exact absurd (by decide) c9 | (exfalso; grind)
          · try dsimp only at c9
            refine And.intro ⟨(by first | decide | assumption | omega), (by first | decide | assumption | omega)⟩ ?_
            refine And.intro (fun c15 => ?_) (fun c15 => ?_)
            · try dsimp only at c15
              refine And.intro trivial ?_
              refine w_M_crickets (Go.runR (callT_mono MT _) [28] 200 (by repeat' (first | exact hR | exact g1.ok | exact g2.ok | exact g3.ok | apply OKR.pI | apply OKR.pL | apply OKR.cpI | apply OKR.wI)) ?_)
              refine m_M_in (by repeat' (first | exact hR | exact g1.ok | exact g2.ok | exact g3.ok | apply OKR.pI | apply OKR.pL | apply OKR.cpI | apply OKR.wI)) (And.intro (by repeat' (first | exact hR | exact g1.ok | exact g2.ok | exact g3.ok | apply OKR.pI | apply OKR.pL | apply OKR.cpI | apply OKR.wI)) ?_)
              rw [show b2 (1 ≤ v ∧ v ≤ 60) = 1 from if_pos q]
              refine And.intro (fun c4 => ?_) (fun c4 => ?_)
              · first | exact absurd c4 (by decide) | exact absurd (by decide) c4 | (exfalso; grind)
              · try dsimp only at c4
                refine m_M_in (by repeat' (first | exact hR | exact g1.ok | exact g2.ok | exact g3.ok | apply OKR.pI | apply OKR.pL | apply OKR.cpI | apply OKR.wI)) (And.intro (by repeat' (first | exact hR | exact g1.ok | exact g2.ok | exact g3.ok | apply OKR.pI | apply OKR.pL | apply OKR.cpI | apply OKR.wI)) ?_)
                rw [show b2 (1 ≤ w ∧ w ≤ 2147483646) = 1 from if_pos qw]
                refine And.intro (fun c9 => ?_) (fun c9 => ?_)
                · first | exact absurd c9 (by decide) | exact absurd (by decide) c9 | (exfalso; grind)
                · try dsimp only at c9
                  refine And.intro (fun c14 => ?_) (fun c14 => ?_)
                  · try dsimp only at c14
                    refine And.intro trivial ?_
                    exact h _ _ R
                  · exact absurd q2 c14
            · exact absurd q1 c15
      · obtain ⟨N, hN, rfl⟩ := nI_of2 (x := v) (M := 60) (n := 60) rfl (by grind) q.2
        obtain ⟨L, hL, rfl⟩ := nI_of2 (x := w) (M := 2147483646) (n := 2147483646) rfl (by grind) qw.2
        refine w_X_crickets (Go.runR (callT_mono MT _) [28] 200 (by repeat' (first | exact hR | exact g1.ok | exact g2.ok | exact g3.ok | apply OKR.pI | apply OKR.pL | apply OKR.cpI | apply OKR.wI)) ?_)
        refine m_X_isWithin (by repeat' (first | exact hR | exact g1.ok | exact g2.ok | exact g3.ok | apply OKR.pI | apply OKR.pL | apply OKR.cpI | apply OKR.wI)) (And.intro (by repeat' (first | exact hR | exact g1.ok | exact g2.ok | exact g3.ok | apply OKR.pI | apply OKR.pL | apply OKR.cpI | apply OKR.wI)) ?_)
        rw [show b2 (1 ≤ nI N ∧ nI N ≤ 60) = 1 from if_pos q]
        refine And.intro (fun c4 => ?_) (fun c4 => ?_)
        · first | exact absurd c4 (by decide) | exact absurd (by decide) c4 | (exfalso; grind)
        · try dsimp only at c4
          refine m_X_isWithin (by repeat' (first | exact hR | exact g1.ok | exact g2.ok | exact g3.ok | apply OKR.pI | apply OKR.pL | apply OKR.cpI | apply OKR.wI)) (And.intro (by repeat' (first | exact hR | exact g1.ok | exact g2.ok | exact g3.ok | apply OKR.pI | apply OKR.pL | apply OKR.cpI | apply OKR.wI)) ?_)
          rw [show b2 (1 ≤ nI L ∧ nI L ≤ 2147483646) = 1 from if_pos qw]
          refine And.intro (fun c9 => ?_) (fun c9 => ?_)
          · first | exact absurd c9 (by decide) | exact absurd (by decide) c9 | (exfalso; grind)
          · try dsimp only at c9
            refine And.intro ⟨(by first | decide | assumption | omega), (by first | decide | assumption | omega)⟩ ?_
            refine And.intro (fun c15 => ?_) (fun c15 => ?_)
            · exact absurd (q1.symm.trans c15) (sz0 z (by omega))
            · try dsimp only at c15
              refine go_eq (ls' := [vo 0 0 0, vi (nI N), vi (nI L), vi (nI (onN n D L 0).1), vi (nI (onN n D L 0).2.1), vi (nI (onN n D L 0).2.2.1), vi (nI (onN n D L 0).2.2.2), vi (nI 0), vu, vu]) rfl rfl (l_X_crickets28 hS (by omega) hN ?_ 0 vu vu (Nat.zero_le _))
              refine w_M_crickets (Go.runR (callT_mono MT _) [28] 200 hS.tell.ok ?_)
              refine m_M_in (by repeat' (first | exact hR | exact g1.ok | exact g2.ok | exact g3.ok | apply OKR.pI | apply OKR.pL | apply OKR.cpI | apply OKR.wI)) (And.intro (by repeat' (first | exact hR | exact g1.ok | exact g2.ok | exact g3.ok | apply OKR.pI | apply OKR.pL | apply OKR.cpI | apply OKR.wI)) ?_)
              rw [show b2 (1 ≤ nI N ∧ nI N ≤ 60) = 1 from if_pos q]
              refine And.intro (fun c4 => ?_) (fun c4 => ?_)
              · first | exact absurd c4 (by decide) | exact absurd (by decide) c4 | (exfalso; grind)
              · try dsimp only at c4
                refine m_M_in (by repeat' (first | exact hR | exact g1.ok | exact g2.ok | exact g3.ok | apply OKR.pI | apply OKR.pL | apply OKR.cpI | apply OKR.wI)) (And.intro (by repeat' (first | exact hR | exact g1.ok | exact g2.ok | exact g3.ok | apply OKR.pI | apply OKR.pL | apply OKR.cpI | apply OKR.wI)) ?_)
                rw [show b2 (1 ≤ nI L ∧ nI L ≤ 2147483646) = 1 from if_pos qw]
                refine And.intro (fun c9 => ?_) (fun c9 => ?_)
                · first | exact absurd c9 (by decide) | exact absurd (by decide) c9 | (exfalso; grind)
                · try dsimp only at c9
                  refine And.intro (fun c14 => ?_) (fun c14 => ?_)
                  · exact absurd (q2.symm.trans c14) (sz0 z (by omega))
                  · try dsimp only at c14
                    exact go_eq (ls' := [vo 1 0 0, vi (nI N), vi (nI L), vl (lN (onN n D L 0).1), vu, vi (nI (onN n D L 0).2.1), vi (nI (onN n D L 0).2.2.2), vi (-1), vi (nI 0), vu, vu]) (by rw [show lN (onN n D L 0).1 = (nI L).toInt64 from (nI_l (n := L) (by omega)).symm]; rfl) rfl (l_M_crickets28 hS.tell (by omega) hN (h _ _ (R.tell _)) 0 vu vu (-1) (Nat.zero_le _) (Or.inl ⟨rfl, rfl⟩))
    · refine w_X_crickets (Go.runR (callT_mono MT _) [28] 200 (by repeat' (first | exact hR | exact g1.ok | exact g2.ok | exact g3.ok | apply OKR.pI | apply OKR.pL | apply OKR.cpI | apply OKR.wI)) ?_)
      refine m_X_isWithin (by repeat' (first | exact hR | exact g1.ok | exact g2.ok | exact g3.ok | apply OKR.pI | apply OKR.pL | apply OKR.cpI | apply OKR.wI)) (And.intro (by repeat' (first | exact hR | exact g1.ok | exact g2.ok | exact g3.ok | apply OKR.pI | apply OKR.pL | apply OKR.cpI | apply OKR.wI)) ?_)
      rw [show b2 (1 ≤ v ∧ v ≤ 60) = 1 from if_pos q]
      refine And.intro (fun c4 => ?_) (fun c4 => ?_)
      · first | exact absurd c4 (by decide) | exact absurd (by decide) c4 | (exfalso; grind)
      · try dsimp only at c4
        refine m_X_isWithin (by repeat' (first | exact hR | exact g1.ok | exact g2.ok | exact g3.ok | apply OKR.pI | apply OKR.pL | apply OKR.cpI | apply OKR.wI)) (And.intro (by repeat' (first | exact hR | exact g1.ok | exact g2.ok | exact g3.ok | apply OKR.pI | apply OKR.pL | apply OKR.cpI | apply OKR.wI)) ?_)
        rw [show b2 (1 ≤ w ∧ w ≤ 2147483646) = 0 from if_neg qw]
        refine And.intro (fun c9 => ?_) (fun c9 => ?_)
        · try dsimp only at c9
          refine And.intro trivial ?_
          refine w_M_crickets (Go.runR (callT_mono MT _) [28] 200 (by repeat' (first | exact hR | exact g1.ok | exact g2.ok | exact g3.ok | apply OKR.pI | apply OKR.pL | apply OKR.cpI | apply OKR.wI)) ?_)
          refine m_M_in (by repeat' (first | exact hR | exact g1.ok | exact g2.ok | exact g3.ok | apply OKR.pI | apply OKR.pL | apply OKR.cpI | apply OKR.wI)) (And.intro (by repeat' (first | exact hR | exact g1.ok | exact g2.ok | exact g3.ok | apply OKR.pI | apply OKR.pL | apply OKR.cpI | apply OKR.wI)) ?_)
          rw [show b2 (1 ≤ v ∧ v ≤ 60) = 1 from if_pos q]
          refine And.intro (fun c4 => ?_) (fun c4 => ?_)
          · first | exact absurd c4 (by decide) | exact absurd (by decide) c4 | (exfalso; grind)
          · try dsimp only at c4
            refine m_M_in (by repeat' (first | exact hR | exact g1.ok | exact g2.ok | exact g3.ok | apply OKR.pI | apply OKR.pL | apply OKR.cpI | apply OKR.wI)) (And.intro (by repeat' (first | exact hR | exact g1.ok | exact g2.ok | exact g3.ok | apply OKR.pI | apply OKR.pL | apply OKR.cpI | apply OKR.wI)) ?_)
            rw [show b2 (1 ≤ w ∧ w ≤ 2147483646) = 0 from if_neg qw]
            refine And.intro (fun c9 => ?_) (fun c9 => ?_)
            · try dsimp only at c9
              refine And.intro trivial ?_
              exact h _ _ R
            · first | exact absurd c9 (by decide) | exact absurd (by decide) c9 | (exfalso; grind)
        · first | exact absurd c9 (by decide) | exact absurd (by decide) c9 | (exfalso; grind)
  · refine w_X_crickets (Go.runR (callT_mono MT _) [28] 200 (by repeat' (first | exact hR | exact g1.ok | exact g2.ok | exact g3.ok | apply OKR.pI | apply OKR.pL | apply OKR.cpI | apply OKR.wI)) ?_)
    refine m_X_isWithin (by repeat' (first | exact hR | exact g1.ok | exact g2.ok | exact g3.ok | apply OKR.pI | apply OKR.pL | apply OKR.cpI | apply OKR.wI)) (And.intro (by repeat' (first | exact hR | exact g1.ok | exact g2.ok | exact g3.ok | apply OKR.pI | apply OKR.pL | apply OKR.cpI | apply OKR.wI)) ?_)
    rw [show b2 (1 ≤ v ∧ v ≤ 60) = 0 from if_neg q]
    refine And.intro (fun c4 => ?_) (fun c4 => ?_)
    · try dsimp only at c4
      refine And.intro trivial ?_
      refine w_M_crickets (Go.runR (callT_mono MT _) [28] 200 (by repeat' (first | exact hR | exact g1.ok | exact g2.ok | exact g3.ok | apply OKR.pI | apply OKR.pL | apply OKR.cpI | apply OKR.wI)) ?_)
      refine m_M_in (by repeat' (first | exact hR | exact g1.ok | exact g2.ok | exact g3.ok | apply OKR.pI | apply OKR.pL | apply OKR.cpI | apply OKR.wI)) (And.intro (by repeat' (first | exact hR | exact g1.ok | exact g2.ok | exact g3.ok | apply OKR.pI | apply OKR.pL | apply OKR.cpI | apply OKR.wI)) ?_)
      rw [show b2 (1 ≤ v ∧ v ≤ 60) = 0 from if_neg q]
      refine And.intro (fun c4 => ?_) (fun c4 => ?_)
      · try dsimp only at c4
        refine And.intro trivial ?_
        exact h _ _ R
      · first | exact absurd c4 (by decide) | exact absurd (by decide) c4 | (exfalso; grind)
    · first | exact absurd c4 (by decide) | exact absurd (by decide) c4 | (exfalso; grind)
