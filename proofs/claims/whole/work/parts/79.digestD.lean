/-! Written by a program (wip/whole/p78.py): digest, the reference, whole. -/

theorem l_M_dig37 {d r z : Nat} {m0 : Mem} {K : Option Vv → Mem → Prop} {h1 : Int64} (hr : r < 6) (hz : z ≤ 40) (hq : ∀ k, k ≤ z → (gI m0 (1, 2, 0) r ≤ nI k ↔ z ≤ k)) (hv : ∀ k, k < z → gI m0 (1, 3, 0) (40 * r + k) = gI m0 (0, 2, r) k) (h : ∀ m' z', Mq m0 m' (gdC m0 r z h1) → Go (cW (d + 3)) i_M_digest (0, 0) K 19 [vo 1 0 0, vi (nI r + 1), z'] [] m' 0 0) (k : Nat) (m : Mem) (H : Mq m0 m (gdC m0 r k h1)) (hk : k ≤ z) : Go (cW (d + 3)) i_M_digest (0, 0) K 37 [vo 1 0 0, vi (nI r), vi (nI k)] [] m 0 0 := by
  have hR := H.1.ok
  have e0 : (nI r).toNatClampNeg = r := nI_clamp (by omega)
  have e2 : gI m (1, 2, 0) (nI r).toNatClampNeg = gI m0 (1, 2, 0) r := by rw [e0]; exact H.1.2.2.2.2.2.2 2 _ (by omega) (by omega) (by omega)
  have e4 : gI m (1, 3, 0) (40 * r + k) = gI m0 (1, 3, 0) (40 * r + k) := H.1.2.2.2.2.2.2 3 _ (by omega) (by omega) (by omega)
  refine Go.runR (callT_mono MT _) [19, 37] 200 hR ?_
  refine And.intro ⟨rfl, rfl, rfl⟩ ?_
  refine And.intro (by exact vp_nI (k := r) (N := 6) (by omega) (by decide)) ?_
  refine And.intro (fun c42 => ?_) (fun c42 => ?_)
  · try dsimp only at c42
    rw [e2] at c42
    obtain rfl : k = z := by have := (hq k hk).mp c42; omega
    exact h _ _ H
  · try dsimp only at c42
    rw [e2] at c42
    have hk2 : k < z := by have := mt (hq k hk).mpr c42; omega
    refine m_M_rowAt hR hr (by omega) (And.intro (by repeat' (first | exact hR | apply OKR.pI | apply OKR.pL | apply OKR.cpI | apply OKR.wI)) ?_)
    refine m_M_mix H (fun m1 H => And.intro H.1.ok ?_)
    exact go_eq (by rw [← nI_succ]; first | done | rfl) rfl (l_M_dig37 hr hz hq hv h (k + 1) m1 (H.eq (by show _ = mx (gdC m0 r k h1) (gI m0 (0, 2, r) k); rw [e4]; exact mxE _ (hv k hk2))) hk2)
termination_by z - k
decreasing_by all_goals omega

theorem l_M_dig73 {d r z : Nat} {m0 : Mem} {K : Option Vv → Mem → Prop} {h1 : Int64} (hr : r < 4) (hz : z ≤ 80) (hq : ∀ k, k ≤ z → (gI m0 (1, 5, 0) r ≤ nI k ↔ z ≤ k)) (hv : ∀ k, k < z → gI m0 (1, 6, 0) (80 * r + k) = gI m0 (0, 2, (6 + r)) k) (h : ∀ m' z', Mq m0 m' (gdC m0 (6 + r) z h1) → Go (cW (d + 3)) i_M_digest (0, 0) K 55 [vo 1 0 0, vi (nI r + 1), z'] [] m' 0 0) (k : Nat) (m : Mem) (H : Mq m0 m (gdC m0 (6 + r) k h1)) (hk : k ≤ z) : Go (cW (d + 3)) i_M_digest (0, 0) K 73 [vo 1 0 0, vi (nI r), vi (nI k)] [] m 0 0 := by
  have hR := H.1.ok
  have e0 : (nI r).toNatClampNeg = r := nI_clamp (by omega)
  have e2 : gI m (1, 5, 0) (nI r).toNatClampNeg = gI m0 (1, 5, 0) r := by rw [e0]; exact H.1.2.2.2.2.2.2 5 _ (by omega) (by omega) (by omega)
  have e4 : gI m (1, 6, 0) (80 * r + k) = gI m0 (1, 6, 0) (80 * r + k) := H.1.2.2.2.2.2.2 6 _ (by omega) (by omega) (by omega)
  have e1 : 80 * nI r + nI k = nI (80 * r + k) := by rw [show (80 : Int32) = nI 80 from rfl, pk_mul, nI_add]
  refine Go.runR (callT_mono MT _) [55, 73] 200 hR ?_
  refine And.intro ⟨rfl, rfl, rfl⟩ ?_
  refine And.intro (by exact vp_nI (k := r) (N := 4) (by omega) (by decide)) ?_
  refine And.intro (fun c78 => ?_) (fun c78 => ?_)
  · try dsimp only at c78
    rw [e2] at c78
    obtain rfl : k = z := by have := (hq k hk).mp c78; omega
    exact h _ _ H
  · try dsimp only at c78
    rw [e2] at c78
    have hk2 : k < z := by have := mt (hq k hk).mpr c78; omega
    refine And.intro ⟨rfl, rfl, rfl⟩ ?_
    refine And.intro (by show vp_in (80 * nI r + nI k) 320; rw [e1]; exact vp_nI (by omega) (by decide)) ?_
    refine m_M_mix H (fun m1 H => And.intro H.1.ok ?_)
    exact go_eq (by rw [← nI_succ]; first | done | rfl) rfl (l_M_dig73 hr hz hq hv h (k + 1) m1 (H.eq (by show _ = mx (gdC m0 (6 + r) k h1) (gI m0 (0, 2, (6 + r)) k); dsimp only; rw [e1, nI_clamp (by omega), e4]; exact mxE _ (hv k hk2))) hk2)
termination_by z - k
decreasing_by all_goals omega

theorem l_M_dig55 {d : Nat} {m0 : Mem} {K : Option Vv → Mem → Prop} {h1 : Int64} (ht2 : TextsR m0) (h : ∀ m', Mq m0 m' (gdR m0 6 4 h1) → K (some (vl (gdR m0 6 4 h1))) m') (r : Nat) (m : Mem) (z0 : Vv) (H : Mq m0 m (gdR m0 6 r h1)) (hr : r ≤ 4) : Go (cW (d + 3)) i_M_digest (0, 0) K 55 [vo 1 0 0, vi (nI r), z0] [] m 0 0 := by
  have hR := H.1.ok
  have e0 : (nI r).toNatClampNeg = r := nI_clamp (by omega)
  have e2 : gI m (1, 5, 0) r = gI m0 (1, 5, 0) r := H.1.2.2.2.2.2.2 5 _ (by omega) (by omega) (by omega)
  refine Go.runR (callT_mono MT _) [55, 73] 200 hR ?_
  refine And.intro (fun c57 => ?_) (fun c57 => ?_)
  · try dsimp only at c57
    obtain rfl := lq_e (n := 4) c57 rfl rfl hr (by omega)
    refine And.intro trivial ?_
    have e : gL m (1, 0, 0) 37 = _ := H.2
    rw [e]
    exact h _ H
  · try dsimp only at c57
    have hrr := lq_m (n := 4) c57 rfl rfl hr (by omega)
    refine And.intro ⟨rfl, rfl, rfl⟩ ?_
    refine And.intro (by exact vp_nI (k := r) (N := 4) (by omega) (by decide)) ?_
    refine And.intro (fun c63 => ?_) (fun c63 => ?_)
    · try dsimp only at c63
      rw [e0, e2] at c63
      refine And.intro ⟨rfl, rfl, rfl⟩ ?_
      refine And.intro (by exact vp_nI (k := r) (N := 4) (by omega) (by decide)) ?_
      refine m_M_mix H (fun m1 H => And.intro H.1.ok ?_)
      obtain ⟨z, hz, sz, hq, v1, v2, hv⟩ := ht2.z hrr
      refine l_M_dig73 hrr hz hq hv (fun m2 z2 H2 => go_eq (by rw [← nI_succ]; first | done | rfl) rfl (l_M_dig55 ht2 h (r + 1) m2 z2 (H2.eq ?_) hrr)) 0 m1 H (Nat.zero_le _)
      first
      | (rw [e0, e2, v1 c63]; show gdC m0 (6 + r) z (mx _ (gI m0 (0, 1, (6 + r)) 1)) = gdW m0 (6 + r) _; rw [← sz]; rfl)
      | (rw [v2 c63]; show gdC m0 (6 + r) z (mx _ (gI m0 (0, 1, (6 + r)) 1)) = gdW m0 (6 + r) _; rw [← sz]; rfl)
    · try dsimp only at c63
      rw [e0, e2] at c63
      refine m_M_mix H (fun m1 H => And.intro H.1.ok ?_)
      obtain ⟨z, hz, sz, hq, v1, v2, hv⟩ := ht2.z hrr
      refine l_M_dig73 hrr hz hq hv (fun m2 z2 H2 => go_eq (by rw [← nI_succ]; first | done | rfl) rfl (l_M_dig55 ht2 h (r + 1) m2 z2 (H2.eq ?_) hrr)) 0 m1 H (Nat.zero_le _)
      first
      | (rw [e0, e2, v1 c63]; show gdC m0 (6 + r) z (mx _ (gI m0 (0, 1, (6 + r)) 1)) = gdW m0 (6 + r) _; rw [← sz]; rfl)
      | (rw [v2 c63]; show gdC m0 (6 + r) z (mx _ (gI m0 (0, 1, (6 + r)) 1)) = gdW m0 (6 + r) _; rw [← sz]; rfl)
termination_by 4 - r
decreasing_by all_goals omega

theorem l_M_dig19 {d : Nat} {m0 : Mem} {K : Option Vv → Mem → Prop} {h1 : Int64} (hr2 : RowsR m0) (ht2 : TextsR m0) (h : ∀ m', Mq m0 m' (gdR m0 6 4 (gdR m0 0 6 h1)) → K (some (vl (gdR m0 6 4 (gdR m0 0 6 h1)))) m') (r : Nat) (m : Mem) (z0 : Vv) (H : Mq m0 m (gdR m0 0 r h1)) (hr : r ≤ 6) : Go (cW (d + 3)) i_M_digest (0, 0) K 19 [vo 1 0 0, vi (nI r), z0] [] m 0 0 := by
  have hR := H.1.ok
  have e0 : (nI r).toNatClampNeg = r := nI_clamp (by omega)
  have e2 : gI m (1, 2, 0) r = gI m0 (1, 2, 0) r := H.1.2.2.2.2.2.2 2 _ (by omega) (by omega) (by omega)
  refine Go.runR (callT_mono MT _) [19, 37, 55] 200 hR ?_
  refine And.intro (fun c21 => ?_) (fun c21 => ?_)
  · try dsimp only at c21
    obtain rfl := lq_e (n := 6) c21 rfl rfl hr (by omega)
    exact l_M_dig55 ht2 h 0 m z0 H (by omega)
  · try dsimp only at c21
    have hrr := lq_m (n := 6) c21 rfl rfl hr (by omega)
    refine And.intro ⟨rfl, rfl, rfl⟩ ?_
    refine And.intro (by exact vp_nI (k := r) (N := 6) (by omega) (by decide)) ?_
    refine And.intro (fun c27 => ?_) (fun c27 => ?_)
    · try dsimp only at c27
      rw [e0, e2] at c27
      refine And.intro ⟨rfl, rfl, rfl⟩ ?_
      refine And.intro (by exact vp_nI (k := r) (N := 6) (by omega) (by decide)) ?_
      refine m_M_mix H (fun m1 H => And.intro H.1.ok ?_)
      obtain ⟨z, hz, sz, hq, v1, v2, hv⟩ := hr2.z hrr
      refine l_M_dig37 hrr hz hq hv (fun m2 z2 H2 => go_eq (by rw [← nI_succ]; first | done | rfl) rfl (l_M_dig19 hr2 ht2 h (r + 1) m2 z2 (H2.eq ?_) hrr)) 0 m1 H (Nat.zero_le _)
      first
      | (rw [e0, e2, v1 c27]; show gdC m0 r z (mx _ (gI m0 (0, 1, r) 1)) = gdW m0 (0 + r) _; rw [← sz, Nat.zero_add]; rfl)
      | (rw [v2 c27]; show gdC m0 r z (mx _ (gI m0 (0, 1, r) 1)) = gdW m0 (0 + r) _; rw [← sz, Nat.zero_add]; rfl)
    · try dsimp only at c27
      rw [e0, e2] at c27
      refine m_M_mix H (fun m1 H => And.intro H.1.ok ?_)
      obtain ⟨z, hz, sz, hq, v1, v2, hv⟩ := hr2.z hrr
      refine l_M_dig37 hrr hz hq hv (fun m2 z2 H2 => go_eq (by rw [← nI_succ]; first | done | rfl) rfl (l_M_dig19 hr2 ht2 h (r + 1) m2 z2 (H2.eq ?_) hrr)) 0 m1 H (Nat.zero_le _)
      first
      | (rw [e0, e2, v1 c27]; show gdC m0 r z (mx _ (gI m0 (0, 1, r) 1)) = gdW m0 (0 + r) _; rw [← sz, Nat.zero_add]; rfl)
      | (rw [v2 c27]; show gdC m0 r z (mx _ (gI m0 (0, 1, r) 1)) = gdW m0 (0 + r) _; rw [← sz, Nat.zero_add]; rfl)
termination_by 6 - r
decreasing_by all_goals omega

theorem l_M_dig5 {d n T : Nat} {D : SDt} {m0 : Mem} {K : Option Vv → Mem → Prop} (R : RelAB m0) (hS0 : SC n D m0) (hC : CurR n m0) (hT : T ≤ 40) (q : gI m0 (1, 0, 0) 20 = nI T) (hH : ∀ t, t < T → HrR n t (fun c => gI m0 (1, 12, 0) (12 * t + c)) m0) (h : ∀ m', Mq m0 m' (gdZ n T D m0) → K (some (vl (gdZ n T D m0))) m') (k : Nat) (m : Mem) (H : Mq m0 m (gd1 n T D m0 k)) (hk : k ≤ 8) : Go (cW (d + 4)) i_M_digest (0, 0) K 5 [vo 1 0 0, vi (nI k), vu] [] m 0 0 := by
  have hS := H.1.sc hS0
  have hR := hS.1
  have q2 : gI m (1, 0, 0) 20 = nI T := (H.1.2.2.2.2.2.1 20 (by omega)).trans q
  refine Go.runR (callT_mono MT _) [5, 19] 200 hR ?_
  refine And.intro (fun c7 => ?_) (fun c7 => ?_)
  · try dsimp only at c7
    obtain rfl := lt_e (N := 7) c7 rfl rfl hk (by omega)
    refine m_M_mixStreet hS0 hC hT q hH H (fun m1 H => And.intro H.1.ok ?_)
    exact l_M_dig19 R.2.1 R.2.2.1 h 0 m1 vu H (by omega)
  · try dsimp only at c7
    have hk2 := lt_m (N := 7) c7 rfl rfl (by omega) hk
    refine m_M_counts hS q2 (H.1.cnr R.cnr) (w := k) rfl (by omega) (And.intro (by repeat' (first | exact hR | apply OKR.pI | apply OKR.pL | apply OKR.cpI | apply OKR.wI)) ?_)
    refine m_M_mix H (fun m1 H => And.intro H.1.ok ?_)
    exact go_eq (by rw [← nI_succ]; first | done | rfl) rfl (l_M_dig5 R hS0 hC hT q hH h (k + 1) m1 H (by omega))
termination_by 8 - k
decreasing_by all_goals omega

theorem p_digest {d : Nat} {m : Mem} {K : Option Vv → Option Vv → Mem → Prop} (R : RelAB m) (h : ∀ v m', RelAB m' → K v v m') : cW (d + 6) n_X_digest [vo 0 0 0] m (fun u m1 => cW (d + 6) n_M_digest [vo 1 0 0] m1 (fun w m2 => K u w m2)) := by
  have hR := R.1
  obtain ⟨n, hc⟩ := R.2.2.2.2
  obtain ⟨D, hS⟩ := hc.sc hR
  have ht := R.2.2.2.1
  obtain ⟨q1, q2⟩ := hc.many
  have h8 := hc.le
  obtain ⟨T, hT, t1, t2, hH⟩ := hc.hrs
  refine m_X_digest hS hT t1 R.cz ?_
  refine w_M_digest (Go.runR (callT_mono MT _) [5] 200 hR ?_)
  exact l_M_dig5 (d := d + 1) R hS hc hT t2 hH (fun m' H => h _ _ (H.1.rel R)) 0 _ (Mq.put ⟨Fr.refl hR, rfl⟩) (by omega)
