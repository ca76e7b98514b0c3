/-! Written by a program (wip/whole/p78.py): digest, the reference. -/
def Mq (m0 m : Mem) (h : Int64) : Prop := Fr m0 m ∧ gL m (1, 0, 0) 37 = h
theorem Mq.put {m0 m : Mem} {h h' : Int64} (H : Mq m0 m h) : Mq m0 (pL m (1, 0, 0) 37 h') h' := by
  obtain ⟨⟨a1, a2, a3, a4, a5, a6, a7⟩, -⟩ := H
  exact ⟨⟨a1.pL, fun o k => (gR_pL ..).trans (a2 o k), fun k => a3 k, fun k hk => by
    rw [gL_pL m (1, 0, 0) 37 h' (1, 0, 0) k (by decide) (Or.inl (by decide)), if_neg (fun z => by have := z.2; omega)]
    exact a4 k hk, fun t i k q => a5 t i k q, fun k q => a6 k q, fun t k q1 q2 q3 => a7 t k q1 q2 q3⟩, by
    rw [gL_pL m (1, 0, 0) 37 h' (1, 0, 0) 37 (by decide) (Or.inl (by decide)), if_pos ⟨rfl, rfl⟩]⟩
theorem Mq.eq {m0 m : Mem} {h h' : Int64} (H : Mq m0 m h) (e : h = h') : Mq m0 m h' := e ▸ H
theorem mxE (h : Int64) {v w : Int32} (e : v = w) : mx h v = mx h w := by rw [e]
theorem CurR.kept2 {n : Nat} {m : Mem} (H : CurR n m) {k : Nat} (hk : k < 3) (y : ¬ gI m (0, 5, 1 + k) 3 = 0) : gI m (1, 13, 0) (580 * k) = gI m (0, 5, 1 + k) 4 := by
  obtain ⟨h8, -, h0, h1⟩ := H
  rcases Nat.eq_zero_or_pos n with z | z
  · exact absurd ((h0 z).2.2.2.2.2.2.2.2.2 k hk).1 y
  · rcases (h1 z).2.2 k hk with q | ⟨T, a, b, -⟩
    · exact absurd q.1 y
    · exact a.trans b.2.1.symm
theorem RowsR.z {m : Mem} (H : RowsR m) {r : Nat} (hr : r < 6) : ∃ z, z ≤ 40 ∧ szC m r = z ∧ (∀ k, k ≤ z → (gI m (1, 2, 0) r ≤ nI k ↔ z ≤ k)) ∧ (0 ≤ gI m (1, 2, 0) r → gI m (1, 2, 0) r = gI m (0, 1, r) 1) ∧ (¬ 0 ≤ gI m (1, 2, 0) r → -1 = gI m (0, 1, r) 1) ∧ ∀ k, k < z → gI m (1, 3, 0) (40 * r + k) = gI m (0, 2, r) k := by
  rcases H r hr with ⟨a, b⟩ | ⟨n, h, a, b, c⟩
  · refine ⟨0, by omega, by unfold szC; rw [a]; decide, fun k hk => ⟨fun _ => Nat.zero_le _, fun _ => ?_⟩, fun z => ?_, fun _ => a.symm, fun k hk => absurd hk (by omega)⟩
    · obtain rfl : k = 0 := by omega
      rw [b]; decide
    · rw [b] at z; exact absurd z (by decide)
  · refine ⟨n, h, by unfold szC; rw [a]; exact nI_clamp (by omega), fun k hk => by rw [b]; exact nI_leI (by omega) (by omega), fun _ => b.trans a.symm, fun z => absurd ?_ z, fun k hk => (c k hk).symm⟩
    rw [b]; exact nI_pos' (by omega)
theorem TextsR.z {m : Mem} (H : TextsR m) {r : Nat} (hr : r < 4) : ∃ z, z ≤ 80 ∧ szC m (6 + r) = z ∧ (∀ k, k ≤ z → (gI m (1, 5, 0) r ≤ nI k ↔ z ≤ k)) ∧ (0 ≤ gI m (1, 5, 0) r → gI m (1, 5, 0) r = gI m (0, 1, 6 + r) 1) ∧ (¬ 0 ≤ gI m (1, 5, 0) r → -1 = gI m (0, 1, 6 + r) 1) ∧ ∀ k, k < z → gI m (1, 6, 0) (80 * r + k) = gI m (0, 2, 6 + r) k := by
  rcases H r hr with ⟨a, b⟩ | ⟨n, h, a, b, c⟩
  · refine ⟨0, by omega, by unfold szC; rw [a]; decide, fun k hk => ⟨fun _ => Nat.zero_le _, fun _ => ?_⟩, fun z => ?_, fun _ => a.symm, fun k hk => absurd hk (by omega)⟩
    · obtain rfl : k = 0 := by omega
      rw [b]; decide
    · rw [b] at z; exact absurd z (by decide)
  · refine ⟨n, h, by unfold szC; rw [a]; exact nI_clamp (by omega), fun k hk => by rw [b]; exact nI_leI (by omega) (by omega), fun _ => b.trans a.symm, fun z => absurd ?_ z, fun k hk => (c k hk).symm⟩
    rw [b]; exact nI_pos' (by omega)
theorem Fr.cnr {m0 m : Mem} (g : Fr m0 m) (R : CnR m0 m0) : CnR m0 m := by
  unfold CnR at *
  have e : ∀ t k, t = 13 ∨ t = 2 ∨ t = 5 → gI m (1, t, 0) k = gI m0 (1, t, 0) k := fun t k q => g.2.2.2.2.2.2 t k (by omega) (by omega) (by omega)
  simp only [e 13 _ (by omega), e 2 _ (by omega), e 5 _ (by omega)]
  exact R

theorem m_M_mix {d : Nat} {m0 m : Mem} {K : Option Vv → Mem → Prop} {h0 : Int64} {v : Int32} (H : Mq m0 m h0) (h : ∀ m', Mq m0 m' (mx h0 v) → K none m') : cW (d + 1) n_M_mix [vo 1 0 0, vi v] m K := by
  have hR := H.1.ok
  refine w_M_mix (Go.runR (callT_mono MT _) [] 200 hR ?_)
  refine And.intro trivial ?_
  have e : gL m (1, 0, 0) 37 = h0 := H.2
  subst e
  exact h _ H.put

theorem l_M_mix85 {d n : Nat} {m0 : Mem} {K : Option Vv → Mem → Prop} {h1 : Int64} (hC : CurR n m0) (h : ∀ m', Mq m0 m' (gdK m0 3 h1) → K none m') (k : Nat) (m : Mem) (z : Vv) (H : Mq m0 m (gdK m0 k h1)) (hk : k ≤ 3) : Go (cW (d + 3)) i_M_mixStreet (0, 0) K 85 [vo 1 0 0, vi (nI k), z] [] m 0 0 := by
  have hR := H.1.ok
  have e1 : (580 * nI k).toNatClampNeg = 580 * k := by rw [pk580, nI_clamp (by omega)]
  have e2 : gI m (1, 13, 0) (580 * k) = gI m0 (1, 13, 0) (580 * k) := H.1.2.2.2.2.2.2 13 _ (by omega) (by omega) (by omega)
  refine Go.runR (callT_mono MT _) [85] 200 hR ?_
  refine And.intro (fun c87 => ?_) (fun c87 => ?_)
  · try dsimp only at c87
    obtain rfl := lq_e (n := 3) c87 rfl rfl hk (by omega)
    refine And.intro trivial ?_
    exact h _ H
  · try dsimp only at c87
    have hk2 := lq_m (n := 3) c87 rfl rfl hk (by omega)
    have kp := hC.kept hk2
    refine And.intro ⟨rfl, rfl, rfl⟩ ?_
    refine And.intro (by show vp_in (580 * nI k) 1740; rw [pk580]; exact vp_nI (by omega) (by decide)) ?_
    refine And.intro (fun c96 => ?_) (fun c96 => ?_)
    · try dsimp only at c96
      rw [e1, e2] at c96
      have y := kp.mp c96
      refine m_M_mix H (fun m1 H => And.intro H.1.ok ?_)
      first
      | exact go_eq (by rw [← nI_succ]; first | done | rfl) rfl (l_M_mix85 hC h (k + 1) m1 z (H.eq (by show _ = mx (gdK m0 k h1) (if gI m0 (0, 5, 1 + k) 3 = 0 then -1 else gI m0 (0, 5, 1 + k) 4); rw [if_pos y])) hk2)
      | exact go_eq (by rw [← nI_succ]; first | done | rfl) rfl (l_M_mix85 hC h (k + 1) m1 z (H.eq (by show _ = mx (gdK m0 k h1) (if gI m0 (0, 5, 1 + k) 3 = 0 then -1 else gI m0 (0, 5, 1 + k) 4); rw [if_neg y, e1, e2, hC.kept2 hk2 y])) hk2)
    · try dsimp only at c96
      rw [e1, e2] at c96
      have y := mt kp.mpr c96
      refine And.intro ⟨rfl, rfl, rfl⟩ ?_
      refine And.intro (by show vp_in (580 * nI k) 1740; rw [pk580]; exact vp_nI (by omega) (by decide)) ?_
      refine m_M_mix H (fun m1 H => And.intro H.1.ok ?_)
      first
      | exact go_eq (by rw [← nI_succ]; first | done | rfl) rfl (l_M_mix85 hC h (k + 1) m1 z (H.eq (by show _ = mx (gdK m0 k h1) (if gI m0 (0, 5, 1 + k) 3 = 0 then -1 else gI m0 (0, 5, 1 + k) 4); rw [if_pos y])) hk2)
      | exact go_eq (by rw [← nI_succ]; first | done | rfl) rfl (l_M_mix85 hC h (k + 1) m1 z (H.eq (by show _ = mx (gdK m0 k h1) (if gI m0 (0, 5, 1 + k) 3 = 0 then -1 else gI m0 (0, 5, 1 + k) 4); rw [if_neg y, e1, e2, hC.kept2 hk2 y])) hk2)
termination_by 3 - k
decreasing_by all_goals omega

theorem l_M_mix69 {d n T : Nat} {m0 : Mem} {K : Option Vv → Mem → Prop} {h1 : Int64} (hC : CurR n m0) (hT : T ≤ 40) (q : gI m0 (1, 0, 0) 20 = nI T) (hH : ∀ t, t < T → HrR n t (fun c => gI m0 (1, 12, 0) (12 * t + c)) m0) (h : ∀ m', Mq m0 m' (gdK m0 3 (gdU m0 T h1)) → K none m') (k : Nat) (m : Mem) (z : Vv) (H : Mq m0 m (gdU m0 k h1)) (hk : k ≤ T) : Go (cW (d + 3)) i_M_mixStreet (0, 0) K 69 [vo 1 0 0, vi (nI k), z] [] m 0 0 := by
  have hR := H.1.ok
  have e1 : (12 * nI k).toNatClampNeg = 12 * k := by rw [pk12, nI_clamp (by omega)]
  have e2 : gI m (1, 12, 0) (12 * k) = gI m0 (1, 12, 0) (12 * k) := H.1.2.2.2.2.2.2 12 _ (by omega) (by omega) (by omega)
  have q2 : gI m (1, 0, 0) 20 = nI T := (H.1.2.2.2.2.2.1 20 (by omega)).trans q
  refine Go.runR (callT_mono MT _) [69, 85] 200 hR ?_
  refine And.intro (fun c72 => ?_) (fun c72 => ?_)
  · try dsimp only at c72
    obtain rfl := lq_e c72 q2 rfl hk (by omega)
    exact l_M_mix85 hC h 0 m z H (by omega)
  · try dsimp only at c72
    have hk2 := lq_m c72 q2 rfl hk (by omega)
    refine And.intro ⟨rfl, rfl, rfl⟩ ?_
    refine And.intro (by show vp_in (12 * nI k) 480; rw [pk12]; exact vp_nI (by omega) (by decide)) ?_
    refine m_M_mix H (fun m1 H => And.intro H.1.ok ?_)
    exact go_eq (by rw [← nI_succ]; first | done | rfl) rfl (l_M_mix69 hC hT q hH h (k + 1) m1 z (H.eq (by show _ = mx (gdU m0 k h1) (gI m0 (0, 10, k) 1); rw [e1, e2]; exact mxE _ (hH k hk2).1.symm)) hk2)
termination_by T - k
decreasing_by all_goals omega

theorem l_M_mix49 {d n i : Nat} {D : SDt} {m0 : Mem} {K : Option Vv → Mem → Prop} {h1 : Int64} (hS0 : SC n D m0) (hi : i < n) (h : ∀ m' z, Mq m0 m' (gdB D i n h1) → Go (cW (d + 3)) i_M_mixStreet (0, 0) K 18 [vo 1 0 0, vi (nI i + 1), z] [] m' 0 0) (k : Nat) (m : Mem) (H : Mq m0 m (gdB D i k h1)) (hk : k ≤ n) : Go (cW (d + 3)) i_M_mixStreet (0, 0) K 49 [vo 1 0 0, vi (nI i), vi (nI k)] [] m 0 0 := by
  have hS := H.1.sc hS0
  have hR := hS.1
  have h8 := hS.2.1
  have q2 := hS.nB
  have e1 : 8 * nI i + nI k = nI (8 * i + k) := by rw [show (8 : Int32) = nI 8 from rfl, pk_mul, nI_add]
  refine Go.runR (callT_mono MT _) [18, 49] 200 hR ?_
  refine And.intro (fun c52 => ?_) (fun c52 => ?_)
  · try dsimp only at c52
    obtain rfl := lq_e c52 q2 rfl hk (by omega)
    exact h _ _ H
  · try dsimp only at c52
    have hk2 := lq_m c52 q2 rfl hk (by omega)
    refine And.intro ⟨rfl, rfl, rfl⟩ ?_
    refine And.intro (by show vp_in (8 * nI i + nI k) 64; rw [e1]; exact vp_nI (by omega) (by decide)) ?_
    refine m_M_mix H (fun m1 H => And.intro H.1.ok ?_)
    exact go_eq (by rw [← nI_succ]; first | done | rfl) rfl (l_M_mix49 hS0 hi h (k + 1) m1 (H.eq (by show _ = mx (gdB D i k h1) (nI (dB D (8 * i + k))); dsimp only; rw [e1, nI_clamp (by omega)]; exact mxE _ (hS.db hi hk2).2.2)) hk2)
termination_by n - k
decreasing_by all_goals omega

theorem l_M_mix24 {d n i : Nat} {D : SDt} {m0 : Mem} {K : Option Vv → Mem → Prop} {h1 : Int64} (hS0 : SC n D m0) (hi : i < n) (h : ∀ m', Mq m0 m' (gdE D i h1) → Go (cW (d + 3)) i_M_mixStreet (0, 0) K 49 [vo 1 0 0, vi (nI i), vi 0] [] m' 0 0) (k : Nat) (m : Mem) (H : Mq m0 m (gdT D i k h1)) (hk : k ≤ 5) : Go (cW (d + 3)) i_M_mixStreet (0, 0) K 24 [vo 1 0 0, vi (nI i), vi (nI k)] [] m 0 0 := by
  have hS := H.1.sc hS0
  have hR := hS.1
  have h8 := hS.2.1
  have e0 : (nI i).toNatClampNeg = i := nI_clamp (by omega)
  refine Go.runR (callT_mono MT _) [24, 49] 200 hR ?_
  refine And.intro (fun c26 => ?_) (fun c26 => ?_)
  · try dsimp only at c26
    obtain rfl := lt_e (N := 4) c26 rfl rfl hk (by omega)
    refine And.intro ⟨rfl, rfl, rfl⟩ ?_
    refine And.intro (by exact vp_nI (k := i) (N := 8) (by omega) (by decide)) ?_
    rw [e0, (hS.hs hi).2.2.2.2.2.2.2.2.2.2.2.2.1]
    refine m_M_mix H (fun m1 H => And.intro H.1.ok ?_)
    have hS := H.1.sc hS0
    refine And.intro ⟨rfl, rfl, rfl⟩ ?_
    refine And.intro (by exact vp_nI (k := i) (N := 8) (by omega) (by decide)) ?_
    rw [e0, (hS.hs hi).2.2.2.2.2.2.2.2.2.2.2.2.2]
    refine m_M_mix H (fun m1 H => And.intro H.1.ok ?_)
    exact h _ H
  · try dsimp only at c26
    have hk2 := lt_m (N := 4) c26 rfl rfl (by omega) hk
    refine m_M_houseOf hS (i := i) (w := k) rfl hi rfl (by omega) (And.intro (by repeat' (first | exact hR | apply OKR.pI | apply OKR.pL | apply OKR.cpI | apply OKR.wI)) ?_)
    refine m_M_mix H (fun m1 H => And.intro H.1.ok ?_)
    exact go_eq (by rw [← nI_succ]; first | done | rfl) rfl (l_M_mix24 hS0 hi h (k + 1) m1 H (by omega))
termination_by 5 - k
decreasing_by all_goals omega

theorem l_M_mix18 {d n T : Nat} {D : SDt} {m0 : Mem} {K : Option Vv → Mem → Prop} {h1 : Int64} (hS0 : SC n D m0) (hC : CurR n m0) (hT : T ≤ 40) (q : gI m0 (1, 0, 0) 20 = nI T) (hH : ∀ t, t < T → HrR n t (fun c => gI m0 (1, 12, 0) (12 * t + c)) m0) (h : ∀ m', Mq m0 m' (gdK m0 3 (gdU m0 T (gdH n D n h1))) → K none m') (k : Nat) (m : Mem) (z : Vv) (H : Mq m0 m (gdH n D k h1)) (hk : k ≤ n) : Go (cW (d + 3)) i_M_mixStreet (0, 0) K 18 [vo 1 0 0, vi (nI k), z] [] m 0 0 := by
  have hS := H.1.sc hS0
  have hR := hS.1
  have h8 := hS.2.1
  have q2 := hS.nB
  refine Go.runR (callT_mono MT _) [18, 24, 69] 200 hR ?_
  refine And.intro (fun c21 => ?_) (fun c21 => ?_)
  · try dsimp only at c21
    obtain rfl := lq_e c21 q2 rfl hk (by omega)
    exact l_M_mix69 hC hT q hH h 0 m z H (Nat.zero_le _)
  · try dsimp only at c21
    have hk2 := lq_m c21 q2 rfl hk (by omega)
    exact l_M_mix24 hS0 hk2 (fun m1 H1 => l_M_mix49 hS0 hk2 (fun m2 z2 H2 => go_eq (by rw [← nI_succ]; first | done | rfl) rfl (l_M_mix18 hS0 hC hT q hH h (k + 1) m2 z2 H2 hk2)) 0 m1 H1 (Nat.zero_le _)) 0 m H (by omega)
termination_by n - k
decreasing_by all_goals omega

theorem m_M_mixStreet {d n T : Nat} {D : SDt} {m0 m : Mem} {K : Option Vv → Mem → Prop} {h0 : Int64} (hS0 : SC n D m0) (hC : CurR n m0) (hT : T ≤ 40) (q : gI m0 (1, 0, 0) 20 = nI T) (hH : ∀ t, t < T → HrR n t (fun c => gI m0 (1, 12, 0) (12 * t + c)) m0) (H : Mq m0 m h0) (h : ∀ m', Mq m0 m' (gdK m0 3 (gdS n T D m0 h0)) → K none m') : cW (d + 4) n_M_mixStreet [vo 1 0 0] m K := by
  have hR := H.1.ok
  have fa : gI m0 (1, 0, 0) 11 = (if n = 0 then 0 else gI m0 (0, 5, 0) 5) := by
    by_cases z : n = 0
    · rw [if_pos z]; exact (hC.2.2.1 z).2.2.2.2.2.2.2.1
    · rw [if_neg z]
      have a := hS0.al (by omega)
      exact a.2.2.2.1.trans a.2.2.1.symm
  have fl : gI m0 (1, 0, 0) 12 = (if n = 0 then 0 else gI m0 (0, 5, 0) 6) := by
    by_cases z : n = 0
    · rw [if_pos z]; exact (hC.2.2.1 z).2.2.2.2.2.2.2.2.1
    · rw [if_neg z]
      have a := hS0.al (by omega)
      exact a.2.2.2.2.2.trans a.2.2.2.2.1.symm
  have fw : gI m0 (1, 0, 0) 21 = gI m0 (0, 5, 0) 7 := hS0.wt.2.2.trans hS0.wt.2.1.symm
  have fo : gI m0 (1, 0, 0) 22 = gI m0 (0, 5, 0) 8 := hC.jar.2.symm
  refine w_M_mixStreet (Go.runR (callT_mono MT _) [18] 200 hR ?_)
  refine m_M_mix H (fun m1 H1 => And.intro H1.1.ok ?_)
  replace H1 := H1.eq (mxE _ ((H.1.2.2.2.2.2.1 11 (by omega)).trans fa))
  replace H := H1
  refine m_M_mix H (fun m1 H1 => And.intro H1.1.ok ?_)
  replace H1 := H1.eq (mxE _ ((H.1.2.2.2.2.2.1 12 (by omega)).trans fl))
  replace H := H1
  refine m_M_mix H (fun m1 H1 => And.intro H1.1.ok ?_)
  replace H1 := H1.eq (mxE _ ((H.1.2.2.2.2.2.1 21 (by omega)).trans fw))
  replace H := H1
  refine m_M_mix H (fun m1 H1 => And.intro H1.1.ok ?_)
  replace H1 := H1.eq (mxE _ ((H.1.2.2.2.2.2.1 22 (by omega)).trans fo))
  replace H := H1
  exact l_M_mix18 hS0 hC hT q hH h 0 _ _ H (Nat.zero_le _)
