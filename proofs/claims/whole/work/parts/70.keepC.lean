/-! Written by a program (wip/whole/p70.py): keep, on. -/
theorem RelAB.on {n a : Nat} {m m1 m2 : Mem} (R : RelAB m) (hc : CurR n m) (hn : 0 < n) (ha : a < 3) (y : ¬ gI m (0, 5, 1 + a) 3 = 0) (A : BLz m m1 0 (1 + a)) (B : Oq (580 * a) 8 64 480 m1 m2) : RelAB m2 := by
  obtain ⟨h8, hm, -, h1⟩ := hc
  obtain ⟨hl, -, hk⟩ := h1 hn
  obtain ⟨T, s1, s2, g3, g4⟩ : ∃ H, gI m (1, 13, 0) (580 * a) = nI H ∧ SR (1 + a) n H (gI m (1, 13, 0) (580 * a + 1)) (gI m (1, 13, 0) (580 * a + 2)) (gI m (1, 13, 0) (580 * a + 3)) (fun i => gI m (1, 13, 0) (580 * a + 4 + i)) (fun i => gI m (1, 13, 0) (580 * a + 12 + i)) (fun i => gI m (1, 13, 0) (580 * a + 20 + i)) (fun j => gI m (1, 13, 0) (580 * a + 28 + j)) (fun j => gI m (1, 13, 0) (580 * a + 92 + j)) m ∧
    (∀ i, i < n → kn m (8 * (1 + a) + i) = kn m i ∧ gI m (0, 8, 8 * (1 + a) + i) 1 = gI m (0, 8, i) 1) ∧ gI m (0, 5, 1 + a) 6 = gI m (0, 5, 0) 6 := by
    rcases hk a ha with x | x
    · exact absurd x.1 y
    · exact x
  have k2 : ∀ i, kn m2 i = kn m1 i := fun i => B.1.kn i
  have b0 : ∀ t i k, gI m2 (0, t, i) k = gI m1 (0, t, i) k := fun t i k => B.1.2.2.2.1 t i k (by simp)
  have a1 : ∀ t i k, gI m1 (1, t, i) k = gI m (1, t, i) k := fun t i k => A.1.2.2.2 t i k (by simp)
  have b1 : ∀ t i k, t ∉ [0, 9, 10, 11, 12, 18] → gI m2 (1, t, i) k = gI m (1, t, i) k := fun t i k h => (B.1.2.2.2.2 t i k h).trans (a1 t i k)
  have f0 : ∀ q, gI m2 (1, 0, 0) q = if q = 20 then gI m (1, 13, 0) (580 * a) else if q = 11 then gI m (1, 13, 0) (580 * a + 1) else if q = 21 then gI m (1, 13, 0) (580 * a + 2) else if q = 22 then gI m (1, 13, 0) (580 * a + 3) else gI m (1, 0, 0) q := fun q => by rw [B.2.1 q, a1, a1, a1, a1, a1]
  have n0 : ∀ i, i < n → kn m2 i = kn m i := fun i hi => by
    have := A.k1 (i := i) (by omega)
    rw [show 8 * 0 + i = i by omega] at this
    rw [k2, this, (g3 i hi).1]
  have p0 : ∀ i, i < n → gI m2 (0, 8, i) 1 = gI m (0, 8, i) 1 := fun i hi => by
    have := A.h1 (i := i) (q := 1) (by omega) (by omega) (by omega)
    rw [show 8 * 0 + i = i by omega] at this
    rw [b0, this, (g3 i hi).2]
  have l5 : gI m2 (0, 5, 0) 6 = gI m (0, 5, 0) 6 := (b0 5 0 6).trans ((A.s1 (by omega) (by omega)).trans g4)
  have hc2 : CurR n m2 := by
    refine ⟨h8, by rw [f0 10]; exact hm, fun z => absurd z (by omega), fun _ => ⟨LoudR.mv n0 (fun i _ => b1 7 0 i (by simp)) (fun i _ => b1 8 0 i (by simp)) p0 l5 (by rw [f0 12]; rfl) hl, ⟨T, (f0 20).trans s1, SR.mv h8 (fun q q3 q8 => (b0 ..).trans (A.s1 q3 q8)) (fun i q hi q1 q4 => (b0 ..).trans (A.h1 hi q1 q4)) (fun t q ht q1 q4 => (b0 ..).trans (A.t1 ht q1 q4)) (fun t q ht hq => (b0 ..).trans (A.a1 ht hq)) (fun i q hi hq => (b0 ..).trans (A.d1 hi hq)) (f0 11) (f0 21) (f0 22) (fun i hi => ?_) (fun i hi => ?_) (fun i hi => ?_) (fun i hi => ?_) (fun i hi => ?_) s2⟩, fun k hk3 => ?_⟩⟩
    · rw [(B.2.2.1 i hi).1, a1, Nat.add_assoc]
    · rw [(B.2.2.1 i hi).2.1, a1, Nat.add_assoc]
    · rw [(B.2.2.1 i hi).2.2, a1, Nat.add_assoc]
    · rw [B.2.2.2.1 i hi, a1, Nat.add_assoc]
    · rw [B.2.2.2.2 i hi, a1, Nat.add_assoc]
    · have hu : 1 + k ≠ 0 := by omega
      exact KeptR.mv h8 (fun q q3 q8 => (b0 ..).trans (A.s0 hu q3 q8)) (fun i q hi q1 q4 => (b0 ..).trans (A.h0 hu hi q1 q4)) (fun t q ht q1 q4 => (b0 ..).trans (A.t0 hu ht q1 q4)) (fun t q ht hq => (b0 ..).trans (A.a0 hu ht hq)) (fun i q hi hq => (b0 ..).trans (A.d0 hu hi hq)) (fun j j1 j2 => b1 13 0 j (by simp)) n0 (fun i hi => (k2 _).trans (A.k0 hu hi)) p0 l5 (hk k hk3)
  refine R.ofCur (n := n) B.1.ok hc2 (fun t i k q => (b0 t i k).trans (A.1.2.2.1 t i k (by simp; omega))) (fun t k q => b1 t 0 k (by simp; omega)) (TellR.mv A.1 B.1 (fun t ht => ⟨by simp; omega, by simp⟩) ⟨by simp, by simp⟩ (f0 0) (f0 2) R.2.2.2.1)

theorem p_keep {d : Nat} {m : Mem} {K : Option Vv → Option Vv → Mem → Prop} (R : RelAB m) {v : Int32} (h : ∀ v m', RelAB m' → K v v m') : cW (d + 3) n_X_keep [vo 0 0 0, vi v] m (fun u m1 => cW (d + 3) n_M_keep [vo 1 0 0, vi v] m1 (fun w m2 => K u w m2)) := by
  have hR := R.1
  obtain ⟨n, hc⟩ := R.2.2.2.2
  have ht := R.2.2.2.1
  obtain ⟨q1, q2⟩ := hc.many
  have h8 := hc.le
  by_cases q : 0 ≤ v ∧ v ≤ 2
  · obtain ⟨a, ha', rfl⟩ := nI_of2 (x := v) (M := 2) (n := 2) rfl (by grind) q.2
    have ha : a < 3 := by omega
    have e0 : (nI a).toNatClampNeg = a := nI_clamp (by omega)
    rcases Nat.eq_zero_or_pos n with z | z
    · subst z
      refine w_X_keep (Go.runR (callT_mono MT _) [] 200 (by repeat' (first | exact hR | exact A.1.1 | apply OKR.pI | apply OKR.pL | apply OKR.cpI | apply OKR.wI)) ?_)
      refine m_X_isKeptPlace (by repeat' (first | exact hR | exact A.1.1 | apply OKR.pI | apply OKR.pL | apply OKR.cpI | apply OKR.wI)) (And.intro (by repeat' (first | exact hR | exact A.1.1 | apply OKR.pI | apply OKR.pL | apply OKR.cpI | apply OKR.wI)) ?_)
      rw [show b2 (0 ≤ nI a ∧ nI a ≤ 2) = 1 from if_pos q]
      refine And.intro (fun c3 => ?_) (fun c3 => ?_)
      · first | exact absurd c3 (by decide) | exact absurd (by decide) c3 | (exfalso; grind)
      · try dsimp only at c3
        refine And.intro ⟨(by first | decide | assumption | omega), (by first | decide | assumption | omega)⟩ ?_
        refine And.intro (fun c9 => ?_) (fun c9 => ?_)
        · try dsimp only at c9
          refine And.intro trivial ?_
          refine w_M_keep (Go.runR (callT_mono MT _) [48, 91, 110] 200 (by repeat' (first | exact hR | exact A.1.1 | apply OKR.pI | apply OKR.pL | apply OKR.cpI | apply OKR.wI)) ?_)
          refine m_M_in (by repeat' (first | exact hR | exact A.1.1 | apply OKR.pI | apply OKR.pL | apply OKR.cpI | apply OKR.wI)) (And.intro (by repeat' (first | exact hR | exact A.1.1 | apply OKR.pI | apply OKR.pL | apply OKR.cpI | apply OKR.wI)) ?_)
          rw [show b2 (0 ≤ nI a ∧ nI a ≤ 2) = 1 from if_pos q]
          refine And.intro (fun c4 => ?_) (fun c4 => ?_)
          · first | exact absurd c4 (by decide) | exact absurd (by decide) c4 | (exfalso; grind)
          · try dsimp only at c4
            refine And.intro (fun c9 => ?_) (fun c9 => ?_)
            · try dsimp only at c9
              refine And.intro trivial ?_
              exact h _ _ R
            · exact absurd (show gI m (1, 0, 0) 10 = 0 from q2) c9
        · exact absurd (show gI m (0, 5, 0) 3 = 0 from q1) c9
    · obtain ⟨T, hT, t1, t2, t3⟩ := hc.hrs
      refine w_X_keep (Go.runR (callT_mono MT _) [] 200 (by repeat' (first | exact hR | exact A.1.1 | apply OKR.pI | apply OKR.pL | apply OKR.cpI | apply OKR.wI)) ?_)
      refine m_X_isKeptPlace (by repeat' (first | exact hR | exact A.1.1 | apply OKR.pI | apply OKR.pL | apply OKR.cpI | apply OKR.wI)) (And.intro (by repeat' (first | exact hR | exact A.1.1 | apply OKR.pI | apply OKR.pL | apply OKR.cpI | apply OKR.wI)) ?_)
      rw [show b2 (0 ≤ nI a ∧ nI a ≤ 2) = 1 from if_pos q]
      refine And.intro (fun c3 => ?_) (fun c3 => ?_)
      · first | exact absurd c3 (by decide) | exact absurd (by decide) c3 | (exfalso; grind)
      · try dsimp only at c3
        refine And.intro ⟨(by first | decide | assumption | omega), (by first | decide | assumption | omega)⟩ ?_
        refine And.intro (fun c9 => ?_) (fun c9 => ?_)
        · exact absurd (show nI n = 0 from q1.symm.trans c9) (sz0 z (by omega))
        · try dsimp only at c9
          refine And.intro ⟨(by first | decide | assumption | omega), (by first | decide | assumption | omega)⟩ ?_
          refine And.intro ⟨(vp_nI (k := a) (N := 3) ha (by decide)), ⟨rfl, by rw [e0]; exact ha⟩⟩ ?_
          refine And.intro ⟨(by first | decide | assumption | omega), (by first | decide | assumption | omega)⟩ ?_
          refine m_St_becomeLike (by repeat' (first | exact hR | exact A.1.1 | apply OKR.pI | apply OKR.pL | apply OKR.cpI | apply OKR.wI)) (s := 1 + a) (r := 0) (by rw [e0]) rfl (by omega) (by omega) (by omega) (fun m1 A => And.intro A.1.1 ?_)
          refine And.intro ⟨(by first | decide | assumption | omega), (by first | decide | assumption | omega)⟩ ?_
          refine And.intro trivial ?_
          have e1 : ∀ k, gI m1 (1, 0, 0) k = gI m (1, 0, 0) k := fun k => A.1.2.2.2 0 0 k (by simp)
          refine m_M_keep1 A.1.1 ha z h8 ((e1 10).trans q2) (fun m2 B => ?_)
          rw [show gI m1 (1, 0, 0) 20 = gI m1 (0, 5, 0) 4 from ((e1 20).trans t2).trans (((A.s0 (u := 0) (by omega) (by omega) (by omega)).trans t1).symm)]
          exact h _ _ (R.keep hc z ha A B)
  · refine w_X_keep (Go.runR (callT_mono MT _) [] 200 (by repeat' (first | exact hR | exact A.1.1 | apply OKR.pI | apply OKR.pL | apply OKR.cpI | apply OKR.wI)) ?_)
    refine m_X_isKeptPlace (by repeat' (first | exact hR | exact A.1.1 | apply OKR.pI | apply OKR.pL | apply OKR.cpI | apply OKR.wI)) (And.intro (by repeat' (first | exact hR | exact A.1.1 | apply OKR.pI | apply OKR.pL | apply OKR.cpI | apply OKR.wI)) ?_)
    rw [show b2 (0 ≤ v ∧ v ≤ 2) = 0 from if_neg q]
    refine And.intro (fun c3 => ?_) (fun c3 => ?_)
    · try dsimp only at c3
      refine And.intro trivial ?_
      refine w_M_keep (Go.runR (callT_mono MT _) [48, 91, 110] 200 (by repeat' (first | exact hR | exact A.1.1 | apply OKR.pI | apply OKR.pL | apply OKR.cpI | apply OKR.wI)) ?_)
      refine m_M_in (by repeat' (first | exact hR | exact A.1.1 | apply OKR.pI | apply OKR.pL | apply OKR.cpI | apply OKR.wI)) (And.intro (by repeat' (first | exact hR | exact A.1.1 | apply OKR.pI | apply OKR.pL | apply OKR.cpI | apply OKR.wI)) ?_)
      rw [show b2 (0 ≤ v ∧ v ≤ 2) = 0 from if_neg q]
      refine And.intro (fun c4 => ?_) (fun c4 => ?_)
      · try dsimp only at c4
        refine And.intro trivial ?_
        exact h _ _ R
      · first | exact absurd c4 (by decide) | exact absurd (by decide) c4 | (exfalso; grind)
    · first | exact absurd c3 (by decide) | exact absurd (by decide) c3 | (exfalso; grind)

theorem p_on {d : Nat} {m : Mem} {K : Option Vv → Option Vv → Mem → Prop} (R : RelAB m) {v : Int32} (h : ∀ v m', RelAB m' → K v v m') : cW (d + 3) n_X_on [vo 0 0 0, vi v] m (fun u m1 => cW (d + 3) n_M_on [vo 1 0 0, vi v] m1 (fun w m2 => K u w m2)) := by
  have hR := R.1
  obtain ⟨n, hc⟩ := R.2.2.2.2
  have ht := R.2.2.2.1
  have h8 := hc.le
  by_cases q : 0 ≤ v ∧ v ≤ 2
  · obtain ⟨a, ha', rfl⟩ := nI_of2 (x := v) (M := 2) (n := 2) rfl (by grind) q.2
    have ha : a < 3 := by omega
    have e0 : (nI a).toNatClampNeg = a := nI_clamp (by omega)
    have e5 : ((580 : Int32) * nI a).toNatClampNeg = 580 * a := by rw [pk580, nI_clamp (by omega)]
    by_cases y : gI m (0, 5, 1 + a) 3 = 0
    · refine w_X_on (Go.runR (callT_mono MT _) [] 200 (by repeat' (first | exact hR | exact A.1.1 | apply OKR.pI | apply OKR.pL | apply OKR.cpI | apply OKR.wI)) ?_)
      refine m_X_isKeptPlace (by repeat' (first | exact hR | exact A.1.1 | apply OKR.pI | apply OKR.pL | apply OKR.cpI | apply OKR.wI)) (And.intro (by repeat' (first | exact hR | exact A.1.1 | apply OKR.pI | apply OKR.pL | apply OKR.cpI | apply OKR.wI)) ?_)
      rw [show b2 (0 ≤ nI a ∧ nI a ≤ 2) = 1 from if_pos q]
      refine And.intro (fun c3 => ?_) (fun c3 => ?_)
      · first | exact absurd c3 (by decide) | exact absurd (by decide) c3 | (exfalso; grind)
      · try dsimp only at c3
        refine And.intro ⟨(by first | decide | assumption | omega), (by first | decide | assumption | omega)⟩ ?_
        refine And.intro ⟨(vp_nI (k := a) (N := 3) ha (by decide)), ⟨rfl, by rw [e0]; exact ha⟩⟩ ?_
        rw [show (nI a).toNatClampNeg = a from e0]
        refine m_X_isMissing (by repeat' (first | exact hR | exact A.1.1 | apply OKR.pI | apply OKR.pL | apply OKR.cpI | apply OKR.wI)) (And.intro (by repeat' (first | exact hR | exact A.1.1 | apply OKR.pI | apply OKR.pL | apply OKR.cpI | apply OKR.wI)) ?_)
        rw [if_pos y]
        refine And.intro (fun c11 => ?_) (fun c11 => ?_)
        · first | exact absurd c11 (by decide) | exact absurd (by decide) c11 | (exfalso; grind)
        · try dsimp only at c11
          refine m_X_found1 (by repeat' (first | exact hR | exact A.1.1 | apply OKR.pI | apply OKR.pL | apply OKR.cpI | apply OKR.wI))  (And.intro (by repeat' (first | exact hR | exact A.1.1 | apply OKR.pI | apply OKR.pL | apply OKR.cpI | apply OKR.wI)) ?_)
          refine And.intro trivial ?_
          refine w_M_on (Go.runR (callT_mono MT _) [53, 96, 115] 200 (by repeat' (first | exact hR | exact A.1.1 | apply OKR.pI | apply OKR.pL | apply OKR.cpI | apply OKR.wI)) ?_)
          refine m_M_in (by repeat' (first | exact hR | exact A.1.1 | apply OKR.pI | apply OKR.pL | apply OKR.cpI | apply OKR.wI)) (And.intro (by repeat' (first | exact hR | exact A.1.1 | apply OKR.pI | apply OKR.pL | apply OKR.cpI | apply OKR.wI)) ?_)
          rw [show b2 (0 ≤ nI a ∧ nI a ≤ 2) = 1 from if_pos q]
          refine And.intro (fun c4 => ?_) (fun c4 => ?_)
          · first | exact absurd c4 (by decide) | exact absurd (by decide) c4 | (exfalso; grind)
          · try dsimp only at c4
            refine And.intro ⟨rfl, rfl, rfl⟩ ?_
            refine And.intro (by show vp_in ((580 : Int32) * nI a) 1740; rw [pk580]; exact vp_nI (by omega) (by decide)) ?_
            refine And.intro (fun c16 => ?_) (fun c16 => ?_)
            · try dsimp only at c16
              refine m_M_meet1 (by repeat' (first | exact hR | exact A.1.1 | apply OKR.pI | apply OKR.pL | apply OKR.cpI | apply OKR.wI))  (And.intro (by repeat' (first | exact hR | exact A.1.1 | apply OKR.pI | apply OKR.pL | apply OKR.cpI | apply OKR.wI)) ?_)
              refine And.intro trivial ?_
              exact h _ _ (R.meet (by omega) (by omega))
            · exact absurd (show gI m (1, 13, 0) ((580 : Int32) * nI a).toNatClampNeg = -9 by rw [e5]; exact (hc.kept ha).mpr y) c16
    · have y9 : ¬ gI m (1, 13, 0) (580 * a) = -9 := fun x => y ((hc.kept ha).mp x)
      have hn : 0 < n := by
        rcases Nat.eq_zero_or_pos n with z | z
        · exact absurd ((hc.2.2.1 z).2.2.2.2.2.2.2.2.2 a ha).1 y
        · exact z
      refine w_X_on (Go.runR (callT_mono MT _) [] 200 (by repeat' (first | exact hR | exact A.1.1 | apply OKR.pI | apply OKR.pL | apply OKR.cpI | apply OKR.wI)) ?_)
      refine m_X_isKeptPlace (by repeat' (first | exact hR | exact A.1.1 | apply OKR.pI | apply OKR.pL | apply OKR.cpI | apply OKR.wI)) (And.intro (by repeat' (first | exact hR | exact A.1.1 | apply OKR.pI | apply OKR.pL | apply OKR.cpI | apply OKR.wI)) ?_)
      rw [show b2 (0 ≤ nI a ∧ nI a ≤ 2) = 1 from if_pos q]
      refine And.intro (fun c3 => ?_) (fun c3 => ?_)
      · first | exact absurd c3 (by decide) | exact absurd (by decide) c3 | (exfalso; grind)
      · try dsimp only at c3
        refine And.intro ⟨(by first | decide | assumption | omega), (by first | decide | assumption | omega)⟩ ?_
        refine And.intro ⟨(vp_nI (k := a) (N := 3) ha (by decide)), ⟨rfl, by rw [e0]; exact ha⟩⟩ ?_
        rw [show (nI a).toNatClampNeg = a from e0]
        refine m_X_isMissing (by repeat' (first | exact hR | exact A.1.1 | apply OKR.pI | apply OKR.pL | apply OKR.cpI | apply OKR.wI)) (And.intro (by repeat' (first | exact hR | exact A.1.1 | apply OKR.pI | apply OKR.pL | apply OKR.cpI | apply OKR.wI)) ?_)
        rw [if_neg y]
        refine And.intro (fun c11 => ?_) (fun c11 => ?_)
        · try dsimp only at c11
          refine And.intro ⟨(by first | decide | assumption | omega), (by first | decide | assumption | omega)⟩ ?_
          refine And.intro ⟨(by first | decide | assumption | omega), (by first | decide | assumption | omega)⟩ ?_
          refine And.intro ⟨(vp_nI (k := a) (N := 3) ha (by decide)), ⟨rfl, by rw [e0]; exact ha⟩⟩ ?_
          refine m_St_becomeLike (by repeat' (first | exact hR | exact A.1.1 | apply OKR.pI | apply OKR.pL | apply OKR.cpI | apply OKR.wI)) (s := 0) (r := 1 + a) rfl (by rw [e0]) (by omega) (by omega) (by omega) (fun m1 A => And.intro A.1.1 ?_)
          refine And.intro ⟨(by first | decide | assumption | omega), (by first | decide | assumption | omega)⟩ ?_
          refine And.intro trivial ?_
          have e1 : ∀ k, gI m1 (1, 13, 0) k = gI m (1, 13, 0) k := fun k => A.1.2.2.2 13 0 k (by simp)
          refine m_M_on1 A.1.1 ha (by rw [e1]; exact y9) (fun m2 B => ?_)
          rw [show gI m1 (1, 13, 0) (580 * a) = gI m1 (0, 5, 0) 4 from (by
            rw [e1, A.s1 (by omega) (by omega)]
            rcases (hc.2.2.2 hn).2.2 a ha with x | ⟨T, x1, x2, -⟩
            · exact absurd x.1 y
            · rw [x1]
              exact x2.2.1.symm)]
          exact h _ _ (R.on hc hn ha y A B)
        · first | exact absurd c11 (by decide) | exact absurd (by decide) c11 | (exfalso; grind)
  · refine w_X_on (Go.runR (callT_mono MT _) [] 200 (by repeat' (first | exact hR | exact A.1.1 | apply OKR.pI | apply OKR.pL | apply OKR.cpI | apply OKR.wI)) ?_)
    refine m_X_isKeptPlace (by repeat' (first | exact hR | exact A.1.1 | apply OKR.pI | apply OKR.pL | apply OKR.cpI | apply OKR.wI)) (And.intro (by repeat' (first | exact hR | exact A.1.1 | apply OKR.pI | apply OKR.pL | apply OKR.cpI | apply OKR.wI)) ?_)
    rw [show b2 (0 ≤ v ∧ v ≤ 2) = 0 from if_neg q]
    refine And.intro (fun c3 => ?_) (fun c3 => ?_)
    · try dsimp only at c3
      refine And.intro trivial ?_
      refine w_M_on (Go.runR (callT_mono MT _) [53, 96, 115] 200 (by repeat' (first | exact hR | exact A.1.1 | apply OKR.pI | apply OKR.pL | apply OKR.cpI | apply OKR.wI)) ?_)
      refine m_M_in (by repeat' (first | exact hR | exact A.1.1 | apply OKR.pI | apply OKR.pL | apply OKR.cpI | apply OKR.wI)) (And.intro (by repeat' (first | exact hR | exact A.1.1 | apply OKR.pI | apply OKR.pL | apply OKR.cpI | apply OKR.wI)) ?_)
      rw [show b2 (0 ≤ v ∧ v ≤ 2) = 0 from if_neg q]
      refine And.intro (fun c4 => ?_) (fun c4 => ?_)
      · try dsimp only at c4
        refine And.intro trivial ?_
        exact h _ _ R
      · first | exact absurd c4 (by decide) | exact absurd (by decide) c4 | (exfalso; grind)
    · first | exact absurd c3 (by decide) | exact absurd (by decide) c3 | (exfalso; grind)
