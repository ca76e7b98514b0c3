/-! Written by a program (wip/whole/p75.py): feathers, both sides. -/
theorem suF_0 : ∀ n, suF (fun _ => 0) n = 0
  | 0 => rfl
  | n + 1 => by
    show suF (fun _ => 0) n + 0 = 0
    rw [suF_0 n]
    rfl
theorem Nx.s1 {a b : List Nat} {m m' : Mem} (h : Nx a b m m') {t i : Nat} {f : Nat → Int32} (ht : t ∈ b) : Nx a b m (sI m' (1, t, i) f) :=
  ⟨h.1.wI, fun o k => (gR_sI ..).trans (h.2.1 o k), fun o k => (gL_sI ..).trans (h.2.2.1 o k), fun t' i' k' q => h.2.2.2.1 t' i' k' q, fun t' i' k' q => by
    rw [sI11, if_neg (fun z : t' = t ∧ i' = i => q (z.1 ▸ ht))]; exact h.2.2.2.2 t' i' k' q⟩
theorem Nx.s0 {a b : List Nat} {m m' : Mem} (h : Nx a b m m') {t i : Nat} {f : Nat → Int32} (ht : t ∈ a) : Nx a b m (sI m' (0, t, i) f) :=
  ⟨h.1.wI, fun o k => (gR_sI ..).trans (h.2.1 o k), fun o k => (gL_sI ..).trans (h.2.2.1 o k), fun t' i' k' q => by
    rw [sI00, if_neg (fun z : t' = t ∧ i' = i => q (z.1 ▸ ht))]; exact h.2.2.2.1 t' i' k' q, fun t' i' k' q => h.2.2.2.2 t' i' k' q⟩
theorem Rg.sc {a n k : Nat} {D : SDt} {L : Nat → Int32} {m0 m : Mem} (H : Rg a n k L m0 m) (hS : SC n D m0) : SC n D m := SC.cg (m := m0) H.1.ok H.1.kn (fun t i k q => H.1.2.2.2.1 t i k (by simp)) (fun k _ => H.1.2.2.2.2 0 0 k (by simp)) (fun t k _ => H.1.2.2.2.2 t 0 k (by simp; omega)) hS
theorem Rf.rg {a n k : Nat} {L : Nat → Int32} {m0 m : Mem} (H : Rf n L m0 m) (ha : a < 6) : Rg a n 0 L m0 (sI (pI m (1, 2, 0) a (nI n)) (1, 3, 0) (fun j => if 40 * a + 0 ≤ j ∧ j < 40 * a + 40 then 0 else gI m (1, 3, 0) j)) := by
  have w : Nx [] [2, 3, 16] m0 m := ⟨H.1.1, H.1.2.1, H.1.2.2.1, H.1.2.2.2.1, fun t i k q => H.1.2.2.2.2 t i k (by simp at q ⊢; omega)⟩
  refine ⟨(w.p1 (by simp)).s1 (by simp), fun i hi => ?_, fun r => ?_, fun r i hr hra hi => ?_, fun i hi => absurd hi (by omega)⟩
  · rw [sI11, if_neg (by omega), rd11, if_neg (by omega)]; exact H.2 i hi
  · rw [sI11, if_neg (by omega), rd11]
    by_cases z : r = a
    · rw [if_pos ⟨rfl, rfl, z⟩, if_pos z]
    · rw [if_neg (fun y => z y.2.2), if_neg z]
      exact H.1.2.2.2.2 2 0 r (by simp)
  · rw [sI11, if_pos ⟨rfl, rfl⟩]
    rw [if_neg (by omega)]
    exact H.1.2.2.2.2 3 0 _ (by simp)

theorem l_M_feathers33 {d n s a q : Nat} {D : SDt} {m0 : Mem} {K : Option Vv → Mem → Prop} (hS : SC n D m0) (hs : s < 256) (ha : a < 6) (hq : q ≤ 20) (h : ∀ m, Rg a n n (LF n D s q) m0 m → K (some (vi (nI (rs n D s) - suF (LF n D s q) n))) m) (k : Nat) (m : Mem) (H : Rf n (LF n D s k) m0 m) (hk : k ≤ q) (z1 z2 z3 : Vv) : Go (cW (d + 3)) i_M_feathers (0, 0) K 33 [vo 1 0 0, vi (nI s), vi (nI q), vi (nI a), vi (nI k), z1, z2, z3] [] m 0 0 := by
  have hR := H.1.ok
  have hS2 := H.sc hS
  have h8 := hS.2.1
  have q3 : gI m (1, 0, 0) 10 = nI n := hS2.2.2.2.1
  refine Go.runR (callT_mono MT _) [33, 40, 103] 200 hR ?_
  refine And.intro (fun c35 => ?_) (fun c35 => ?_)
  · try dsimp only at c35
    obtain rfl := lq_e c35 rfl rfl hk (by omega)
    have hg := Rf.rg (k := 0) H ha
    show cW _ n_M_row [vo 1 0 0, vi (nI a), vi (gI m (1, 0, 0) 10)] _ _
    rw [q3]
    refine m_M_row (by repeat' (first | exact hR | apply OKR.pI | apply OKR.pL | apply OKR.cpI | apply OKR.wI)) (fun z => absurd ⟨isrow_in ha, nI_le (a := n) (b := 40) (by omega) (by omega)⟩ z) (fun _ z => absurd z (nI_pos (by omega))) (fun a' k' ha' hk' e1 e2 => ?_)
    obtain rfl := nI_in1 (by omega) (by omega) e1
    obtain rfl := nI_in1 (by omega) (by omega) e2
    refine And.intro hg.1.ok ?_
    refine m_M_ripples (hg.sc hS) rfl hs (And.intro hg.1.ok ?_)
    refine go_eq (ls' := [vo 1 0 0, vi (nI s), vi (nI k), vi (nI a), vi (nI (rs n D s) - suF (LF n D s k) 0), vi (nI 0), z2, z3]) (by rw [show suF (LF n D s k) 0 = 0 from rfl, Int32.sub_zero]; rfl) rfl (l_M_feathers103 hS hs ha hq h 0 _ hg (Nat.zero_le _) z2 z3)
  · try dsimp only at c35
    have hk2 := lq_m c35 rfl rfl hk (by omega)
    refine go_eq (ls' := [vo 1 0 0, vi (nI s), vi (nI q), vi (nI a), vi (nI k), vi (eF (bF D (LF n D s k) s 0)), vi (nI 0), z3]) rfl rfl (l_M_feathers40 hS hs m H (fun m1 y1 y2 y3 B => ?_) 0 (Nat.zero_le _) z3)
    exact go_eq (by rw [← nI_succ]) rfl (l_M_feathers33 hS hs ha hq h (k + 1) m1 B hk2 y1 y2 y3)
termination_by q - k
decreasing_by all_goals omega

theorem l_M_feathers21 {d n s a q : Nat} {D : SDt} {m0 : Mem} {K : Option Vv → Mem → Prop} (hS : SC n D m0) (hs : s < 256) (ha : a < 6) (hq : q ≤ 20) (h : ∀ m, Rg a n n (LF n D s q) m0 m → K (some (vi (nI (rs n D s) - suF (LF n D s q) n))) m) (k : Nat) (m : Mem) (H : Nx [] [16] m0 m ∧ ∀ i, i < k → gI m (1, 16, 0) i = 0) (hk : k ≤ 8) (z1 z2 z3 : Vv) : Go (cW (d + 3)) i_M_feathers (0, 0) K 21 [vo 1 0 0, vi (nI s), vi (nI q), vi (nI a), vi (nI k), z1, z2, z3] [] m 0 0 := by
  have hR := H.1.ok
  have h8 := hS.2.1
  have e0 : (nI k).toNatClampNeg = k := nI_clamp (by omega)
  refine Go.runR (callT_mono MT _) [21, 33] 200 hR ?_
  refine And.intro (fun c23 => ?_) (fun c23 => ?_)
  · try dsimp only at c23
    have hk2 := lq_e (n := 8) c23 rfl rfl hk (by omega)
    exact go_eq (ls' := [vo 1 0 0, vi (nI s), vi (nI q), vi (nI a), vi (nI 0), z1, z2, z3]) rfl rfl (l_M_feathers33 hS hs ha hq h 0 m ⟨H.1, fun i hi => H.2 i (by omega)⟩ (Nat.zero_le _) z1 z2 z3)
  · try dsimp only at c23
    have hk2 := lq_m (n := 8) c23 rfl rfl hk (by omega)
    refine And.intro ⟨rfl, rfl, rfl⟩ ?_
    refine And.intro (by exact vp_nI (k := k) (N := 8) (by omega) (by decide)) ?_
    refine go_eq (ls' := [vo 1 0 0, vi (nI s), vi (nI q), vi (nI a), vi (nI (k + 1)), z1, z2, z3]) (by rw [nI_succ]; rfl) rfl (l_M_feathers21 hS hs ha hq h (k + 1) _ ⟨H.1.p1 (by simp), fun i hi => ?_⟩ hk2 z1 z2 z3)
    rw [e0, rd11]
    by_cases z : i = k
    · rw [if_pos ⟨rfl, rfl, z⟩]
    · rw [if_neg (fun y => z y.2.2)]
      exact H.2 i (by omega)
termination_by 8 - k
decreasing_by all_goals omega

theorem m_M_feathers1 {d n s a q : Nat} {D : SDt} {m0 : Mem} {K : Option Vv → Mem → Prop} (hS : SC n D m0) (hs : s < 256) (ha : a < 6) (hq : q ≤ 20) (h : ∀ m, Rg a n n (LF n D s q) m0 m → K (some (vi (nI (rs n D s) - suF (LF n D s q) n))) m) (hn : 0 < n) (hs2 : s < 2 ^ n) : cW (d + 4) n_M_feathers [vo 1 0 0, vi (nI s), vi (nI q), vi (nI a)] m0 K := by
  have hR := hS.1
  have h8 := hS.2.1
  have q3 : gI m0 (1, 0, 0) 10 = nI n := hS.2.2.2.1
  refine w_M_feathers (Go.runR (callT_mono MT _) [21] 200 hR ?_)
  refine m_M_isSet1 hS rfl hs2 (And.intro (by repeat' (first | exact hR | apply OKR.pI | apply OKR.pL | apply OKR.cpI | apply OKR.wI)) ?_)
  refine And.intro (fun c3 => ?_) (fun c3 => ?_)
  · first | exact absurd c3 (by decide) | exact absurd (by decide) c3 | (exfalso; grind)
  · try dsimp only at c3
    refine m_M_in (by repeat' (first | exact hR | apply OKR.pI | apply OKR.pL | apply OKR.cpI | apply OKR.wI)) (And.intro (by repeat' (first | exact hR | apply OKR.pI | apply OKR.pL | apply OKR.cpI | apply OKR.wI)) ?_)
    rw [show b2 (0 ≤ nI q ∧ nI q ≤ 20) = 1 from if_pos ⟨nI_pos' (by omega), nI_le (a := q) (b := 20) (by omega) (by omega)⟩]
    refine And.intro (fun c8 => ?_) (fun c8 => ?_)
    · first | exact absurd c8 (by decide) | exact absurd (by decide) c8 | (exfalso; grind)
    · try dsimp only at c8
      refine m_M_isRow1 (by repeat' (first | exact hR | apply OKR.pI | apply OKR.pL | apply OKR.cpI | apply OKR.wI)) ha (And.intro (by repeat' (first | exact hR | apply OKR.pI | apply OKR.pL | apply OKR.cpI | apply OKR.wI)) ?_)
      refine And.intro (fun c11 => ?_) (fun c11 => ?_)
      · first | exact absurd c11 (by decide) | exact absurd (by decide) c11 | (exfalso; grind)
      · try dsimp only at c11
        refine And.intro (fun c16 => ?_) (fun c16 => ?_)
        · exact absurd (show nI n = 0 from q3.symm.trans c16) (sz0 hn (by omega))
        · try dsimp only at c16
          exact go_eq (ls' := [vo 1 0 0, vi (nI s), vi (nI q), vi (nI a), vi (nI 0), vu, vu, vu]) rfl rfl (l_M_feathers21 hS hs ha hq h 0 m0 ⟨Nx.refl hR, fun i hi => absurd hi (by omega)⟩ (by omega) vu vu vu)

theorem RelAB.cells2 {m m' : Mem} (R : RelAB m) (hok : OKR m') (hr : RowsR m') (ht : TextsR m') (h0 : ∀ t i k, t ≠ 1 → t ≠ 2 → gI m' (0, t, i) k = gI m (0, t, i) k) (h1 : ∀ t i k, t ∉ [2, 3, 16] → gI m' (1, t, i) k = gI m (1, t, i) k) (hL : ∀ o k, gL m' o k = gL m o k) (hR : ∀ o k, gR m' o k = gR m o k) : RelAB m' := by
  obtain ⟨a, b, c, d, n, e⟩ := R
  refine ⟨hok, hr, ht, ?_, n, e.cg (fun i => kn_cg hR i) (fun t i k q => h0 t i k (by omega) (by omega)) (fun k q => h1 0 0 k (by simp)) (fun t k q => h1 t 0 k (by simp; omega))⟩
  unfold TellR at *
  simp only [h0 0 _ _ (by omega) (by omega), h0 19 _ _ (by omega) (by omega), h0 15 _ _ (by omega) (by omega), h0 16 _ _ (by omega) (by omega), h1 0 _ _ (by simp), h1 1 _ _ (by simp), hL]
  exact d
theorem RelAB.feathers {n a : Nat} {L : Nat → Int32} {m m1 m2 : Mem} (R : RelAB m) (h8 : n ≤ 8) (ha : a < 6) (A : Cf a n L m m1) (B : Rg a n n L m1 m2) : RelAB m2 := by
  have b0 : ∀ t i k, gI m2 (0, t, i) k = gI m1 (0, t, i) k := fun t i k => B.1.2.2.2.1 t i k (by simp)
  have a1 : ∀ t i k, gI m1 (1, t, i) k = gI m (1, t, i) k := fun t i k => A.1.2.2.2.2 t i k (by simp)
  refine R.cells2 B.1.ok ?_ ?_ (fun t i k h1 h2 => (b0 t i k).trans (A.1.2.2.2.1 t i k (by simp; omega))) (fun t i k q => (B.1.2.2.2.2 t i k q).trans (a1 t i k)) (fun o k => (B.1.2.2.1 o k).trans (A.1.2.2.1 o k)) (fun o k => (B.1.2.1 o k).trans (A.1.2.1 o k))
  · intro r hr
    rw [b0 1 r 1, A.2.1, B.2.2.1]
    by_cases z : r = a
    · subst z
      rw [if_pos ⟨rfl, rfl⟩, if_pos rfl]
      refine Or.inr ⟨n, by omega, rfl, rfl, fun k hk => ?_⟩
      rw [b0, A.2.2.2 k hk, B.2.2.2.2 k hk]
    · rw [if_neg (fun y => z y.1), if_neg z, a1]
      rcases R.2.1 r hr with y | ⟨l, y1, y2, y3, y4⟩
      · exact Or.inl y
      · refine Or.inr ⟨l, y1, y2, y3, fun k hk => ?_⟩
        rw [b0, A.2.2.1 r k z, B.2.2.2.1 r k hr z (by omega), a1]
        exact y4 k hk
  · refine TextsR.cg (m := m) (fun r => ?_) (fun r k => ?_) (fun k => (B.1.2.2.2.2 5 0 k (by simp)).trans (a1 5 0 k)) (fun k => (B.1.2.2.2.2 6 0 k (by simp)).trans (a1 6 0 k)) R.2.2.1
    · rw [b0, A.2.1, if_neg (by omega)]
    · rw [b0, A.2.2.1 _ k (by omega)]

theorem p_feathers {d : Nat} {m : Mem} {K : Option Vv → Option Vv → Mem → Prop} (R : RelAB m) {u' v r : Int32} (h : ∀ v m', RelAB m' → K v v m') : cW (d + 4) n_X_feathers [vo 0 0 0, vi u', vi v, vi r] m (fun u m1 => cW (d + 4) n_M_feathers [vo 1 0 0, vi u', vi v, vi r] m1 (fun w m2 => K u w m2)) := by
  have hR := R.1
  obtain ⟨n, hc⟩ := R.2.2.2.2
  obtain ⟨D, hS⟩ := hc.sc hR
  have ht := R.2.2.2.1
  obtain ⟨q1, q2⟩ := hc.many
  have h8 := hc.le
  rcases setCase (n := n) u' with ⟨s, hs2, rfl⟩ | qs
  · by_cases q' : 0 ≤ v ∧ v ≤ 20
    · obtain ⟨q, hq, rfl⟩ := nI_of2 (x := v) (M := 20) (n := 20) rfl (by grind) q'.2
      by_cases qr : 0 ≤ r ∧ r ≤ 5
      · obtain ⟨a, ha, rfl⟩ := row_of2 qr
        have ea : (nI a).toNatClampNeg = a := nI_clamp (by omega)
        have l40 : ln (0, 2, a) = 40 := if_pos ha
        have hs : s < 256 := Nat.lt_of_lt_of_le hs2 (show 2 ^ n ≤ 2 ^ 8 from Nat.pow_le_pow_right (by omega) h8)
        rcases Nat.eq_zero_or_pos n with z | z
        · subst z
          refine w_X_feathers (Go.runR (callT_mono MT _) [40] 200 (by repeat' (first | exact hR | apply OKR.pI | apply OKR.pL | apply OKR.cpI | apply OKR.wI)) ?_)
          refine And.intro ⟨(by first | decide | assumption | omega), (by first | decide | assumption | omega)⟩ ?_
          refine m_St_hasSet1 hS rfl hs2 (And.intro (by repeat' (first | exact hR | apply OKR.pI | apply OKR.pL | apply OKR.cpI | apply OKR.wI)) ?_)
          refine And.intro (fun c4 => ?_) (fun c4 => ?_)
          · first | exact absurd c4 (by decide) | exact absurd (by decide) c4 | (exfalso; grind)
          · try dsimp only at c4
            refine m_X_isWithin (by repeat' (first | exact hR | apply OKR.pI | apply OKR.pL | apply OKR.cpI | apply OKR.wI)) (And.intro (by repeat' (first | exact hR | apply OKR.pI | apply OKR.pL | apply OKR.cpI | apply OKR.wI)) ?_)
            rw [show b2 (0 ≤ nI q ∧ nI q ≤ 20) = 1 from if_pos q']
            refine And.intro (fun c9 => ?_) (fun c9 => ?_)
            · first | exact absurd c9 (by decide) | exact absurd (by decide) c9 | (exfalso; grind)
            · try dsimp only at c9
              refine m_X_isRow1 (by repeat' (first | exact hR | apply OKR.pI | apply OKR.pL | apply OKR.cpI | apply OKR.wI)) ha (And.intro (by repeat' (first | exact hR | apply OKR.pI | apply OKR.pL | apply OKR.cpI | apply OKR.wI)) ?_)
              refine And.intro (fun c13 => ?_) (fun c13 => ?_)
              · first | exact absurd c13 (by decide) | exact absurd (by decide) c13 | (exfalso; grind)
              · try dsimp only at c13
                refine And.intro ⟨(by first | decide | assumption | omega), (by first | decide | assumption | omega)⟩ ?_
                refine And.intro (fun c19 => ?_) (fun c19 => ?_)
                · try dsimp only at c19
                  refine And.intro trivial ?_
                  refine w_M_feathers (Go.runR (callT_mono MT _) [21] 200 (by repeat' (first | exact hR | apply OKR.pI | apply OKR.pL | apply OKR.cpI | apply OKR.wI)) ?_)
                  refine m_M_isSet1 hS rfl hs2 (And.intro (by repeat' (first | exact hR | apply OKR.pI | apply OKR.pL | apply OKR.cpI | apply OKR.wI)) ?_)
                  refine And.intro (fun c3 => ?_) (fun c3 => ?_)
                  · first | exact absurd c3 (by decide) | exact absurd (by decide) c3 | (exfalso; grind)
                  · try dsimp only at c3
                    refine m_M_in (by repeat' (first | exact hR | apply OKR.pI | apply OKR.pL | apply OKR.cpI | apply OKR.wI)) (And.intro (by repeat' (first | exact hR | apply OKR.pI | apply OKR.pL | apply OKR.cpI | apply OKR.wI)) ?_)
                    rw [show b2 (0 ≤ nI q ∧ nI q ≤ 20) = 1 from if_pos q']
                    refine And.intro (fun c8 => ?_) (fun c8 => ?_)
                    · first | exact absurd c8 (by decide) | exact absurd (by decide) c8 | (exfalso; grind)
                    · try dsimp only at c8
                      refine m_M_isRow1 (by repeat' (first | exact hR | apply OKR.pI | apply OKR.pL | apply OKR.cpI | apply OKR.wI)) ha (And.intro (by repeat' (first | exact hR | apply OKR.pI | apply OKR.pL | apply OKR.cpI | apply OKR.wI)) ?_)
                      refine And.intro (fun c11 => ?_) (fun c11 => ?_)
                      · first | exact absurd c11 (by decide) | exact absurd (by decide) c11 | (exfalso; grind)
                      · try dsimp only at c11
                        refine And.intro (fun c16 => ?_) (fun c16 => ?_)
                        · try dsimp only at c16
                          refine And.intro trivial ?_
                          exact h _ _ R
                        · exact absurd (show gI m (1, 0, 0) 10 = 0 from q2) c16
                · exact absurd (show gI m (0, 5, 0) 3 = 0 from q1) c19
        · have hC : Cf a n (LF n D s 0) m (sI (pI m (0, 1, a) 1 (nI n)) (0, 2, a) (fun j => if j < n then 0 else gI m (0, 2, a) j)) := by
            refine ⟨((Nx.refl hR).p0 (by simp)).s0 (by simp), fun i k => ?_, fun i k hi => ?_, fun i hi => ?_⟩
            · rw [sI00, if_neg (by omega), rd00]
              by_cases y : i = a ∧ k = 1
              · rw [if_pos ⟨rfl, y⟩, if_pos y]
              · rw [if_neg (fun x => y x.2), if_neg y]
            · rw [sI00, if_neg (fun x => hi x.2), rd00, if_neg (by omega)]
            · rw [sI00, if_pos ⟨rfl, rfl⟩]
              rw [if_pos hi]
              rfl
          refine w_X_feathers (Go.runR (callT_mono MT _) [40] 200 (by repeat' (first | exact hR | apply OKR.pI | apply OKR.pL | apply OKR.cpI | apply OKR.wI)) ?_)
          refine And.intro ⟨(by first | decide | assumption | omega), (by first | decide | assumption | omega)⟩ ?_
          refine m_St_hasSet1 hS rfl hs2 (And.intro (by repeat' (first | exact hR | apply OKR.pI | apply OKR.pL | apply OKR.cpI | apply OKR.wI)) ?_)
          refine And.intro (fun c4 => ?_) (fun c4 => ?_)
          · first | exact absurd c4 (by decide) | exact absurd (by decide) c4 | (exfalso; grind)
          · try dsimp only at c4
            refine m_X_isWithin (by repeat' (first | exact hR | apply OKR.pI | apply OKR.pL | apply OKR.cpI | apply OKR.wI)) (And.intro (by repeat' (first | exact hR | apply OKR.pI | apply OKR.pL | apply OKR.cpI | apply OKR.wI)) ?_)
            rw [show b2 (0 ≤ nI q ∧ nI q ≤ 20) = 1 from if_pos q']
            refine And.intro (fun c9 => ?_) (fun c9 => ?_)
            · first | exact absurd c9 (by decide) | exact absurd (by decide) c9 | (exfalso; grind)
            · try dsimp only at c9
              refine m_X_isRow1 (by repeat' (first | exact hR | apply OKR.pI | apply OKR.pL | apply OKR.cpI | apply OKR.wI)) ha (And.intro (by repeat' (first | exact hR | apply OKR.pI | apply OKR.pL | apply OKR.cpI | apply OKR.wI)) ?_)
              refine And.intro (fun c13 => ?_) (fun c13 => ?_)
              · first | exact absurd c13 (by decide) | exact absurd (by decide) c13 | (exfalso; grind)
              · try dsimp only at c13
                refine And.intro ⟨(by first | decide | assumption | omega), (by first | decide | assumption | omega)⟩ ?_
                refine And.intro (fun c19 => ?_) (fun c19 => ?_)
                · exact absurd (show nI n = 0 from q1.symm.trans c19) (sz0 z (by omega))
                · try dsimp only at c19
                  refine And.intro ⟨(by first | decide | assumption | omega), (by first | decide | assumption | omega)⟩ ?_
                  refine And.intro ⟨(vp_nI (k := a) (N := 6) ha (by decide)), ⟨rfl, by rw [ea]; exact ha⟩⟩ ?_
                  refine And.intro ⟨(by first | decide | assumption | omega), (by first | decide | assumption | omega)⟩ ?_
                  show cW _ n_Ce_renew [vo 0 1 (nI a).toNatClampNeg, vi (gI m (0, 5, 0) 3), vi 0] _ _
                  rw [q1, ea]
                  refine m_Ce_renew (by repeat' (first | exact hR | apply OKR.pI | apply OKR.pL | apply OKR.cpI | apply OKR.wI)) (c := a) (by omega) (by omega) (And.intro hC.1.ok ?_)
                  refine And.intro ⟨(by first | decide | assumption | omega), (by first | decide | assumption | omega)⟩ ?_
                  refine m_St_ripplesOf (hC.sc hS) rfl hs (And.intro hC.1.ok ?_)
                  refine go_eq (ls' := [vo 0 0 0, vi (nI s), vi (nI q), vi (nI a), vo 0 1 a, vi (nI (rs n D s) - suF (LF n D s 0) n), vi (nI 0), vu]) (by rw [show suF (LF n D s 0) n = 0 from suF_0 n, Int32.sub_zero]; rfl) rfl (l_X_feathers hS hs ha hq (fun m1 A => ?_) 0 _ hC (Nat.zero_le _) vu)
                  exact m_M_feathers1 (A.sc hS) hs ha hq (fun m2 B => h _ _ (R.feathers h8 ha A B)) z hs2
      · refine w_X_feathers (Go.runR (callT_mono MT _) [40] 200 (by repeat' (first | exact hR | apply OKR.pI | apply OKR.pL | apply OKR.cpI | apply OKR.wI)) ?_)
        refine And.intro ⟨(by first | decide | assumption | omega), (by first | decide | assumption | omega)⟩ ?_
        refine m_St_hasSet1 hS rfl hs2 (And.intro (by repeat' (first | exact hR | apply OKR.pI | apply OKR.pL | apply OKR.cpI | apply OKR.wI)) ?_)
        refine And.intro (fun c4 => ?_) (fun c4 => ?_)
        · first | exact absurd c4 (by decide) | exact absurd (by decide) c4 | (exfalso; grind)
        · try dsimp only at c4
          refine m_X_isWithin (by repeat' (first | exact hR | apply OKR.pI | apply OKR.pL | apply OKR.cpI | apply OKR.wI)) (And.intro (by repeat' (first | exact hR | apply OKR.pI | apply OKR.pL | apply OKR.cpI | apply OKR.wI)) ?_)
          rw [show b2 (0 ≤ nI q ∧ nI q ≤ 20) = 1 from if_pos q']
          refine And.intro (fun c9 => ?_) (fun c9 => ?_)
          · first | exact absurd c9 (by decide) | exact absurd (by decide) c9 | (exfalso; grind)
          · try dsimp only at c9
            refine m_X_isRow0 (by repeat' (first | exact hR | apply OKR.pI | apply OKR.pL | apply OKR.cpI | apply OKR.wI)) qr (And.intro (by repeat' (first | exact hR | apply OKR.pI | apply OKR.pL | apply OKR.cpI | apply OKR.wI)) ?_)
            refine And.intro (fun c13 => ?_) (fun c13 => ?_)
            · try dsimp only at c13
              refine And.intro trivial ?_
              refine w_M_feathers (Go.runR (callT_mono MT _) [21] 200 (by repeat' (first | exact hR | apply OKR.pI | apply OKR.pL | apply OKR.cpI | apply OKR.wI)) ?_)
              refine m_M_isSet1 hS rfl hs2 (And.intro (by repeat' (first | exact hR | apply OKR.pI | apply OKR.pL | apply OKR.cpI | apply OKR.wI)) ?_)
              refine And.intro (fun c3 => ?_) (fun c3 => ?_)
              · first | exact absurd c3 (by decide) | exact absurd (by decide) c3 | (exfalso; grind)
              · try dsimp only at c3
                refine m_M_in (by repeat' (first | exact hR | apply OKR.pI | apply OKR.pL | apply OKR.cpI | apply OKR.wI)) (And.intro (by repeat' (first | exact hR | apply OKR.pI | apply OKR.pL | apply OKR.cpI | apply OKR.wI)) ?_)
                rw [show b2 (0 ≤ nI q ∧ nI q ≤ 20) = 1 from if_pos q']
                refine And.intro (fun c8 => ?_) (fun c8 => ?_)
                · first | exact absurd c8 (by decide) | exact absurd (by decide) c8 | (exfalso; grind)
                · try dsimp only at c8
                  refine m_M_isRow0 (by repeat' (first | exact hR | apply OKR.pI | apply OKR.pL | apply OKR.cpI | apply OKR.wI)) qr (And.intro (by repeat' (first | exact hR | apply OKR.pI | apply OKR.pL | apply OKR.cpI | apply OKR.wI)) ?_)
                  refine And.intro (fun c11 => ?_) (fun c11 => ?_)
                  · try dsimp only at c11
                    refine And.intro trivial ?_
                    exact h _ _ R
                  · first | exact absurd c11 (by decide) | exact absurd (by decide) c11 | (exfalso; grind)
            · first | exact absurd c13 (by decide) | exact absurd (by decide) c13 | (exfalso; grind)
    · refine w_X_feathers (Go.runR (callT_mono MT _) [40] 200 (by repeat' (first | exact hR | apply OKR.pI | apply OKR.pL | apply OKR.cpI | apply OKR.wI)) ?_)
      refine And.intro ⟨(by first | decide | assumption | omega), (by first | decide | assumption | omega)⟩ ?_
      refine m_St_hasSet1 hS rfl hs2 (And.intro (by repeat' (first | exact hR | apply OKR.pI | apply OKR.pL | apply OKR.cpI | apply OKR.wI)) ?_)
      refine And.intro (fun c4 => ?_) (fun c4 => ?_)
      · first | exact absurd c4 (by decide) | exact absurd (by decide) c4 | (exfalso; grind)
      · try dsimp only at c4
        refine m_X_isWithin (by repeat' (first | exact hR | apply OKR.pI | apply OKR.pL | apply OKR.cpI | apply OKR.wI)) (And.intro (by repeat' (first | exact hR | apply OKR.pI | apply OKR.pL | apply OKR.cpI | apply OKR.wI)) ?_)
        rw [show b2 (0 ≤ v ∧ v ≤ 20) = 0 from if_neg q']
        refine And.intro (fun c9 => ?_) (fun c9 => ?_)
        · try dsimp only at c9
          refine And.intro trivial ?_
          refine w_M_feathers (Go.runR (callT_mono MT _) [21] 200 (by repeat' (first | exact hR | apply OKR.pI | apply OKR.pL | apply OKR.cpI | apply OKR.wI)) ?_)
          refine m_M_isSet1 hS rfl hs2 (And.intro (by repeat' (first | exact hR | apply OKR.pI | apply OKR.pL | apply OKR.cpI | apply OKR.wI)) ?_)
          refine And.intro (fun c3 => ?_) (fun c3 => ?_)
          · first | exact absurd c3 (by decide) | exact absurd (by decide) c3 | (exfalso; grind)
          · try dsimp only at c3
            refine m_M_in (by repeat' (first | exact hR | apply OKR.pI | apply OKR.pL | apply OKR.cpI | apply OKR.wI)) (And.intro (by repeat' (first | exact hR | apply OKR.pI | apply OKR.pL | apply OKR.cpI | apply OKR.wI)) ?_)
            rw [show b2 (0 ≤ v ∧ v ≤ 20) = 0 from if_neg q']
            refine And.intro (fun c8 => ?_) (fun c8 => ?_)
            · try dsimp only at c8
              refine And.intro trivial ?_
              exact h _ _ R
            · first | exact absurd c8 (by decide) | exact absurd (by decide) c8 | (exfalso; grind)
        · first | exact absurd c9 (by decide) | exact absurd (by decide) c9 | (exfalso; grind)
  · refine w_X_feathers (Go.runR (callT_mono MT _) [40] 200 (by repeat' (first | exact hR | apply OKR.pI | apply OKR.pL | apply OKR.cpI | apply OKR.wI)) ?_)
    refine And.intro ⟨(by first | decide | assumption | omega), (by first | decide | assumption | omega)⟩ ?_
    refine m_St_hasSet0 hS qs (And.intro (by repeat' (first | exact hR | apply OKR.pI | apply OKR.pL | apply OKR.cpI | apply OKR.wI)) ?_)
    refine And.intro (fun c4 => ?_) (fun c4 => ?_)
    · try dsimp only at c4
      refine And.intro trivial ?_
      refine w_M_feathers (Go.runR (callT_mono MT _) [21] 200 (by repeat' (first | exact hR | apply OKR.pI | apply OKR.pL | apply OKR.cpI | apply OKR.wI)) ?_)
      refine m_M_isSet0 hS qs (And.intro (by repeat' (first | exact hR | apply OKR.pI | apply OKR.pL | apply OKR.cpI | apply OKR.wI)) ?_)
      refine And.intro (fun c3 => ?_) (fun c3 => ?_)
      · try dsimp only at c3
        refine And.intro trivial ?_
        exact h _ _ R
      · first | exact absurd c3 (by decide) | exact absurd (by decide) c3 | (exfalso; grind)
    · first | exact absurd c4 (by decide) | exact absurd (by decide) c4 | (exfalso; grind)
