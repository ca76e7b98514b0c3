/-! Written by a program (wip/whole/p74.py): feathers, the reference. -/
def Rf (n : Nat) (L : Nat → Int32) (m0 m : Mem) : Prop := Nx [] [16] m0 m ∧ ∀ i, i < n → gI m (1, 16, 0) i = L i
theorem Rf.sc {n : Nat} {D : SDt} {L : Nat → Int32} {m0 m : Mem} (H : Rf n L m0 m) (hS : SC n D m0) : SC n D m := SC.cg (m := m0) H.1.ok H.1.kn (fun t i k q => H.1.2.2.2.1 t i k (by simp)) (fun k _ => H.1.2.2.2.2 0 0 k (by simp)) (fun t k _ => H.1.2.2.2.2 t 0 k (by simp; omega)) hS
theorem Rf.set {n j : Nat} {L : Nat → Int32} {m0 m : Mem} {v : Int32} (H : Rf n L m0 m) (hv : v = L j + 1) : Rf n (upF L (some j)) m0 (pI m (1, 16, 0) j v) := by
  subst hv
  refine ⟨H.1.p1 (by simp), fun i hi => ?_⟩
  rw [rd11]
  show _ = if i = j then L j + 1 else L i
  by_cases z : i = j
  · rw [if_pos ⟨rfl, rfl, z⟩, if_pos z]
  · rw [if_neg (fun w => z w.2.2), if_neg z]
    exact H.2 i hi
def Rg (a n k : Nat) (L : Nat → Int32) (m0 m : Mem) : Prop := Nx [] [2, 3, 16] m0 m ∧ (∀ i, i < n → gI m (1, 16, 0) i = L i) ∧ (∀ r, gI m (1, 2, 0) r = if r = a then nI n else gI m0 (1, 2, 0) r) ∧ (∀ r i, r < 6 → r ≠ a → i < 40 → gI m (1, 3, 0) (40 * r + i) = gI m0 (1, 3, 0) (40 * r + i)) ∧ ∀ i, i < k → gI m (1, 3, 0) (40 * a + i) = L i

theorem l_M_feathers103 {d n s a q : Nat} {D : SDt} {m0 : Mem} {K : Option Vv → Mem → Prop} (hS : SC n D m0) (hs : s < 256) (ha : a < 6) (hq : q ≤ 20) (h : ∀ m, Rg a n n (LF n D s q) m0 m → K (some (vi (nI (rs n D s) - suF (LF n D s q) n))) m) (k : Nat) (m : Mem) (H : Rg a n k (LF n D s q) m0 m) (hk : k ≤ n) (zz z2 : Vv) : Go (cW (d + 3)) i_M_feathers (0, 0) K 103 [vo 1 0 0, vi (nI s), vi (nI q), vi (nI a), vi (nI (rs n D s) - suF (LF n D s q) k), vi (nI k), zz, z2] [] m 0 0 := by
  have hR := H.1.ok
  have h8 := hS.2.1
  have e0 : (nI k).toNatClampNeg = k := nI_clamp (by omega)
  have q3 : gI m (1, 0, 0) 10 = nI n := (H.1.2.2.2.2 0 0 10 (by simp)).trans hS.2.2.2.1
  refine Go.runR (callT_mono MT _) [103] 200 hR ?_
  refine And.intro (fun c106 => ?_) (fun c106 => ?_)
  · try dsimp only at c106
    obtain rfl := lq_e c106 q3 rfl hk (by omega)
    refine And.intro trivial ?_
    exact h _ H
  · try dsimp only at c106
    have hk2 := lq_m c106 q3 rfl hk (by omega)
    have hy : Rg a n (k + 1) (LF n D s q) m0 (pI m (1, 3, 0) (40 * a + k) (LF n D s q k)) := by
      refine ⟨H.1.p1 (by simp), fun i hi => ?_, fun r => ?_, fun r i hr hra hi => ?_, fun i hi => ?_⟩
      · rw [rd11, if_neg (by omega)]; exact H.2.1 i hi
      · rw [rd11, if_neg (by omega)]; exact H.2.2.1 r
      · rw [rd11, if_neg (by omega)]; exact H.2.2.2.1 r i hr hra hi
      · rw [rd11]
        by_cases z : i = k
        · rw [if_pos ⟨rfl, rfl, by omega⟩, z]
        · rw [if_neg (fun w => z (by have := w.2.2; omega))]
          exact H.2.2.2.2 i (by omega)
    refine And.intro ⟨rfl, rfl, rfl⟩ ?_
    refine And.intro (by exact vp_nI (k := k) (N := 8) (by omega) (by decide)) ?_
    rw [e0, H.2.1 k hk2]
    refine m_M_setRow (by repeat' (first | exact hR | apply OKR.pI | apply OKR.pL | apply OKR.cpI | apply OKR.wI)) (a := a) (b := k) ha (by omega) (And.intro hy.1.ok ?_)
    refine And.intro ⟨rfl, rfl, rfl⟩ ?_
    refine And.intro (by exact vp_nI (k := k) (N := 8) (by omega) (by decide)) ?_
    have key : ∀ (x : Int32), x = nI (rs n D s) - suF (LF n D s q) (k + 1) → Go (cW (d + 3)) i_M_feathers (0, 0) K 103 [vo 1 0 0, vi (nI s), vi (nI q), vi (nI a), vi x, vi (nI k + 1), zz, z2] [] (pI m (1, 3, 0) (40 * a + k) (LF n D s q k)) 0 0 := fun x y => by
      subst y
      exact go_eq (by rw [← nI_succ]) rfl (l_M_feathers103 hS hs ha hq h (k + 1) _ hy hk2 zz z2)
    exact key _ (by rw [e0, hy.2.1 k hk2]; exact i_sub2 _ _ _)
termination_by n - k
decreasing_by all_goals omega

theorem l_M_feathers40 {d n s a q : Nat} {D : SDt} {m0 : Mem} {K : Option Vv → Mem → Prop} {L : Nat → Int32} {kk : Nat} (hS : SC n D m0) (hs : s < 256) (m : Mem) (H : Rf n L m0 m) (h : ∀ (m : Mem) (z1 z2 z3 : Vv), Rf n (upF L (bF D L s n)) m0 m → Go (cW (d + 3)) i_M_feathers (0, 0) K 33 [vo 1 0 0, vi (nI s), vi (nI q), vi (nI a), vi (nI kk + 1), z1, z2, z3] [] m 0 0) (k : Nat) (hk : k ≤ n) (z : Vv) : Go (cW (d + 3)) i_M_feathers (0, 0) K 40 [vo 1 0 0, vi (nI s), vi (nI q), vi (nI a), vi (nI kk), vi (eF (bF D L s k)), vi (nI k), z] [] m 0 0 := by
  have hR := H.1.ok
  have hS2 := H.sc hS
  have h8 := hS.2.1
  have e0 : (nI k).toNatClampNeg = k := nI_clamp (by omega)
  have q3 : gI m (1, 0, 0) 10 = nI n := hS2.2.2.2.1
  have ge := bF_ge D L s k
  cases ho : bF D L s k with
  | none =>
    rw [ho] at ge
    refine Go.runR (callT_mono MT _) [33, 40] 200 hR ?_
    refine And.intro (fun c43 => ?_) (fun c43 => ?_)
    · try dsimp only at c43
      obtain rfl := lq_e c43 q3 rfl hk (by omega)
      refine And.intro (fun c80 => ?_) (fun c80 => ?_)
      · try dsimp only at c80
        exact h m _ _ _ (by rw [ho]; exact H)
      · exact absurd rfl c80
    · try dsimp only at c43
      have hk2 := lq_m c43 q3 rfl hk (by omega)
      have key : ∀ (b : Int32) (w : Vv), b = eF (bF D L s (k + 1)) → Go (cW (d + 3)) i_M_feathers (0, 0) K 40 [vo 1 0 0, vi (nI s), vi (nI q), vi (nI a), vi (nI kk), vi b, vi (nI k + 1), w] [] m 0 0 := fun b w y => by
        subst y
        exact go_eq (by rw [← nI_succ]) rfl (l_M_feathers40 hS hs m H h (k + 1) hk2 w)
      have ek : nI (rp D k) - gI m (1, 16, 0) (nI k).toNatClampNeg = xF D L k := by rw [e0, H.2 k hk2]; rfl
      refine m_M_rippleOf hS2 rfl hk2 (And.intro (by repeat' (first | exact hR | apply OKR.pI | apply OKR.pL | apply OKR.cpI | apply OKR.wI)) ?_)
      refine And.intro ⟨rfl, rfl, rfl⟩ ?_
      refine And.intro (by exact vp_nI (k := k) (N := 8) (by omega) (by decide)) ?_
      refine m_M_has (by repeat' (first | exact hR | apply OKR.pI | apply OKR.pL | apply OKR.cpI | apply OKR.wI)) (s := s) (i := k) rfl rfl hs (by omega) (And.intro (by repeat' (first | exact hR | apply OKR.pI | apply OKR.pL | apply OKR.cpI | apply OKR.wI)) ?_)
      refine And.intro (fun c56 => ?_) (fun c56 => ?_)
      · try dsimp only at c56
        first
        | exact key _ _ (by rw [bF_n (tb_e0 c56), ho])
        | exact key _ _ (by rw [bF_le (by rw [ho]; exact c58b), ho])
        | exact key _ _ (by rw [bF_s (tb_n0 c56) (by rw [ho]; exact Int32.not_le.mp c58b)]; rfl)
      · try dsimp only at c56
        refine And.intro (fun c58 => ?_) (fun c58 => ?_)
        · try dsimp only at c58
          have c58b : xF D L k ≤ 0 := by rw [← ek]; exact c58
          first
          | exact key _ _ (by rw [bF_n (tb_e0 c56), ho])
          | exact key _ _ (by rw [bF_le (by rw [ho]; exact c58b), ho])
          | exact key _ _ (by rw [bF_s (tb_n0 c56) (by rw [ho]; exact Int32.not_le.mp c58b)]; rfl)
        · try dsimp only at c58
          have c58b : ¬ xF D L k ≤ 0 := by rw [← ek]; exact c58
          refine And.intro (fun c61 => ?_) (fun c61 => ?_)
          · try dsimp only at c61
            first
            | exact key _ _ (by rw [bF_n (tb_e0 c56), ho])
            | exact key _ _ (by rw [bF_le (by rw [ho]; exact c58b), ho])
            | exact key _ _ (by rw [bF_s (tb_n0 c56) (by rw [ho]; exact Int32.not_le.mp c58b)]; rfl)
          · exact absurd rfl c61
  | some j =>
    have hj : j < k := bF_lt k ho
    have ej : (nI j).toNatClampNeg = j := nI_clamp (by omega)
    refine Go.runR (callT_mono MT _) [33, 40] 200 hR ?_
    refine And.intro (fun c43 => ?_) (fun c43 => ?_)
    · try dsimp only at c43
      obtain rfl := lq_e c43 q3 rfl hk (by omega)
      refine And.intro (fun c80 => ?_) (fun c80 => ?_)
      · exact absurd c80 (m9 (by omega))
      · try dsimp only at c80
        refine And.intro ⟨rfl, rfl, rfl⟩ ?_
        refine And.intro (by exact vp_nI (k := j) (N := 8) (by omega) (by decide)) ?_
        refine And.intro (by exact vp_nI (k := j) (N := 8) (by omega) (by decide)) ?_
        have key3 : ∀ v i, i = j → v = L j + 1 → Go (cW (d + 3)) i_M_feathers (0, 0) K 33 [vo 1 0 0, vi (nI s), vi (nI q), vi (nI a), vi (nI kk + 1), vi (nI j), vi (nI k), z] [] (pI m (1, 16, 0) i v) 0 0 := fun v i y1 y2 => by
          subst y1
          exact h _ _ _ _ (by rw [ho]; exact H.set y2)
        exact key3 _ _ ej (by show gI m (1, 16, 0) (nI j).toNatClampNeg + 1 = L j + 1; rw [ej, H.2 j (by omega)])
    · try dsimp only at c43
      have hk2 := lq_m c43 q3 rfl hk (by omega)
      have key : ∀ (b : Int32) (w : Vv), b = eF (bF D L s (k + 1)) → Go (cW (d + 3)) i_M_feathers (0, 0) K 40 [vo 1 0 0, vi (nI s), vi (nI q), vi (nI a), vi (nI kk), vi b, vi (nI k + 1), w] [] m 0 0 := fun b w y => by
        subst y
        exact go_eq (by rw [← nI_succ]) rfl (l_M_feathers40 hS hs m H h (k + 1) hk2 w)
      have ek : nI (rp D k) - gI m (1, 16, 0) (nI k).toNatClampNeg = xF D L k := by rw [e0, H.2 k hk2]; rfl
      have ek2 : nI (rp D j) - gI m (1, 16, 0) (nI j).toNatClampNeg = gF D L (bF D L s k) := by rw [ej, H.2 j (by omega), ho]; rfl
      refine m_M_rippleOf hS2 rfl hk2 (And.intro (by repeat' (first | exact hR | apply OKR.pI | apply OKR.pL | apply OKR.cpI | apply OKR.wI)) ?_)
      refine And.intro ⟨rfl, rfl, rfl⟩ ?_
      refine And.intro (by exact vp_nI (k := k) (N := 8) (by omega) (by decide)) ?_
      refine m_M_has (by repeat' (first | exact hR | apply OKR.pI | apply OKR.pL | apply OKR.cpI | apply OKR.wI)) (s := s) (i := k) rfl rfl hs (by omega) (And.intro (by repeat' (first | exact hR | apply OKR.pI | apply OKR.pL | apply OKR.cpI | apply OKR.wI)) ?_)
      refine And.intro (fun c56 => ?_) (fun c56 => ?_)
      · try dsimp only at c56
        first
        | exact key _ _ (by rw [bF_n (tb_e0 c56), ho])
        | exact key _ _ (by rw [bF_le (Int32.le_trans c58b ge), ho])
        | exact key _ _ (by rw [bF_le c71b, ho])
        | exact key _ _ (by rw [bF_s (tb_n0 c56) (Int32.not_le.mp c71b)]; rfl)
      · try dsimp only at c56
        refine And.intro (fun c58 => ?_) (fun c58 => ?_)
        · try dsimp only at c58
          have c58b : xF D L k ≤ 0 := by rw [← ek]; exact c58
          first
          | exact key _ _ (by rw [bF_n (tb_e0 c56), ho])
          | exact key _ _ (by rw [bF_le (Int32.le_trans c58b ge), ho])
          | exact key _ _ (by rw [bF_le c71b, ho])
          | exact key _ _ (by rw [bF_s (tb_n0 c56) (Int32.not_le.mp c71b)]; rfl)
        · try dsimp only at c58
          have c58b : ¬ xF D L k ≤ 0 := by rw [← ek]; exact c58
          refine And.intro (fun c61 => ?_) (fun c61 => ?_)
          · exact absurd c61 (m9 (by omega))
          · try dsimp only at c61
            refine m_M_rippleOf hS2 (i := j) rfl (by omega) (And.intro (by repeat' (first | exact hR | apply OKR.pI | apply OKR.pL | apply OKR.cpI | apply OKR.wI)) ?_)
            refine And.intro ⟨rfl, rfl, rfl⟩ ?_
            refine And.intro (by exact vp_nI (k := j) (N := 8) (by omega) (by decide)) ?_
            refine And.intro (fun c71 => ?_) (fun c71 => ?_)
            · try dsimp only at c71
              have c71b : xF D L k ≤ gF D L (bF D L s k) := by rw [← ek, ← ek2]; exact c71
              first
              | exact key _ _ (by rw [bF_n (tb_e0 c56), ho])
              | exact key _ _ (by rw [bF_le (Int32.le_trans c58b ge), ho])
              | exact key _ _ (by rw [bF_le c71b, ho])
              | exact key _ _ (by rw [bF_s (tb_n0 c56) (Int32.not_le.mp c71b)]; rfl)
            · try dsimp only at c71
              have c71b : ¬ xF D L k ≤ gF D L (bF D L s k) := by rw [← ek, ← ek2]; exact c71
              first
              | exact key _ _ (by rw [bF_n (tb_e0 c56), ho])
              | exact key _ _ (by rw [bF_le (Int32.le_trans c58b ge), ho])
              | exact key _ _ (by rw [bF_le c71b, ho])
              | exact key _ _ (by rw [bF_s (tb_n0 c56) (Int32.not_le.mp c71b)]; rfl)
termination_by n - k
decreasing_by all_goals omega
