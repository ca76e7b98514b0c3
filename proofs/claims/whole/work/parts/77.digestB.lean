/-! Written by a program (wip/whole/p77.py): digest, the class, whole. -/
theorem mxm (h : Int64) : mx h (-1) = 31 * h + (-1) := congrArg (fun z => 31 * h + z) (by decide : (-1 : Int32).toInt64 = -1)
def CzR (m : Mem) : Prop := ∀ c, c < 10 → gI m (0, 1, c) 1 = -1 ∨ ∃ z, z ≤ ln (0, 2, c) ∧ gI m (0, 1, c) 1 = nI z
theorem RelAB.cz {m : Mem} (R : RelAB m) : CzR m := by
  intro c hc
  rcases Nat.lt_or_ge c 6 with z | z
  · rcases R.2.1 c z with y | ⟨n, y1, y2, -⟩
    · exact Or.inl y.1
    · exact Or.inr ⟨n, by rw [show ln (0, 2, c) = 40 from if_pos z]; exact y1, y2⟩
  · have e : c = 6 + (c - 6) := by omega
    rcases R.2.2.1 (c - 6) (by omega) with y | ⟨n, y1, y2, -⟩
    · rw [← e] at y
      exact Or.inl y.1
    · rw [← e] at y2
      exact Or.inr ⟨n, by rw [show ln (0, 2, c) = 80 from if_neg (Nat.not_lt.mpr z)]; exact y1, y2⟩

theorem l_X_dig65 {d n T : Nat} {D : SDt} {m : Mem} {K : Option Vv → Mem → Prop} (hS : SC n D m) (hT : T ≤ 40) (q : gI m (0, 5, 0) 4 = nI T) (hz : CzR m) (h : K (some (vl (gdZ n T D m))) m) (k : Nat) (hk : k ≤ 4) : Go (cW (d + 5)) i_X_digest (0, 0) K 65 [vo 0 0 0, vl (gdR m 6 k (gdR m 0 6 (gdK m 3 (gdS n T D m (gd1 n T D m 8))))), vu, vi (nI k)] [] m 0 0 := by
  have hR := hS.1
  have e0 : (nI k).toNatClampNeg = k := nI_clamp (by omega)
  refine Go.runR (callT_mono MT _) [65] 200 hR ?_
  refine And.intro ⟨(by first | decide | assumption | omega), (by first | decide | assumption | omega)⟩ ?_
  refine And.intro (fun c69 => ?_) (fun c69 => ?_)
  · try dsimp only at c69
    have hk2 := lq_e (n := 4) c69 rfl rfl hk (by omega)
    subst hk2
    refine And.intro trivial ?_
    exact h
  · try dsimp only at c69
    have hk2 := lq_m (n := 4) c69 rfl rfl hk (by omega)
    refine And.intro ⟨(by first | decide | assumption | omega), (by first | decide | assumption | omega)⟩ ?_
    refine And.intro ⟨(by exact vp_nI (k := k) (N := 4) (by omega) (by decide)), ⟨rfl, by rw [e0]; exact hk2⟩⟩ ?_
    rw [show (nI k).toNatClampNeg = k from e0]
    refine m_Ce_mixedInto (by repeat' (first | exact hR | apply OKR.pI | apply OKR.pL | apply OKR.cpI | apply OKR.wI)) (c := 6 + k) (by omega) (hz _ (by omega)) (And.intro (by repeat' (first | exact hR | apply OKR.pI | apply OKR.pL | apply OKR.cpI | apply OKR.wI)) ?_)
    exact go_eq (ls' := [vo 0 0 0, vl (gdR m 6 (k + 1) (gdR m 0 6 (gdK m 3 (gdS n T D m (gd1 n T D m 8))))), vu, vi (nI (k + 1))]) (by rw [nI_succ]; rfl) rfl (l_X_dig65 hS hT q hz h (k + 1) hk2)
termination_by 4 - k
decreasing_by all_goals omega

theorem l_X_dig49 {d n T : Nat} {D : SDt} {m : Mem} {K : Option Vv → Mem → Prop} (hS : SC n D m) (hT : T ≤ 40) (q : gI m (0, 5, 0) 4 = nI T) (hz : CzR m) (h : K (some (vl (gdZ n T D m))) m) (k : Nat) (hk : k ≤ 6) : Go (cW (d + 5)) i_X_digest (0, 0) K 49 [vo 0 0 0, vl (gdR m 0 k (gdK m 3 (gdS n T D m (gd1 n T D m 8)))), vu, vi (nI k)] [] m 0 0 := by
  have hR := hS.1
  have e0 : (nI k).toNatClampNeg = k := nI_clamp (by omega)
  refine Go.runR (callT_mono MT _) [49, 65] 200 hR ?_
  refine And.intro ⟨(by first | decide | assumption | omega), (by first | decide | assumption | omega)⟩ ?_
  refine And.intro (fun c53 => ?_) (fun c53 => ?_)
  · try dsimp only at c53
    have hk2 := lq_e (n := 6) c53 rfl rfl hk (by omega)
    subst hk2
    exact l_X_dig65 hS hT q hz h 0 (by omega)
  · try dsimp only at c53
    have hk2 := lq_m (n := 6) c53 rfl rfl hk (by omega)
    refine And.intro ⟨(by first | decide | assumption | omega), (by first | decide | assumption | omega)⟩ ?_
    refine And.intro ⟨(by exact vp_nI (k := k) (N := 6) (by omega) (by decide)), ⟨rfl, by rw [e0]; exact hk2⟩⟩ ?_
    rw [show (nI k).toNatClampNeg = k from e0]
    refine m_Ce_mixedInto (by repeat' (first | exact hR | apply OKR.pI | apply OKR.pL | apply OKR.cpI | apply OKR.wI)) (c := k) (by omega) (hz _ (by omega)) (And.intro (by repeat' (first | exact hR | apply OKR.pI | apply OKR.pL | apply OKR.cpI | apply OKR.wI)) ?_)
    have key : ∀ x, x = gdR m 0 (k + 1) (gdK m 3 (gdS n T D m (gd1 n T D m 8))) → Go (cW (d + 5)) i_X_digest (0, 0) K 49 [vo 0 0 0, vl x, vu, vi (nI k + 1)] [] m 0 0 := fun x y => by
      subst y
      exact go_eq (by rw [← nI_succ]) rfl (l_X_dig49 hS hT q hz h (k + 1) hk2)
    exact key _ (by show _ = gdW m (0 + k) _; rw [Nat.zero_add]; rfl)
termination_by 6 - k
decreasing_by all_goals omega

theorem l_X_dig23 {d n T : Nat} {D : SDt} {m : Mem} {K : Option Vv → Mem → Prop} (hS : SC n D m) (hT : T ≤ 40) (q : gI m (0, 5, 0) 4 = nI T) (hz : CzR m) (h : K (some (vl (gdZ n T D m))) m) (k : Nat) (hk : k ≤ 3) : Go (cW (d + 5)) i_X_digest (0, 0) K 23 [vo 0 0 0, vl (gdK m k (gdS n T D m (gd1 n T D m 8))), vu, vi (nI k)] [] m 0 0 := by
  have hR := hS.1
  have e0 : (nI k).toNatClampNeg = k := nI_clamp (by omega)
  by_cases y : gI m (0, 5, 1 + k) 3 = 0
  · refine Go.runR (callT_mono MT _) [23, 49] 200 hR ?_
    refine And.intro ⟨(by first | decide | assumption | omega), (by first | decide | assumption | omega)⟩ ?_
    refine And.intro (fun c27 => ?_) (fun c27 => ?_)
    · try dsimp only at c27
      have hk2 := lq_e (n := 3) c27 rfl rfl hk (by omega)
      subst hk2
      exact l_X_dig49 hS hT q hz h 0 (by omega)
    · try dsimp only at c27
      have hk2 := lq_m (n := 3) c27 rfl rfl hk (by omega)
      refine And.intro ⟨(by first | decide | assumption | omega), (by first | decide | assumption | omega)⟩ ?_
      refine And.intro ⟨(by exact vp_nI (k := k) (N := 3) (by omega) (by decide)), ⟨rfl, by rw [e0]; exact hk2⟩⟩ ?_
      rw [show (nI k).toNatClampNeg = k from e0]
      refine m_X_isMissing (by repeat' (first | exact hR | apply OKR.pI | apply OKR.pL | apply OKR.cpI | apply OKR.wI)) (And.intro (by repeat' (first | exact hR | apply OKR.pI | apply OKR.pL | apply OKR.cpI | apply OKR.wI)) ?_)
      rw [if_pos y]
      refine And.intro (fun c34 => ?_) (fun c34 => ?_)
      · first | exact absurd c34 (by decide) | exact absurd (by decide) c34 | (exfalso; grind)
      · try dsimp only at c34
        refine m_X_mixed (by repeat' (first | exact hR | apply OKR.pI | apply OKR.pL | apply OKR.cpI | apply OKR.wI))  (And.intro (by repeat' (first | exact hR | apply OKR.pI | apply OKR.pL | apply OKR.cpI | apply OKR.wI)) ?_)
        have key : ∀ x, x = gdK m (k + 1) (gdS n T D m (gd1 n T D m 8)) → Go (cW (d + 5)) i_X_digest (0, 0) K 23 [vo 0 0 0, vl x, vu, vi (nI k + 1)] [] m 0 0 := fun x y => by
          subst y
          exact go_eq (by rw [← nI_succ]) rfl (l_X_dig23 hS hT q hz h (k + 1) hk2)
        exact key _ (by first | (show _ = mx (gdK m k (gdS n T D m (gd1 n T D m 8))) (if gI m (0, 5, 1 + k) 3 = 0 then -1 else gI m (0, 5, 1 + k) 4); rw [if_pos y, mxm]; done) | (show _ = mx (gdK m k (gdS n T D m (gd1 n T D m 8))) (if gI m (0, 5, 1 + k) 3 = 0 then -1 else gI m (0, 5, 1 + k) 4); rw [if_pos y]; rfl) | (show _ = mx (gdK m k (gdS n T D m (gd1 n T D m 8))) (if gI m (0, 5, 1 + k) 3 = 0 then -1 else gI m (0, 5, 1 + k) 4); rw [if_pos y, e0]; rfl))
  · refine Go.runR (callT_mono MT _) [23, 49] 200 hR ?_
    refine And.intro ⟨(by first | decide | assumption | omega), (by first | decide | assumption | omega)⟩ ?_
    refine And.intro (fun c27 => ?_) (fun c27 => ?_)
    · try dsimp only at c27
      have hk2 := lq_e (n := 3) c27 rfl rfl hk (by omega)
      subst hk2
      exact l_X_dig49 hS hT q hz h 0 (by omega)
    · try dsimp only at c27
      have hk2 := lq_m (n := 3) c27 rfl rfl hk (by omega)
      refine And.intro ⟨(by first | decide | assumption | omega), (by first | decide | assumption | omega)⟩ ?_
      refine And.intro ⟨(by exact vp_nI (k := k) (N := 3) (by omega) (by decide)), ⟨rfl, by rw [e0]; exact hk2⟩⟩ ?_
      rw [show (nI k).toNatClampNeg = k from e0]
      refine m_X_isMissing (by repeat' (first | exact hR | apply OKR.pI | apply OKR.pL | apply OKR.cpI | apply OKR.wI)) (And.intro (by repeat' (first | exact hR | apply OKR.pI | apply OKR.pL | apply OKR.cpI | apply OKR.wI)) ?_)
      rw [if_neg y]
      refine And.intro (fun c34 => ?_) (fun c34 => ?_)
      · try dsimp only at c34
        refine And.intro ⟨(by first | decide | assumption | omega), (by first | decide | assumption | omega)⟩ ?_
        refine And.intro ⟨(by exact vp_nI (k := k) (N := 3) (by omega) (by decide)), ⟨rfl, by rw [e0]; exact hk2⟩⟩ ?_
        refine m_X_mixed (by repeat' (first | exact hR | apply OKR.pI | apply OKR.pL | apply OKR.cpI | apply OKR.wI))  (And.intro (by repeat' (first | exact hR | apply OKR.pI | apply OKR.pL | apply OKR.cpI | apply OKR.wI)) ?_)
        have key : ∀ x, x = gdK m (k + 1) (gdS n T D m (gd1 n T D m 8)) → Go (cW (d + 5)) i_X_digest (0, 0) K 23 [vo 0 0 0, vl x, vu, vi (nI k + 1)] [] m 0 0 := fun x y => by
          subst y
          exact go_eq (by rw [← nI_succ]) rfl (l_X_dig23 hS hT q hz h (k + 1) hk2)
        exact key _ (by first | (show _ = mx (gdK m k (gdS n T D m (gd1 n T D m 8))) (if gI m (0, 5, 1 + k) 3 = 0 then -1 else gI m (0, 5, 1 + k) 4); rw [if_neg y, mxm]; done) | (show _ = mx (gdK m k (gdS n T D m (gd1 n T D m 8))) (if gI m (0, 5, 1 + k) 3 = 0 then -1 else gI m (0, 5, 1 + k) 4); rw [if_neg y]; rfl) | (show _ = mx (gdK m k (gdS n T D m (gd1 n T D m 8))) (if gI m (0, 5, 1 + k) 3 = 0 then -1 else gI m (0, 5, 1 + k) 4); rw [if_neg y, e0]; rfl))
      · first | exact absurd c34 (by decide) | exact absurd (by decide) c34 | (exfalso; grind)
termination_by 3 - k
decreasing_by all_goals omega

theorem l_X_dig4 {d n T : Nat} {D : SDt} {m : Mem} {K : Option Vv → Mem → Prop} (hS : SC n D m) (hT : T ≤ 40) (q : gI m (0, 5, 0) 4 = nI T) (hz : CzR m) (h : K (some (vl (gdZ n T D m))) m) (k : Nat) (hk : k ≤ 8) : Go (cW (d + 5)) i_X_digest (0, 0) K 4 [vo 0 0 0, vl (gd1 n T D m k), vu, vi (nI k)] [] m 0 0 := by
  have hR := hS.1
  have e0 : (nI k).toNatClampNeg = k := nI_clamp (by omega)
  refine Go.runR (callT_mono MT _) [4, 23] 200 hR ?_
  refine And.intro (fun c6 => ?_) (fun c6 => ?_)
  · try dsimp only at c6
    obtain rfl := lt_e (N := 7) c6 rfl rfl hk (by omega)
    refine And.intro ⟨(by first | decide | assumption | omega), (by first | decide | assumption | omega)⟩ ?_
    refine m_St_mixedInto hS hT q (And.intro (by repeat' (first | exact hR | apply OKR.pI | apply OKR.pL | apply OKR.cpI | apply OKR.wI)) ?_)
    exact l_X_dig23 hS hT q hz h 0 (by omega)
  · try dsimp only at c6
    have hk2 := lt_m (N := 7) c6 rfl rfl (by omega) hk
    refine m_X_count hS (w := k) q rfl (by omega) (And.intro (by repeat' (first | exact hR | apply OKR.pI | apply OKR.pL | apply OKR.cpI | apply OKR.wI)) ?_)
    refine m_X_mixed (by repeat' (first | exact hR | apply OKR.pI | apply OKR.pL | apply OKR.cpI | apply OKR.wI))  (And.intro (by repeat' (first | exact hR | apply OKR.pI | apply OKR.pL | apply OKR.cpI | apply OKR.wI)) ?_)
    exact go_eq (ls' := [vo 0 0 0, vl (gd1 n T D m (k + 1)), vu, vi (nI (k + 1))]) (by rw [nI_succ]; rfl) rfl (l_X_dig4 hS hT q hz h (k + 1) (by omega))
termination_by 8 - k
decreasing_by all_goals omega

theorem m_X_digest {d n T : Nat} {D : SDt} {m : Mem} {K : Option Vv → Mem → Prop} (hS : SC n D m) (hT : T ≤ 40) (q : gI m (0, 5, 0) 4 = nI T) (hz : CzR m) (h : K (some (vl (gdZ n T D m))) m) : cW (d + 6) n_X_digest [vo 0 0 0] m K := by
  have hR := hS.1
  refine w_X_digest (Go.runR (callT_mono MT _) [4] 200 hR ?_)
  exact l_X_dig4 hS hT q hz h 0 (by omega)
