/-! Written by a program (wip/whole/p49.py): silence, most. -/
def abI (x : Int32) : Int32 := if x < 0 then -x else x
theorem abE (x : Int32) : (if 0 ≤ x then x else 0 - x) = abI x := by unfold abI; grind
def hf (n : Nat) (D : SDt) (v : Int32) (i : Nat) : Int32 := abI (2 * nI (fW n D v i (2 ^ n)) - nI (fM n D v (2 ^ n)))
def sbF (n : Nat) (D : SDt) (v : Int32) (k b : Nat) : Nat := if k = 0 then 0 else if hf n D v k < hf n D v b then k else b
def sbN (n : Nat) (D : SDt) (v : Int32) (k : Nat) : Nat := itr (sbF n D v) 0 k
theorem sbs (n : Nat) (D : SDt) (v : Int32) (k : Nat) : sbN n D v (k + 1) = if k = 0 then 0 else if hf n D v k < hf n D v (sbN n D v k) then k else sbN n D v k := rfl
theorem sbL (n : Nat) (D : SDt) (v : Int32) : ∀ k, 0 < k → sbN n D v k < k
  | 0, h => absurd h (by omega)
  | k + 1, _ => by
    rw [sbs]
    by_cases z : k = 0
    · rw [if_pos z]; omega
    · have := sbL n D v k (by omega)
      rw [if_neg z]
      split <;> omega
theorem m1n {k : Nat} (hk : k < 2 ^ 31) : ¬ nI k = -1 := fun e => absurd (nI_pos' hk) (by rw [e]; decide)

theorem l_X_silence {d n : Nat} {D : SDt} {m : Mem} {K : Option Vv → Mem → Prop} {v : Int32} (hE : SeR n D m) (h0 : n = 0 → K (some (vi (-9))) m) (h : 0 < n → K (some (vi (nI (sbN n D v n)))) (tellM m (nI (fW n D v (sbN n D v n) (2 ^ n))))) (k : Nat) (a b : Int32) (x : Vv) (hab : (k = 0 ∧ a = -9 ∧ b = 0) ∨ (0 < k ∧ a = nI (sbN n D v k) ∧ b = nI (fW n D v (sbN n D v k) (2 ^ n)))) (hk : k ≤ n) : Go (cW (d + 3)) i_X_silence (0, 0) K 27 [vo 0 0 0, vi v, vi (nI (fM n D v (2 ^ n))), vi a, vi b, vi (nI k), x] [] m 0 0 := by
  have hR := hE.1.ok
  have h8 := hE.1.le
  have q1 := hE.1.nA
  refine Go.runR (callT_mono MT _) [27] 200 hR ?_
  refine And.intro ⟨(by first | decide | assumption | omega), (by first | decide | assumption | omega)⟩ ?_
  refine And.intro (fun c31 => ?_) (fun c31 => ?_)
  · try dsimp only at c31
    obtain rfl := lq_e c31 q1 rfl hk (by omega)
    refine And.intro (fun c62 => ?_) (fun c62 => ?_)
    · try dsimp only at c62
      refine And.intro trivial ?_
      first
      | exact h0 (by rcases hab with z | ⟨z, y, -⟩; exact z.1; exact absurd (y.symm.trans c62) (m9 (by have := sbL k D v k z; omega)))
      | (rcases hab with z | ⟨z, y1, y2⟩
         · exact absurd z.2.1 c62
         · rw [y1, y2]; exact h z)
    · try dsimp only at c62
      refine m_X_tell (by repeat' (first | exact hR | apply OKR.pI | apply OKR.pL | apply OKR.cpI | apply OKR.wI))  (And.intro (by repeat' (first | exact hR | apply OKR.pI | apply OKR.pL | apply OKR.cpI | apply OKR.wI)) ?_)
      refine And.intro trivial ?_
      first
      | exact h0 (by rcases hab with z | ⟨z, y, -⟩; exact z.1; exact absurd (y.symm.trans c62) (m9 (by have := sbL k D v k z; omega)))
      | (rcases hab with z | ⟨z, y1, y2⟩
         · exact absurd z.2.1 c62
         · rw [y1, y2]; exact h z)
  · try dsimp only at c31
    have hk2 := lq_m c31 q1 rfl hk (by omega)
    refine And.intro ⟨(by first | decide | assumption | omega), (by first | decide | assumption | omega)⟩ ?_
    refine m_Se_howManyFitWith hE rfl (by omega) (And.intro (by repeat' (first | exact hR | apply OKR.pI | apply OKR.pL | apply OKR.cpI | apply OKR.wI)) ?_)
    refine And.intro (fun c40 => ?_) (fun c40 => ?_)
    · try dsimp only at c40
      have key : ∀ (a' b' : Int32) (x' : Vv), (0 < k + 1 ∧ a' = nI (sbN n D v (k + 1)) ∧ b' = nI (fW n D v (sbN n D v (k + 1)) (2 ^ n))) → Go (cW (d + 3)) i_X_silence (0, 0) K 27 [vo 0 0 0, vi v, vi (nI (fM n D v (2 ^ n))), vi a', vi b', vi (nI k + 1), x'] [] m 0 0 := fun a' b' x' z => go_eq (by rw [← nI_succ]) rfl (l_X_silence hE h0 h (k + 1) a' b' x' (Or.inr z) hk2)
      refine key _ _ _ ⟨by omega, ?_⟩
      rw [sbs]
      have hs := hf n D v
      first
      | (have z : k = 0 := by
           rcases hab with z | ⟨z, y, -⟩
           · exact z.1
           · exact absurd (y.symm.trans c40) (m9 (by have := sbL n D v k z; omega))
         rw [if_pos z, z]; exact ⟨rfl, rfl⟩)
      | (obtain ⟨z, y1, y2⟩ := hab.resolve_left (fun y => c40 y.2.1)
         subst y1; subst y2
         rw [if_neg (by omega)]
         have c53 := c53
         rw [abE, abE] at c53
         first
         | (rw [if_neg (by unfold hf; grind)]; exact ⟨rfl, rfl⟩)
         | (rw [if_pos (by unfold hf; grind)]; exact ⟨rfl, rfl⟩))
    · try dsimp only at c40
      refine And.intro (fun c53 => ?_) (fun c53 => ?_)
      · try dsimp only at c53
        have key : ∀ (a' b' : Int32) (x' : Vv), (0 < k + 1 ∧ a' = nI (sbN n D v (k + 1)) ∧ b' = nI (fW n D v (sbN n D v (k + 1)) (2 ^ n))) → Go (cW (d + 3)) i_X_silence (0, 0) K 27 [vo 0 0 0, vi v, vi (nI (fM n D v (2 ^ n))), vi a', vi b', vi (nI k + 1), x'] [] m 0 0 := fun a' b' x' z => go_eq (by rw [← nI_succ]) rfl (l_X_silence hE h0 h (k + 1) a' b' x' (Or.inr z) hk2)
        refine key _ _ _ ⟨by omega, ?_⟩
        rw [sbs]
        have hs := hf n D v
        first
        | (have z : k = 0 := by
             rcases hab with z | ⟨z, y, -⟩
             · exact z.1
             · exact absurd (y.symm.trans c40) (m9 (by have := sbL n D v k z; omega))
           rw [if_pos z, z]; exact ⟨rfl, rfl⟩)
        | (obtain ⟨z, y1, y2⟩ := hab.resolve_left (fun y => c40 y.2.1)
           subst y1; subst y2
           rw [if_neg (by omega)]
           have c53 := c53
           rw [abE, abE] at c53
           first
           | (rw [if_neg (by unfold hf; grind)]; exact ⟨rfl, rfl⟩)
           | (rw [if_pos (by unfold hf; grind)]; exact ⟨rfl, rfl⟩))
      · try dsimp only at c53
        have key : ∀ (a' b' : Int32) (x' : Vv), (0 < k + 1 ∧ a' = nI (sbN n D v (k + 1)) ∧ b' = nI (fW n D v (sbN n D v (k + 1)) (2 ^ n))) → Go (cW (d + 3)) i_X_silence (0, 0) K 27 [vo 0 0 0, vi v, vi (nI (fM n D v (2 ^ n))), vi a', vi b', vi (nI k + 1), x'] [] m 0 0 := fun a' b' x' z => go_eq (by rw [← nI_succ]) rfl (l_X_silence hE h0 h (k + 1) a' b' x' (Or.inr z) hk2)
        refine key _ _ _ ⟨by omega, ?_⟩
        rw [sbs]
        have hs := hf n D v
        first
        | (have z : k = 0 := by
             rcases hab with z | ⟨z, y, -⟩
             · exact z.1
             · exact absurd (y.symm.trans c40) (m9 (by have := sbL n D v k z; omega))
           rw [if_pos z, z]; exact ⟨rfl, rfl⟩)
        | (obtain ⟨z, y1, y2⟩ := hab.resolve_left (fun y => c40 y.2.1)
           subst y1; subst y2
           rw [if_neg (by omega)]
           have c53 := c53
           rw [abE, abE] at c53
           first
           | (rw [if_neg (by unfold hf; grind)]; exact ⟨rfl, rfl⟩)
           | (rw [if_pos (by unfold hf; grind)]; exact ⟨rfl, rfl⟩))
termination_by n - k
decreasing_by all_goals omega

theorem m_M_halfOf {d n : Nat} {D : SDt} {m0 m : Mem} {K : Option Vv → Mem → Prop} {u v : Int32} {i : Nat} (hS0 : SC n D m0) (F : FtR n D v m0 m (2 ^ n)) (hu : u = nI i) (hi : i < n) (h : K (some (vi (hf n D v i))) m) : cW (d + 1) n_M_halfOf [vo 1 0 0, vi u] m K := by
  subst hu
  have hS := F.1.sc hS0
  have hR := hS.ok
  have h8 := hS.le
  have e0 : (nI i).toNatClampNeg = i := nI_clamp (by omega)
  have f1 : gI m (1, 14, 0) (nI i).toNatClampNeg = nI (fW n D v i (2 ^ n)) := by rw [e0]; exact F.2.2.2.2.2 i hi
  have f2 := F.2.1
  refine w_M_halfOf (Go.runR (callT_mono MT _) [] 200 hR ?_)
  refine And.intro ⟨rfl, rfl, rfl⟩ ?_
  refine And.intro (vp_nI (k := i) (N := 8) (by omega) (by decide)) ?_
  refine And.intro (fun c11 => ?_) (fun c11 => ?_)
  · try dsimp only at c11
    refine And.intro trivial ?_
    exact kvi (by unfold hf abI; grind) h
  · try dsimp only at c11
    refine And.intro trivial ?_
    exact kvi (by unfold hf abI; grind) h

theorem l_M_silence {d n : Nat} {D : SDt} {m0 m : Mem} {K : Option Vv → Mem → Prop} {v : Int32} (hS0 : SC n D m0) (F : FtR n D v m0 m (2 ^ n)) (h : K (some (vi (nI (sbN n D v n)))) (askM m (nI (fW n D v (sbN n D v n) (2 ^ n))))) (k : Nat) (hk : k ≤ n) (hk0 : 0 < k) : Go (cW (d + 3)) i_M_silence (0, 0) K 24 [vo 1 0 0, vi v, vi (nI (sbN n D v k)), vi (nI k)] [] m 0 0 := by
  have hS := F.1.sc hS0
  have hR := hS.ok
  have h8 := hS.le
  have q2 := hS.nB
  have bL := sbL n D v k hk0
  have e0 : (nI (sbN n D v k)).toNatClampNeg = sbN n D v k := nI_clamp (by omega)
  refine Go.runR (callT_mono MT _) [24] 200 hR ?_
  refine And.intro (fun c27 => ?_) (fun c27 => ?_)
  · try dsimp only at c27
    obtain rfl := lq_e c27 q2 rfl hk (by omega)
    refine And.intro ⟨rfl, rfl, rfl⟩ ?_
    refine And.intro (vp_nI (k := sbN k D v k) (N := 8) (by omega) (by decide)) ?_
    refine m_M_ask (by repeat' (first | exact hR | apply OKR.pI | apply OKR.pL | apply OKR.cpI | apply OKR.wI))  (And.intro (by repeat' (first | exact hR | apply OKR.pI | apply OKR.pL | apply OKR.cpI | apply OKR.wI)) ?_)
    refine And.intro trivial ?_
    rw [e0, F.2.2.2.2.2 _ bL]
    exact h
  · try dsimp only at c27
    have hk2 := lq_m c27 q2 rfl hk (by omega)
    refine m_M_halfOf hS0 F rfl hk2 (And.intro (by repeat' (first | exact hR | apply OKR.pI | apply OKR.pL | apply OKR.cpI | apply OKR.wI)) ?_)
    refine m_M_halfOf hS0 F rfl (by omega) (And.intro (by repeat' (first | exact hR | apply OKR.pI | apply OKR.pL | apply OKR.cpI | apply OKR.wI)) ?_)
    refine And.intro (fun c34 => ?_) (fun c34 => ?_)
    · try dsimp only at c34
      refine go_eq (ls' := [vo 1 0 0, vi v, vi (nI (sbN n D v (k + 1))), vi (nI (k + 1))]) (by rw [nI_succ, sbs, if_neg (by omega)]; first | (rw [if_neg (by grind)]; done) | (rw [if_pos (by grind)]; done) | (rw [if_neg (by grind)]; rfl) | (rw [if_pos (by grind)]; rfl)) rfl (l_M_silence hS0 F h (k + 1) hk2 (by omega))
    · try dsimp only at c34
      refine go_eq (ls' := [vo 1 0 0, vi v, vi (nI (sbN n D v (k + 1))), vi (nI (k + 1))]) (by rw [nI_succ, sbs, if_neg (by omega)]; first | (rw [if_neg (by grind)]; done) | (rw [if_pos (by grind)]; done) | (rw [if_neg (by grind)]; rfl) | (rw [if_pos (by grind)]; rfl)) rfl (l_M_silence hS0 F h (k + 1) hk2 (by omega))
termination_by n - k
decreasing_by all_goals omega

theorem p_silence {d : Nat} {m : Mem} {K : Option Vv → Option Vv → Mem → Prop} (R : RelAB m) {v : Int32} (h : ∀ v m', RelAB m' → K v v m') : cW (d + 6) n_X_silence [vo 0 0 0, vi v] m (fun u m1 => cW (d + 6) n_M_silence [vo 1 0 0, vi v] m1 (fun w m2 => K u w m2)) := by
  have hR := R.1
  obtain ⟨n, hc⟩ := R.2.2.2.2
  obtain ⟨D, hS⟩ := hc.sc hR
  have ht := R.2.2.2.1
  obtain ⟨q1, q2⟩ := hc.many
  have h8 := hc.le
  have hz : gI m (0, 15, 0) 0 = 0 ∧ gI m (0, 16, 0) 0 = 0 := ht.2.2.2.2.2
  have mL := fM_lt hS v
  by_cases q : 0 ≤ v ∧ v ≤ 200
  · by_cases z : fM n D v (2 ^ n) = 0
    · refine w_X_silence (Go.runR (callT_mono MT _) [27] 200 (by repeat' (first | exact hR | exact g1.ok | exact g2.ok | exact g3.ok | apply OKR.pI | apply OKR.pL | apply OKR.cpI | apply OKR.wI)) ?_)
      refine m_X_isRise (by repeat' (first | exact hR | exact g1.ok | exact g2.ok | exact g3.ok | apply OKR.pI | apply OKR.pL | apply OKR.cpI | apply OKR.wI)) (And.intro (by repeat' (first | exact hR | exact g1.ok | exact g2.ok | exact g3.ok | apply OKR.pI | apply OKR.pL | apply OKR.cpI | apply OKR.wI)) ?_)
      rw [show b2 (0 ≤ v ∧ v ≤ 200) = 1 from if_pos q]
      refine And.intro (fun c2 => ?_) (fun c2 => ?_)
      · first | exact absurd c2 (by decide) | exact absurd (by decide) c2 | (exfalso; grind)
      · try dsimp only at c2
        refine And.intro ⟨(by first | decide | assumption | omega), (by first | decide | assumption | omega)⟩ ?_
        refine And.intro ⟨(by first | decide | assumption | omega), (by first | decide | assumption | omega)⟩ ?_
        refine m_Se_lookAt (by exact hS) hz (fun m1 g1 hE => And.intro g1.ok ?_)
        refine And.intro ⟨(by first | decide | assumption | omega), (by first | decide | assumption | omega)⟩ ?_
        refine m_Se_howManyFit hE  (And.intro (by repeat' (first | exact hR | exact g1.ok | exact g2.ok | exact g3.ok | apply OKR.pI | apply OKR.pL | apply OKR.cpI | apply OKR.wI)) ?_)
        refine And.intro (fun c16 => ?_) (fun c16 => ?_)
        · try dsimp only at c16
          refine m_X_found4 (by repeat' (first | exact hR | exact g1.ok | exact g2.ok | exact g3.ok | apply OKR.pI | apply OKR.pL | apply OKR.cpI | apply OKR.wI))  (And.intro (by repeat' (first | exact hR | exact g1.ok | exact g2.ok | exact g3.ok | apply OKR.pI | apply OKR.pL | apply OKR.cpI | apply OKR.wI)) ?_)
          refine And.intro trivial ?_
          refine w_M_silence (Go.runR (callT_mono MT _) [24] 200 (by repeat' (first | exact hR | exact g1.ok | exact g2.ok | exact g3.ok | apply OKR.pI | apply OKR.pL | apply OKR.cpI | apply OKR.wI)) ?_)
          refine m_M_isRise (by repeat' (first | exact hR | exact g1.ok | exact g2.ok | exact g3.ok | apply OKR.pI | apply OKR.pL | apply OKR.cpI | apply OKR.wI)) (And.intro (by repeat' (first | exact hR | exact g1.ok | exact g2.ok | exact g3.ok | apply OKR.pI | apply OKR.pL | apply OKR.cpI | apply OKR.wI)) ?_)
          rw [show b2 (0 ≤ v ∧ v ≤ 200) = 1 from if_pos q]
          refine And.intro (fun c2 => ?_) (fun c2 => ?_)
          · first | exact absurd c2 (by decide) | exact absurd (by decide) c2 | (exfalso; grind)
          · try dsimp only at c2
            refine m_M_setFits (by exact hE.1.found) (fun m2 F => And.intro F.1.ok ?_)
            have g2 := F.1
            refine And.intro (fun c10 => ?_) (fun c10 => ?_)
            · try dsimp only at c10
              refine m_M_meet4 (by repeat' (first | exact hR | exact g1.ok | exact g2.ok | exact g3.ok | apply OKR.pI | apply OKR.pL | apply OKR.cpI | apply OKR.wI))  (And.intro (by repeat' (first | exact hR | exact g1.ok | exact g2.ok | exact g3.ok | apply OKR.pI | apply OKR.pL | apply OKR.cpI | apply OKR.wI)) ?_)
              refine And.intro trivial ?_
              exact h _ _ (R.meet2 g1 (by omega) (by omega) g2)
            · exact absurd (F.2.1.trans ((nI_z mL).mpr z)) c10
        · exact absurd ((nI_z mL).mpr z) c16
    · rcases Nat.eq_zero_or_pos n with y | y
      · refine w_X_silence (Go.runR (callT_mono MT _) [27] 200 (by repeat' (first | exact hR | exact g1.ok | exact g2.ok | exact g3.ok | apply OKR.pI | apply OKR.pL | apply OKR.cpI | apply OKR.wI)) ?_)
        refine m_X_isRise (by repeat' (first | exact hR | exact g1.ok | exact g2.ok | exact g3.ok | apply OKR.pI | apply OKR.pL | apply OKR.cpI | apply OKR.wI)) (And.intro (by repeat' (first | exact hR | exact g1.ok | exact g2.ok | exact g3.ok | apply OKR.pI | apply OKR.pL | apply OKR.cpI | apply OKR.wI)) ?_)
        rw [show b2 (0 ≤ v ∧ v ≤ 200) = 1 from if_pos q]
        refine And.intro (fun c2 => ?_) (fun c2 => ?_)
        · first | exact absurd c2 (by decide) | exact absurd (by decide) c2 | (exfalso; grind)
        · try dsimp only at c2
          refine And.intro ⟨(by first | decide | assumption | omega), (by first | decide | assumption | omega)⟩ ?_
          refine And.intro ⟨(by first | decide | assumption | omega), (by first | decide | assumption | omega)⟩ ?_
          refine m_Se_lookAt (by exact hS) hz (fun m1 g1 hE => And.intro g1.ok ?_)
          refine And.intro ⟨(by first | decide | assumption | omega), (by first | decide | assumption | omega)⟩ ?_
          refine m_Se_howManyFit hE  (And.intro (by repeat' (first | exact hR | exact g1.ok | exact g2.ok | exact g3.ok | apply OKR.pI | apply OKR.pL | apply OKR.cpI | apply OKR.wI)) ?_)
          refine And.intro (fun c16 => ?_) (fun c16 => ?_)
          · exact absurd ((nI_z mL).mp c16) z
          · try dsimp only at c16
            refine l_X_silence hE (fun _ => ?_) (fun x => absurd x (by omega)) 0 (-9) 0 _ (Or.inl ⟨rfl, rfl, rfl⟩) (by omega)
            refine w_M_silence (Go.runR (callT_mono MT _) [24] 200 (by repeat' (first | exact hR | exact g1.ok | exact g2.ok | exact g3.ok | apply OKR.pI | apply OKR.pL | apply OKR.cpI | apply OKR.wI)) ?_)
            refine m_M_isRise (by repeat' (first | exact hR | exact g1.ok | exact g2.ok | exact g3.ok | apply OKR.pI | apply OKR.pL | apply OKR.cpI | apply OKR.wI)) (And.intro (by repeat' (first | exact hR | exact g1.ok | exact g2.ok | exact g3.ok | apply OKR.pI | apply OKR.pL | apply OKR.cpI | apply OKR.wI)) ?_)
            rw [show b2 (0 ≤ v ∧ v ≤ 200) = 1 from if_pos q]
            refine And.intro (fun c2 => ?_) (fun c2 => ?_)
            · first | exact absurd c2 (by decide) | exact absurd (by decide) c2 | (exfalso; grind)
            · try dsimp only at c2
              refine m_M_setFits (by exact hE.1) (fun m2 F => And.intro F.1.ok ?_)
              have g2 := F.1
              refine And.intro (fun c10 => ?_) (fun c10 => ?_)
              · exact absurd ((nI_z mL).mp (F.2.1.symm.trans c10)) z
              · try dsimp only at c10
                refine And.intro (fun c17 => ?_) (fun c17 => ?_)
                · try dsimp only at c17
                  refine And.intro trivial ?_
                  exact h _ _ ((g1.trans g2).rel R)
                · exact absurd (((F.1.sc hE.1).nB).trans (by rw [y]; rfl)) c17
      · refine w_X_silence (Go.runR (callT_mono MT _) [27] 200 (by repeat' (first | exact hR | exact g1.ok | exact g2.ok | exact g3.ok | apply OKR.pI | apply OKR.pL | apply OKR.cpI | apply OKR.wI)) ?_)
        refine m_X_isRise (by repeat' (first | exact hR | exact g1.ok | exact g2.ok | exact g3.ok | apply OKR.pI | apply OKR.pL | apply OKR.cpI | apply OKR.wI)) (And.intro (by repeat' (first | exact hR | exact g1.ok | exact g2.ok | exact g3.ok | apply OKR.pI | apply OKR.pL | apply OKR.cpI | apply OKR.wI)) ?_)
        rw [show b2 (0 ≤ v ∧ v ≤ 200) = 1 from if_pos q]
        refine And.intro (fun c2 => ?_) (fun c2 => ?_)
        · first | exact absurd c2 (by decide) | exact absurd (by decide) c2 | (exfalso; grind)
        · try dsimp only at c2
          refine And.intro ⟨(by first | decide | assumption | omega), (by first | decide | assumption | omega)⟩ ?_
          refine And.intro ⟨(by first | decide | assumption | omega), (by first | decide | assumption | omega)⟩ ?_
          refine m_Se_lookAt (by exact hS) hz (fun m1 g1 hE => And.intro g1.ok ?_)
          refine And.intro ⟨(by first | decide | assumption | omega), (by first | decide | assumption | omega)⟩ ?_
          refine m_Se_howManyFit hE  (And.intro (by repeat' (first | exact hR | exact g1.ok | exact g2.ok | exact g3.ok | apply OKR.pI | apply OKR.pL | apply OKR.cpI | apply OKR.wI)) ?_)
          refine And.intro (fun c16 => ?_) (fun c16 => ?_)
          · exact absurd ((nI_z mL).mp c16) z
          · try dsimp only at c16
            refine l_X_silence hE (fun x => absurd x (by omega)) (fun _ => ?_) 0 (-9) 0 _ (Or.inl ⟨rfl, rfl, rfl⟩) (by omega)
            refine w_M_silence (Go.runR (callT_mono MT _) [24] 200 (by repeat' (first | exact hR | exact g1.ok | exact g2.ok | exact g3.ok | apply OKR.pI | apply OKR.pL | apply OKR.cpI | apply OKR.wI)) ?_)
            refine m_M_isRise (by repeat' (first | exact hR | exact g1.ok | exact g2.ok | exact g3.ok | apply OKR.pI | apply OKR.pL | apply OKR.cpI | apply OKR.wI)) (And.intro (by repeat' (first | exact hR | exact g1.ok | exact g2.ok | exact g3.ok | apply OKR.pI | apply OKR.pL | apply OKR.cpI | apply OKR.wI)) ?_)
            rw [show b2 (0 ≤ v ∧ v ≤ 200) = 1 from if_pos q]
            refine And.intro (fun c2 => ?_) (fun c2 => ?_)
            · first | exact absurd c2 (by decide) | exact absurd (by decide) c2 | (exfalso; grind)
            · try dsimp only at c2
              refine m_M_setFits (by exact hE.1.tell) (fun m2 F => And.intro F.1.ok ?_)
              have g2 := F.1
              refine And.intro (fun c10 => ?_) (fun c10 => ?_)
              · exact absurd ((nI_z mL).mp (F.2.1.symm.trans c10)) z
              · try dsimp only at c10
                refine And.intro (fun c17 => ?_) (fun c17 => ?_)
                · exact absurd (((F.1.sc hE.1.tell).nB).symm.trans c17) (sz0 y (by omega))
                · try dsimp only at c17
                  exact go_eq (ls' := [vo 1 0 0, vi v, vi (nI (sbN n D v 1)), vi (nI 1)]) rfl rfl (l_M_silence hE.1.tell F (h _ _ (R.tell2 g1 g2)) 1 y (by omega))
  · refine w_X_silence (Go.runR (callT_mono MT _) [27] 200 (by repeat' (first | exact hR | exact g1.ok | exact g2.ok | exact g3.ok | apply OKR.pI | apply OKR.pL | apply OKR.cpI | apply OKR.wI)) ?_)
    refine m_X_isRise (by repeat' (first | exact hR | exact g1.ok | exact g2.ok | exact g3.ok | apply OKR.pI | apply OKR.pL | apply OKR.cpI | apply OKR.wI)) (And.intro (by repeat' (first | exact hR | exact g1.ok | exact g2.ok | exact g3.ok | apply OKR.pI | apply OKR.pL | apply OKR.cpI | apply OKR.wI)) ?_)
    rw [show b2 (0 ≤ v ∧ v ≤ 200) = 0 from if_neg q]
    refine And.intro (fun c2 => ?_) (fun c2 => ?_)
    · try dsimp only at c2
      refine And.intro trivial ?_
      refine w_M_silence (Go.runR (callT_mono MT _) [24] 200 (by repeat' (first | exact hR | exact g1.ok | exact g2.ok | exact g3.ok | apply OKR.pI | apply OKR.pL | apply OKR.cpI | apply OKR.wI)) ?_)
      refine m_M_isRise (by repeat' (first | exact hR | exact g1.ok | exact g2.ok | exact g3.ok | apply OKR.pI | apply OKR.pL | apply OKR.cpI | apply OKR.wI)) (And.intro (by repeat' (first | exact hR | exact g1.ok | exact g2.ok | exact g3.ok | apply OKR.pI | apply OKR.pL | apply OKR.cpI | apply OKR.wI)) ?_)
      rw [show b2 (0 ≤ v ∧ v ≤ 200) = 0 from if_neg q]
      refine And.intro (fun c2 => ?_) (fun c2 => ?_)
      · try dsimp only at c2
        refine And.intro trivial ?_
        exact h _ _ R
      · first | exact absurd c2 (by decide) | exact absurd (by decide) c2 | (exfalso; grind)
    · first | exact absurd c2 (by decide) | exact absurd (by decide) c2 | (exfalso; grind)

def pc (s : Nat) : Nat := itr (fun k a => a + if s.testBit k = true then 1 else 0) 0 8
theorem shb : ∀ s, s < 256 → ∀ k, k < 8 → (nI s >>> (nI k &&& 31)) &&& 1 = nI (if s.testBit k = true then 1 else 0) := by decide +kernel
def pcK (s k : Nat) : Nat := itr (fun k a => a + if s.testBit k = true then 1 else 0) 0 k
theorem pcS (s k : Nat) : pcK s (k + 1) = pcK s k + if s.testBit k = true then 1 else 0 := rfl

theorem m_J_bitCount {d : Nat} {m : Mem} {K : Option Vv → Mem → Prop} (hR : OKR m) {v : Int32} {s : Nat} (hv : v = nI s) (hs : s < 256) (h : K (some (vi (nI (pc s)))) m) : cW (d + 1) n_J_bitCount [vi v] m K := by
  subst hv
  refine w_J_bitCount (Go.runR (callT_mono MT _) [] 200 hR ?_)
  refine And.intro trivial ?_
  refine kvi ?_ h
  clear h hR
  revert hs
  revert s
  decide +kernel

theorem l_M_sizeOf {d : Nat} {m : Mem} {K : Option Vv → Mem → Prop} (hR : OKR m) {s : Nat} (hs : s < 256) (h : K (some (vi (nI (pc s)))) m) (k : Nat) (hk : k ≤ 8) : Go (cW d) i_M_sizeOf (0, 0) K 4 [vi (nI s), vi (nI (pcK s k)), vi (nI k)] [] m 0 0 := by
  refine Go.runR (callT_mono MT _) [4] 200 hR ?_
  refine And.intro (fun c6 => ?_) (fun c6 => ?_)
  · try dsimp only at c6
    have hk2 := lq_e (n := 8) c6 rfl rfl hk (by omega)
    refine And.intro trivial ?_
    rw [hk2]; exact h
  · try dsimp only at c6
    have hk2 := lq_m (n := 8) c6 rfl rfl hk (by omega)
    refine go_eq (ls' := [vi (nI s), vi (nI (pcK s (k + 1))), vi (nI (k + 1))]) (by rw [nI_succ, pcS, ← nI_add, ← shb s hs k hk2]; rfl) rfl (l_M_sizeOf hR hs h (k + 1) hk2)
termination_by 8 - k
decreasing_by all_goals omega

theorem m_M_sizeOf {d : Nat} {m : Mem} {K : Option Vv → Mem → Prop} (hR : OKR m) {v : Int32} {s : Nat} (hv : v = nI s) (hs : s < 256) (h : K (some (vi (nI (pc s)))) m) : cW (d + 1) n_M_sizeOf [vi v] m K := by
  subst hv
  refine w_M_sizeOf (Go.runR (callT_mono MT _) [4] 200 hR ?_)
  exact l_M_sizeOf hR hs h 0 (by omega)

def msF (n : Nat) (D : SDt) (s b : Nat) : Nat := if (nI s &&& mu n D) = 0 ∧ dT D + rs n D s ≤ 60 ∧ pc b < pc s then s else b
def msN (n : Nat) (D : SDt) (k : Nat) : Nat := itr (msF n D) 0 k
theorem mss (n : Nat) (D : SDt) (k : Nat) : msN n D (k + 1) = if (nI k &&& mu n D) = 0 ∧ dT D + rs n D k ≤ 60 ∧ pc (msN n D k) < pc k then k else msN n D k := rfl
theorem msL (n : Nat) (D : SDt) : ∀ k, msN n D k ≤ k
  | 0 => Nat.le_refl _
  | k + 1 => by
    have := msL n D k
    rw [mss]
    split <;> omega
theorem msB (n : Nat) (D : SDt) (k : Nat) (h : 0 < k) : msN n D k < k := by
  obtain ⟨j, rfl⟩ : ∃ j, k = j + 1 := ⟨k - 1, by omega⟩
  have := msL n D j
  rw [mss]
  split <;> omega
theorem pcL : ∀ s, s < 256 → pc s ≤ 8 := by decide +kernel
theorem rsL {n : Nat} {D : SDt} {m : Mem} (hS : SC n D m) (s : Nat) : rs n D s ≤ 144 := by
  have a : rs n D s ≤ 18 * n := itrL fun k x hk => by have := rpL hS hk; split <;> omega
  have := hS.le
  omega

theorem l_Se_mostHouses {d n : Nat} {D : SDt} {m : Mem} {K : Option Vv → Mem → Prop} (hE : SeR n D m) (h : K (some (vi (nI (msN n D (2 ^ n))))) m) (k : Nat) (x : Vv) (hk : k ≤ 2 ^ n) : Go (cW (d + 1)) i_Se_mostHouses (0, 0) K 4 [vo 0 14 0, vi (nI (60 - dT D)), vi (nI (msN n D k)), vi (nI k), x] [] m 0 0 := by
  have hR := hE.1.ok
  have h8 := hE.1.le
  have q1 : gI m (0, 14, 0) 3 = nI (2 ^ n) := hE.2.1
  have b2 := two_l n (by omega)
  refine Go.runR (callT_mono MT _) [4] 200 hR ?_
  refine And.intro (fun c7 => ?_) (fun c7 => ?_)
  · try dsimp only at c7
    have hk2 := lq_e c7 q1 rfl hk (by omega)
    rw [hk2]
    refine And.intro trivial ?_
    exact h
  · try dsimp only at c7
    have hk2 := lq_m c7 q1 rfl hk (by omega)
    have hS := hE.1
    have e0 : (nI k).toNatClampNeg = k := nI_clamp (by omega)
    have m5 : gI m (0, 14, 0) 5 = mu n D := hE.2.2.2.1
    have r5 : gI m (0, 15, 0) (nI k).toNatClampNeg = nI (rs n D k) := by rw [e0]; exact hE.2.2.2.2.1 k hk2
    have w0 := hS.wt.1
    have r0 := rsL hS k
    have p1 := pcL k (by omega)
    have p2 := pcL (msN n D k) (by have := msL n D k; omega)
    have i1 : nI (pc k) ≤ nI (pc (msN n D k)) ↔ pc k ≤ pc (msN n D k) := nI_leI (by omega) (by omega)
    have key : ∀ (b : Int32) (y : Vv), b = nI (msN n D (k + 1)) → Go (cW (d + 1)) i_Se_mostHouses (0, 0) K 4 [vo 0 14 0, vi (nI (60 - dT D)), vi b, vi (nI k + 1), y] [] m 0 0 := fun b y z => by
      subst z
      exact go_eq (by rw [← nI_succ]) rfl (l_Se_mostHouses hE h (k + 1) y hk2)
    rw [mss] at key
    have i2 : nI (60 - dT D) < nI (rs n D k) ↔ 60 - dT D < rs n D k := nI_ltI (by omega) (by omega)
    refine And.intro (fun c12 => ?_) (fun c12 => ?_)
    · try dsimp only at c12
      refine And.intro ⟨(by first | decide | assumption | omega), (by first | decide | assumption | omega)⟩ ?_
      refine And.intro (vp_nI (k := k) (N := 256) (by omega) (by decide)) ?_
      refine And.intro (fun c18 => ?_) (fun c18 => ?_)
      · try dsimp only at c18
        refine And.intro (fun c24 => ?_) (fun c24 => ?_)
        · try dsimp only at c24
          exact key _ _ (by grind)
        · try dsimp only at c24
          refine m_J_bitCount (by repeat' (first | exact hR | apply OKR.pI | apply OKR.pL | apply OKR.cpI | apply OKR.wI)) (s := k) rfl (by omega) (And.intro (by repeat' (first | exact hR | apply OKR.pI | apply OKR.pL | apply OKR.cpI | apply OKR.wI)) ?_)
          refine m_J_bitCount (by repeat' (first | exact hR | apply OKR.pI | apply OKR.pL | apply OKR.cpI | apply OKR.wI)) (s := msN n D k) rfl (by have := msL n D k; omega) (And.intro (by repeat' (first | exact hR | apply OKR.pI | apply OKR.pL | apply OKR.cpI | apply OKR.wI)) ?_)
          refine And.intro (fun c29 => ?_) (fun c29 => ?_)
          · try dsimp only at c29
            exact key _ _ (by grind)
          · try dsimp only at c29
            exact key _ _ (by grind)
      · try dsimp only at c18
        refine And.intro (fun c24 => ?_) (fun c24 => ?_)
        · try dsimp only at c24
          exact key _ _ (by grind)
        · try dsimp only at c24
          refine m_J_bitCount (by repeat' (first | exact hR | apply OKR.pI | apply OKR.pL | apply OKR.cpI | apply OKR.wI)) (s := k) rfl (by omega) (And.intro (by repeat' (first | exact hR | apply OKR.pI | apply OKR.pL | apply OKR.cpI | apply OKR.wI)) ?_)
          refine m_J_bitCount (by repeat' (first | exact hR | apply OKR.pI | apply OKR.pL | apply OKR.cpI | apply OKR.wI)) (s := msN n D k) rfl (by have := msL n D k; omega) (And.intro (by repeat' (first | exact hR | apply OKR.pI | apply OKR.pL | apply OKR.cpI | apply OKR.wI)) ?_)
          refine And.intro (fun c29 => ?_) (fun c29 => ?_)
          · try dsimp only at c29
            exact key _ _ (by grind)
          · try dsimp only at c29
            exact key _ _ (by grind)
    · try dsimp only at c12
      refine And.intro (fun c24 => ?_) (fun c24 => ?_)
      · try dsimp only at c24
        exact key _ _ (by grind)
      · try dsimp only at c24
        refine m_J_bitCount (by repeat' (first | exact hR | apply OKR.pI | apply OKR.pL | apply OKR.cpI | apply OKR.wI)) (s := k) rfl (by omega) (And.intro (by repeat' (first | exact hR | apply OKR.pI | apply OKR.pL | apply OKR.cpI | apply OKR.wI)) ?_)
        refine m_J_bitCount (by repeat' (first | exact hR | apply OKR.pI | apply OKR.pL | apply OKR.cpI | apply OKR.wI)) (s := msN n D k) rfl (by have := msL n D k; omega) (And.intro (by repeat' (first | exact hR | apply OKR.pI | apply OKR.pL | apply OKR.cpI | apply OKR.wI)) ?_)
        refine And.intro (fun c29 => ?_) (fun c29 => ?_)
        · try dsimp only at c29
          exact key _ _ (by grind)
        · try dsimp only at c29
          exact key _ _ (by grind)
termination_by 2 ^ n - k
decreasing_by all_goals omega

theorem m_Se_mostHouses {d n : Nat} {D : SDt} {m : Mem} {K : Option Vv → Mem → Prop} (hE : SeR n D m) {u : Int32} (hu : u = nI (60 - dT D)) (h : K (some (vi (nI (msN n D (2 ^ n))))) m) : cW (d + 2) n_Se_mostHouses [vo 0 14 0, vi u] m K := by
  have hR := hE.1.ok
  have h8 := hE.1.le
  have q1 : gI m (0, 14, 0) 3 = nI (2 ^ n) := hE.2.1
  subst hu
  refine w_Se_mostHouses (Go.runR (callT_mono MT _) [4] 200 hR ?_)
  exact l_Se_mostHouses hE h 0 _ (Nat.zero_le _)

theorem l_M_most {d n : Nat} {D : SDt} {m : Mem} {K : Option Vv → Mem → Prop} (hS : SC n D m) (h : K (some (vi (nI (pc (msN n D (2 ^ n)))))) (askM m (nI (msN n D (2 ^ n))))) (k : Nat) (hk : k ≤ 2 ^ n) : Go (cW (d + 3)) i_M_most (0, 0) K 7 [vo 1 0 0, vi (mu n D), vi (nI (msN n D k)), vi (nI k)] [] m 0 0 := by
  have hR := hS.ok
  have h8 := hS.le
  have bb2 := two_l n (by omega)
  have b3 := two_p n
  refine Go.runR (callT_mono MT _) [7] 200 hR ?_
  refine m_M_all (by exact hS)  (And.intro (by repeat' (first | exact hR | apply OKR.pI | apply OKR.pL | apply OKR.cpI | apply OKR.wI)) ?_)
  refine And.intro (fun c10 => ?_) (fun c10 => ?_)
  · try dsimp only at c10
    have hk2 := lq0 c10 rfl rfl b3 hk (by omega)
    rw [hk2]
    refine m_M_sizeOf (by repeat' (first | exact hR | apply OKR.pI | apply OKR.pL | apply OKR.cpI | apply OKR.wI)) (s := msN n D (2 ^ n)) rfl (by have := msB n D (2 ^ n) b3; omega) (And.intro (by repeat' (first | exact hR | apply OKR.pI | apply OKR.pL | apply OKR.cpI | apply OKR.wI)) ?_)
    refine m_M_ask (by repeat' (first | exact hR | apply OKR.pI | apply OKR.pL | apply OKR.cpI | apply OKR.wI))  (And.intro (by repeat' (first | exact hR | apply OKR.pI | apply OKR.pL | apply OKR.cpI | apply OKR.wI)) ?_)
    refine And.intro trivial ?_
    exact h
  · try dsimp only at c10
    have hk2 := lq1 c10 rfl rfl b3 hk (by omega)
    have w0 := hS.wt.1
    have r0 := rsL hS k
    have p1 := pcL k (by omega)
    have p2 := pcL (msN n D k) (by have := msL n D k; omega)
    have i1 : nI (pc k) ≤ nI (pc (msN n D k)) ↔ pc k ≤ pc (msN n D k) := nI_leI (by omega) (by omega)
    have t5 : gI m (1, 0, 0) 21 = nI (dT D) := hS.wt.2.2
    have i2 : (60 : Int32) < gI m (1, 0, 0) 21 + nI (rs n D k) ↔ 60 < dT D + rs n D k := by rw [t5, nI_add, show (60 : Int32) = nI 60 from rfl]; exact nI_ltI (by omega) (by omega)
    have key : ∀ (b : Int32), b = nI (msN n D (k + 1)) → Go (cW (d + 3)) i_M_most (0, 0) K 7 [vo 1 0 0, vi (mu n D), vi b, vi (nI k + 1)] [] m 0 0 := fun b z => by
      subst z
      exact go_eq (by rw [← nI_succ]) rfl (l_M_most hS h (k + 1) hk2)
    rw [mss] at key
    refine And.intro (fun c14 => ?_) (fun c14 => ?_)
    · try dsimp only at c14
      refine m_M_sizeOf (by repeat' (first | exact hR | apply OKR.pI | apply OKR.pL | apply OKR.cpI | apply OKR.wI)) (s := k) rfl (by omega) (And.intro (by repeat' (first | exact hR | apply OKR.pI | apply OKR.pL | apply OKR.cpI | apply OKR.wI)) ?_)
      refine m_M_sizeOf (by repeat' (first | exact hR | apply OKR.pI | apply OKR.pL | apply OKR.cpI | apply OKR.wI)) (s := msN n D k) rfl (by have := msL n D k; omega) (And.intro (by repeat' (first | exact hR | apply OKR.pI | apply OKR.pL | apply OKR.cpI | apply OKR.wI)) ?_)
      refine And.intro (fun c19 => ?_) (fun c19 => ?_)
      · try dsimp only at c19
        exact key _ (by grind)
      · try dsimp only at c19
        refine m_M_ripples (by exact hS) rfl (by omega) (And.intro (by repeat' (first | exact hR | apply OKR.pI | apply OKR.pL | apply OKR.cpI | apply OKR.wI)) ?_)
        refine And.intro (fun c27 => ?_) (fun c27 => ?_)
        · try dsimp only at c27
          exact key _ (by grind)
        · try dsimp only at c27
          exact key _ (by grind)
    · try dsimp only at c14
      exact key _ (by grind)
termination_by 2 ^ n - k
decreasing_by all_goals omega

theorem p_most {d : Nat} {m : Mem} {K : Option Vv → Option Vv → Mem → Prop} (R : RelAB m) (h : ∀ v m', RelAB m' → K v v m') : cW (d + 6) n_X_most [vo 0 0 0] m (fun u m1 => cW (d + 6) n_M_most [vo 1 0 0] m1 (fun w m2 => K u w m2)) := by
  have hR := R.1
  obtain ⟨n, hc⟩ := R.2.2.2.2
  obtain ⟨D, hS⟩ := hc.sc hR
  have ht := R.2.2.2.1
  obtain ⟨q1, q2⟩ := hc.many
  have h8 := hc.le
  have hz : gI m (0, 15, 0) 0 = 0 ∧ gI m (0, 16, 0) 0 = 0 := ht.2.2.2.2.2
  have bb2 := two_l n (by omega)
  have b4 := msB n D (2 ^ n) (two_p n)
  refine w_X_most (Go.runR (callT_mono MT _) [] 200 (by repeat' (first | exact hR | exact g1.ok | exact g2.ok | exact g3.ok | apply OKR.pI | apply OKR.pL | apply OKR.cpI | apply OKR.wI)) ?_)
  refine And.intro ⟨(by first | decide | assumption | omega), (by first | decide | assumption | omega)⟩ ?_
  refine And.intro ⟨(by first | decide | assumption | omega), (by first | decide | assumption | omega)⟩ ?_
  refine m_Se_lookAt (by exact hS) hz (fun m1 g1 hE => And.intro g1.ok ?_)
  refine And.intro ⟨(by first | decide | assumption | omega), (by first | decide | assumption | omega)⟩ ?_
  refine And.intro ⟨(by first | decide | assumption | omega), (by first | decide | assumption | omega)⟩ ?_
  refine m_Se_mostHouses hE (by show (60 : Int32) - gI m1 (0, 5, 0) 7 = _; rw [hE.1.wt.2.1, show (60 : Int32) = nI 60 from rfl, pk_sub hE.1.wt.1]) (And.intro (by repeat' (first | exact hR | exact g1.ok | exact g2.ok | exact g3.ok | apply OKR.pI | apply OKR.pL | apply OKR.cpI | apply OKR.wI)) ?_)
  refine m_J_bitCount (by repeat' (first | exact hR | exact g1.ok | exact g2.ok | exact g3.ok | apply OKR.pI | apply OKR.pL | apply OKR.cpI | apply OKR.wI)) rfl (by omega) (And.intro (by repeat' (first | exact hR | exact g1.ok | exact g2.ok | exact g3.ok | apply OKR.pI | apply OKR.pL | apply OKR.cpI | apply OKR.wI)) ?_)
  refine m_X_tell (by repeat' (first | exact hR | exact g1.ok | exact g2.ok | exact g3.ok | apply OKR.pI | apply OKR.pL | apply OKR.cpI | apply OKR.wI))  (And.intro (by repeat' (first | exact hR | exact g1.ok | exact g2.ok | exact g3.ok | apply OKR.pI | apply OKR.pL | apply OKR.cpI | apply OKR.wI)) ?_)
  refine And.intro trivial ?_
  refine w_M_most (Go.runR (callT_mono MT _) [7] 200 (by repeat' (first | exact hR | exact g1.ok | exact g2.ok | exact g3.ok | apply OKR.pI | apply OKR.pL | apply OKR.cpI | apply OKR.wI)) ?_)
  refine m_M_mutes (by exact hE.1.tell)  (And.intro (by repeat' (first | exact hR | exact g1.ok | exact g2.ok | exact g3.ok | apply OKR.pI | apply OKR.pL | apply OKR.cpI | apply OKR.wI)) ?_)
  exact l_M_most hE.1.tell (h _ _ (R.tell2 g1 (Fr.refl (by repeat' (first | exact hR | exact g1.ok | exact g2.ok | exact g3.ok | apply OKR.pI | apply OKR.pL | apply OKR.cpI | apply OKR.wI))))) 0 (Nat.zero_le _)
