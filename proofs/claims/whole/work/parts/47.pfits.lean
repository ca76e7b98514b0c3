/-! Written by a program (wip/whole/p47.py): fits, sure, thunder. -/

theorem m_X_isRise {d : Nat} {m : Mem} {K : Option Vv → Mem → Prop} (hR : OKR m) {v : Int32} (h : K (some (vi (b2 (0 ≤ v ∧ v ≤ 200)))) m) : cW (d + 2) n_X_isRise [vi v] m K := by
  refine w_X_isRise (Go.runR (callT_mono MT _) [] 200 hR ?_)
  refine m_X_isWithin (by repeat' (first | exact hR | apply OKR.pI | apply OKR.pL | apply OKR.cpI)) (And.intro (by repeat' (first | exact hR | apply OKR.pI | apply OKR.pL | apply OKR.cpI)) ?_)
  refine And.intro (by first | exact Or.inl rfl | exact Or.inr rfl | grind) ?_
  exact h

theorem m_M_isRise {d : Nat} {m : Mem} {K : Option Vv → Mem → Prop} (hR : OKR m) {v : Int32} (h : K (some (vi (b2 (0 ≤ v ∧ v ≤ 200)))) m) : cW (d + 2) n_M_isRise [vi v] m K := by
  refine w_M_isRise (Go.runR (callT_mono MT _) [] 200 hR ?_)
  refine m_M_in (by repeat' (first | exact hR | apply OKR.pI | apply OKR.pL | apply OKR.cpI)) (And.intro (by repeat' (first | exact hR | apply OKR.pI | apply OKR.pL | apply OKR.cpI)) ?_)
  refine And.intro (by first | exact Or.inl rfl | exact Or.inr rfl | grind) ?_
  exact h

theorem nI_z {k : Nat} (hk : k < 2 ^ 31) : nI k = 0 ↔ k = 0 := by rw [show (0 : Int32) = nI 0 from rfl]; exact nI_eq hk (by omega)
theorem fM_lt {n : Nat} {D : SDt} {m : Mem} (hS : SC n D m) (v : Int32) : fM n D v (2 ^ n) < 2 ^ 31 := by
  have a := fML n D v (2 ^ n)
  have b := two_l n (by have := hS.le; omega)
  omega

theorem p_fits {d : Nat} {m : Mem} {K : Option Vv → Option Vv → Mem → Prop} (R : RelAB m) {v : Int32} (h : ∀ v m', RelAB m' → K v v m') : cW (d + 6) n_X_fits [vo 0 0 0, vi v] m (fun u m1 => cW (d + 6) n_M_fits [vo 1 0 0, vi v] m1 (fun w m2 => K u w m2)) := by
  have hR := R.1
  obtain ⟨n, hc⟩ := R.2.2.2.2
  obtain ⟨D, hS⟩ := hc.sc hR
  have ht := R.2.2.2.1
  obtain ⟨q1, q2⟩ := hc.many
  have h8 := hc.le
  have hz : gI m (0, 15, 0) 0 = 0 ∧ gI m (0, 16, 0) 0 = 0 := ht.2.2.2.2.2
  have mL := fM_lt hS v
  by_cases q : 0 ≤ v ∧ v ≤ 200
  · by_cases z : fM n D v (2 ^ n) = 0
    · refine w_X_fits (Go.runR (callT_mono MT _) [] 200 (by repeat' (first | exact hR | exact g1.ok | exact g2.ok | exact g3.ok | apply OKR.pI | apply OKR.pL | apply OKR.cpI | apply OKR.wI)) ?_)
      refine m_X_isRise (by repeat' (first | exact hR | exact g1.ok | exact g2.ok | exact g3.ok | apply OKR.pI | apply OKR.pL | apply OKR.cpI | apply OKR.wI)) (And.intro (by repeat' (first | exact hR | exact g1.ok | exact g2.ok | exact g3.ok | apply OKR.pI | apply OKR.pL | apply OKR.cpI | apply OKR.wI)) ?_)
      rw [show b2 (0 ≤ v ∧ v ≤ 200) = 1 from if_pos q]
      refine And.intro (fun c2 => ?_) (fun c2 => ?_)
      · first | exact absurd c2 (by decide) | exact absurd (by decide) c2 | (exfalso; grind)
      · try dsimp only at c2
        refine And.intro ⟨(by first | decide | assumption | omega), (by first | decide | assumption | omega)⟩ ?_
        refine And.intro ⟨(by first | decide | assumption | omega), (by first | decide | assumption | omega)⟩ ?_
        refine m_Se_lookAt (by exact hS) hz (fun m1 g1 hE => And.intro g1.ok ?_)
        refine And.intro ⟨(by first | decide | assumption | omega), (by first | decide | assumption | omega)⟩ ?_
        refine m_Se_howManyFit hE  (And.intro (by repeat' (first | exact hR | exact g1.ok | exact g2.ok | exact g3.ok | apply OKR.pI | apply OKR.pL | apply OKR.cpI | apply OKR.wI)) ?_)
        refine And.intro (fun c16 => ?_) (fun c16 => ?_)
        · try dsimp only at c16
          refine And.intro trivial ?_
          refine w_M_fits (Go.runR (callT_mono MT _) [] 200 (by repeat' (first | exact hR | exact g1.ok | exact g2.ok | exact g3.ok | apply OKR.pI | apply OKR.pL | apply OKR.cpI | apply OKR.wI)) ?_)
          refine m_M_isRise (by repeat' (first | exact hR | exact g1.ok | exact g2.ok | exact g3.ok | apply OKR.pI | apply OKR.pL | apply OKR.cpI | apply OKR.wI)) (And.intro (by repeat' (first | exact hR | exact g1.ok | exact g2.ok | exact g3.ok | apply OKR.pI | apply OKR.pL | apply OKR.cpI | apply OKR.wI)) ?_)
          rw [show b2 (0 ≤ v ∧ v ≤ 200) = 1 from if_pos q]
          refine And.intro (fun c2 => ?_) (fun c2 => ?_)
          · first | exact absurd c2 (by decide) | exact absurd (by decide) c2 | (exfalso; grind)
          · try dsimp only at c2
            refine m_M_setFits (by exact hE.1) (fun m2 F => And.intro F.1.ok ?_)
            have g2 := F.1
            refine And.intro (fun c10 => ?_) (fun c10 => ?_)
            · try dsimp only at c10
              refine And.intro trivial ?_
              exact h _ _ ((g1.trans g2).rel R)
            · exact absurd (F.2.1.trans ((nI_z mL).mpr z)) c10
        · exact absurd ((nI_z mL).mpr z) c16
    · refine w_X_fits (Go.runR (callT_mono MT _) [] 200 (by repeat' (first | exact hR | exact g1.ok | exact g2.ok | exact g3.ok | apply OKR.pI | apply OKR.pL | apply OKR.cpI | apply OKR.wI)) ?_)
      refine m_X_isRise (by repeat' (first | exact hR | exact g1.ok | exact g2.ok | exact g3.ok | apply OKR.pI | apply OKR.pL | apply OKR.cpI | apply OKR.wI)) (And.intro (by repeat' (first | exact hR | exact g1.ok | exact g2.ok | exact g3.ok | apply OKR.pI | apply OKR.pL | apply OKR.cpI | apply OKR.wI)) ?_)
      rw [show b2 (0 ≤ v ∧ v ≤ 200) = 1 from if_pos q]
      refine And.intro (fun c2 => ?_) (fun c2 => ?_)
      · first | exact absurd c2 (by decide) | exact absurd (by decide) c2 | (exfalso; grind)
      · try dsimp only at c2
        refine And.intro ⟨(by first | decide | assumption | omega), (by first | decide | assumption | omega)⟩ ?_
        refine And.intro ⟨(by first | decide | assumption | omega), (by first | decide | assumption | omega)⟩ ?_
        refine m_Se_lookAt (by exact hS) hz (fun m1 g1 hE => And.intro g1.ok ?_)
        refine And.intro ⟨(by first | decide | assumption | omega), (by first | decide | assumption | omega)⟩ ?_
        refine m_Se_howManyFit hE  (And.intro (by repeat' (first | exact hR | exact g1.ok | exact g2.ok | exact g3.ok | apply OKR.pI | apply OKR.pL | apply OKR.cpI | apply OKR.wI)) ?_)
        refine And.intro (fun c16 => ?_) (fun c16 => ?_)
        · exact absurd ((nI_z mL).mp c16) z
        · try dsimp only at c16
          refine And.intro ⟨(by first | decide | assumption | omega), (by first | decide | assumption | omega)⟩ ?_
          refine m_Se_leastFitting hE z (And.intro (by repeat' (first | exact hR | exact g1.ok | exact g2.ok | exact g3.ok | apply OKR.pI | apply OKR.pL | apply OKR.cpI | apply OKR.wI)) ?_)
          refine m_X_tell (by repeat' (first | exact hR | exact g1.ok | exact g2.ok | exact g3.ok | apply OKR.pI | apply OKR.pL | apply OKR.cpI | apply OKR.wI))  (And.intro (by repeat' (first | exact hR | exact g1.ok | exact g2.ok | exact g3.ok | apply OKR.pI | apply OKR.pL | apply OKR.cpI | apply OKR.wI)) ?_)
          refine And.intro trivial ?_
          refine w_M_fits (Go.runR (callT_mono MT _) [] 200 (by repeat' (first | exact hR | exact g1.ok | exact g2.ok | exact g3.ok | apply OKR.pI | apply OKR.pL | apply OKR.cpI | apply OKR.wI)) ?_)
          refine m_M_isRise (by repeat' (first | exact hR | exact g1.ok | exact g2.ok | exact g3.ok | apply OKR.pI | apply OKR.pL | apply OKR.cpI | apply OKR.wI)) (And.intro (by repeat' (first | exact hR | exact g1.ok | exact g2.ok | exact g3.ok | apply OKR.pI | apply OKR.pL | apply OKR.cpI | apply OKR.wI)) ?_)
          rw [show b2 (0 ≤ v ∧ v ≤ 200) = 1 from if_pos q]
          refine And.intro (fun c2 => ?_) (fun c2 => ?_)
          · first | exact absurd c2 (by decide) | exact absurd (by decide) c2 | (exfalso; grind)
          · try dsimp only at c2
            refine m_M_setFits (by exact hE.1.tell) (fun m2 F => And.intro F.1.ok ?_)
            have g2 := F.1
            refine And.intro (fun c10 => ?_) (fun c10 => ?_)
            · exact absurd ((nI_z mL).mp (F.2.1.symm.trans c10)) z
            · try dsimp only at c10
              refine m_M_ask (by repeat' (first | exact hR | exact g1.ok | exact g2.ok | exact g3.ok | apply OKR.pI | apply OKR.pL | apply OKR.cpI | apply OKR.wI))  (And.intro (by repeat' (first | exact hR | exact g1.ok | exact g2.ok | exact g3.ok | apply OKR.pI | apply OKR.pL | apply OKR.cpI | apply OKR.wI)) ?_)
              refine And.intro trivial ?_
              rw [show gI m2 (1, 0, 0) 27 = _ from F.2.1, show gI m2 (1, 0, 0) 28 = _ from F.2.2.1]
              exact h _ _ (R.tell2 g1 g2)
  · refine w_X_fits (Go.runR (callT_mono MT _) [] 200 (by repeat' (first | exact hR | exact g1.ok | exact g2.ok | exact g3.ok | apply OKR.pI | apply OKR.pL | apply OKR.cpI | apply OKR.wI)) ?_)
    refine m_X_isRise (by repeat' (first | exact hR | exact g1.ok | exact g2.ok | exact g3.ok | apply OKR.pI | apply OKR.pL | apply OKR.cpI | apply OKR.wI)) (And.intro (by repeat' (first | exact hR | exact g1.ok | exact g2.ok | exact g3.ok | apply OKR.pI | apply OKR.pL | apply OKR.cpI | apply OKR.wI)) ?_)
    rw [show b2 (0 ≤ v ∧ v ≤ 200) = 0 from if_neg q]
    refine And.intro (fun c2 => ?_) (fun c2 => ?_)
    · try dsimp only at c2
      refine And.intro trivial ?_
      refine w_M_fits (Go.runR (callT_mono MT _) [] 200 (by repeat' (first | exact hR | exact g1.ok | exact g2.ok | exact g3.ok | apply OKR.pI | apply OKR.pL | apply OKR.cpI | apply OKR.wI)) ?_)
      refine m_M_isRise (by repeat' (first | exact hR | exact g1.ok | exact g2.ok | exact g3.ok | apply OKR.pI | apply OKR.pL | apply OKR.cpI | apply OKR.wI)) (And.intro (by repeat' (first | exact hR | exact g1.ok | exact g2.ok | exact g3.ok | apply OKR.pI | apply OKR.pL | apply OKR.cpI | apply OKR.wI)) ?_)
      rw [show b2 (0 ≤ v ∧ v ≤ 200) = 0 from if_neg q]
      refine And.intro (fun c2 => ?_) (fun c2 => ?_)
      · try dsimp only at c2
        refine And.intro trivial ?_
        exact h _ _ R
      · first | exact absurd c2 (by decide) | exact absurd (by decide) c2 | (exfalso; grind)
    · first | exact absurd c2 (by decide) | exact absurd (by decide) c2 | (exfalso; grind)

theorem p_sure {d : Nat} {m : Mem} {K : Option Vv → Option Vv → Mem → Prop} (R : RelAB m) {v : Int32} (h : ∀ v m', RelAB m' → K v v m') : cW (d + 6) n_X_sure [vo 0 0 0, vi v] m (fun u m1 => cW (d + 6) n_M_sure [vo 1 0 0, vi v] m1 (fun w m2 => K u w m2)) := by
  have hR := R.1
  obtain ⟨n, hc⟩ := R.2.2.2.2
  obtain ⟨D, hS⟩ := hc.sc hR
  have ht := R.2.2.2.1
  obtain ⟨q1, q2⟩ := hc.many
  have h8 := hc.le
  have hz : gI m (0, 15, 0) 0 = 0 ∧ gI m (0, 16, 0) 0 = 0 := ht.2.2.2.2.2
  have mL := fM_lt hS v
  by_cases q : 0 ≤ v ∧ v ≤ 200
  · by_cases z : fM n D v (2 ^ n) = 0
    · refine w_X_sure (Go.runR (callT_mono MT _) [] 200 (by repeat' (first | exact hR | exact g1.ok | exact g2.ok | exact g3.ok | apply OKR.pI | apply OKR.pL | apply OKR.cpI | apply OKR.wI)) ?_)
      refine m_X_isRise (by repeat' (first | exact hR | exact g1.ok | exact g2.ok | exact g3.ok | apply OKR.pI | apply OKR.pL | apply OKR.cpI | apply OKR.wI)) (And.intro (by repeat' (first | exact hR | exact g1.ok | exact g2.ok | exact g3.ok | apply OKR.pI | apply OKR.pL | apply OKR.cpI | apply OKR.wI)) ?_)
      rw [show b2 (0 ≤ v ∧ v ≤ 200) = 1 from if_pos q]
      refine And.intro (fun c2 => ?_) (fun c2 => ?_)
      · first | exact absurd c2 (by decide) | exact absurd (by decide) c2 | (exfalso; grind)
      · try dsimp only at c2
        refine And.intro ⟨(by first | decide | assumption | omega), (by first | decide | assumption | omega)⟩ ?_
        refine And.intro ⟨(by first | decide | assumption | omega), (by first | decide | assumption | omega)⟩ ?_
        refine m_Se_lookAt (by exact hS) hz (fun m1 g1 hE => And.intro g1.ok ?_)
        refine And.intro ⟨(by first | decide | assumption | omega), (by first | decide | assumption | omega)⟩ ?_
        refine m_Se_howManyFit hE  (And.intro (by repeat' (first | exact hR | exact g1.ok | exact g2.ok | exact g3.ok | apply OKR.pI | apply OKR.pL | apply OKR.cpI | apply OKR.wI)) ?_)
        refine And.intro (fun c14 => ?_) (fun c14 => ?_)
        · try dsimp only at c14
          refine m_X_found4 (by repeat' (first | exact hR | exact g1.ok | exact g2.ok | exact g3.ok | apply OKR.pI | apply OKR.pL | apply OKR.cpI | apply OKR.wI))  (And.intro (by repeat' (first | exact hR | exact g1.ok | exact g2.ok | exact g3.ok | apply OKR.pI | apply OKR.pL | apply OKR.cpI | apply OKR.wI)) ?_)
          refine And.intro trivial ?_
          refine w_M_sure (Go.runR (callT_mono MT _) [] 200 (by repeat' (first | exact hR | exact g1.ok | exact g2.ok | exact g3.ok | apply OKR.pI | apply OKR.pL | apply OKR.cpI | apply OKR.wI)) ?_)
          refine m_M_isRise (by repeat' (first | exact hR | exact g1.ok | exact g2.ok | exact g3.ok | apply OKR.pI | apply OKR.pL | apply OKR.cpI | apply OKR.wI)) (And.intro (by repeat' (first | exact hR | exact g1.ok | exact g2.ok | exact g3.ok | apply OKR.pI | apply OKR.pL | apply OKR.cpI | apply OKR.wI)) ?_)
          rw [show b2 (0 ≤ v ∧ v ≤ 200) = 1 from if_pos q]
          refine And.intro (fun c2 => ?_) (fun c2 => ?_)
          · first | exact absurd c2 (by decide) | exact absurd (by decide) c2 | (exfalso; grind)
          · try dsimp only at c2
            refine m_M_setFits (by exact hE.1.found) (fun m2 F => And.intro F.1.ok ?_)
            have g2 := F.1
            refine And.intro (fun c10 => ?_) (fun c10 => ?_)
            · try dsimp only at c10
              refine m_M_meet4 (by repeat' (first | exact hR | exact g1.ok | exact g2.ok | exact g3.ok | apply OKR.pI | apply OKR.pL | apply OKR.cpI | apply OKR.wI))  (And.intro (by repeat' (first | exact hR | exact g1.ok | exact g2.ok | exact g3.ok | apply OKR.pI | apply OKR.pL | apply OKR.cpI | apply OKR.wI)) ?_)
              refine And.intro trivial ?_
              exact h _ _ (R.meet2 g1 (by omega) (by omega) g2)
            · exact absurd (F.2.1.trans ((nI_z mL).mpr z)) c10
        · exact absurd ((nI_z mL).mpr z) c14
    · refine w_X_sure (Go.runR (callT_mono MT _) [] 200 (by repeat' (first | exact hR | exact g1.ok | exact g2.ok | exact g3.ok | apply OKR.pI | apply OKR.pL | apply OKR.cpI | apply OKR.wI)) ?_)
      refine m_X_isRise (by repeat' (first | exact hR | exact g1.ok | exact g2.ok | exact g3.ok | apply OKR.pI | apply OKR.pL | apply OKR.cpI | apply OKR.wI)) (And.intro (by repeat' (first | exact hR | exact g1.ok | exact g2.ok | exact g3.ok | apply OKR.pI | apply OKR.pL | apply OKR.cpI | apply OKR.wI)) ?_)
      rw [show b2 (0 ≤ v ∧ v ≤ 200) = 1 from if_pos q]
      refine And.intro (fun c2 => ?_) (fun c2 => ?_)
      · first | exact absurd c2 (by decide) | exact absurd (by decide) c2 | (exfalso; grind)
      · try dsimp only at c2
        refine And.intro ⟨(by first | decide | assumption | omega), (by first | decide | assumption | omega)⟩ ?_
        refine And.intro ⟨(by first | decide | assumption | omega), (by first | decide | assumption | omega)⟩ ?_
        refine m_Se_lookAt (by exact hS) hz (fun m1 g1 hE => And.intro g1.ok ?_)
        refine And.intro ⟨(by first | decide | assumption | omega), (by first | decide | assumption | omega)⟩ ?_
        refine m_Se_howManyFit hE  (And.intro (by repeat' (first | exact hR | exact g1.ok | exact g2.ok | exact g3.ok | apply OKR.pI | apply OKR.pL | apply OKR.cpI | apply OKR.wI)) ?_)
        refine And.intro (fun c14 => ?_) (fun c14 => ?_)
        · exact absurd ((nI_z mL).mp c14) z
        · try dsimp only at c14
          refine And.intro ⟨(by first | decide | assumption | omega), (by first | decide | assumption | omega)⟩ ?_
          refine m_St_allHouses (by exact hE.1)  (And.intro (by repeat' (first | exact hR | exact g1.ok | exact g2.ok | exact g3.ok | apply OKR.pI | apply OKR.pL | apply OKR.cpI | apply OKR.wI)) ?_)
          refine And.intro ⟨(by first | decide | assumption | omega), (by first | decide | assumption | omega)⟩ ?_
          refine m_Se_inAnyFitting hE  (And.intro (by repeat' (first | exact hR | exact g1.ok | exact g2.ok | exact g3.ok | apply OKR.pI | apply OKR.pL | apply OKR.cpI | apply OKR.wI)) ?_)
          refine And.intro ⟨(by first | decide | assumption | omega), (by first | decide | assumption | omega)⟩ ?_
          refine m_Se_inAllFitting hE  (And.intro (by repeat' (first | exact hR | exact g1.ok | exact g2.ok | exact g3.ok | apply OKR.pI | apply OKR.pL | apply OKR.cpI | apply OKR.wI)) ?_)
          refine m_X_tell (by repeat' (first | exact hR | exact g1.ok | exact g2.ok | exact g3.ok | apply OKR.pI | apply OKR.pL | apply OKR.cpI | apply OKR.wI))  (And.intro (by repeat' (first | exact hR | exact g1.ok | exact g2.ok | exact g3.ok | apply OKR.pI | apply OKR.pL | apply OKR.cpI | apply OKR.wI)) ?_)
          refine And.intro trivial ?_
          refine w_M_sure (Go.runR (callT_mono MT _) [] 200 (by repeat' (first | exact hR | exact g1.ok | exact g2.ok | exact g3.ok | apply OKR.pI | apply OKR.pL | apply OKR.cpI | apply OKR.wI)) ?_)
          refine m_M_isRise (by repeat' (first | exact hR | exact g1.ok | exact g2.ok | exact g3.ok | apply OKR.pI | apply OKR.pL | apply OKR.cpI | apply OKR.wI)) (And.intro (by repeat' (first | exact hR | exact g1.ok | exact g2.ok | exact g3.ok | apply OKR.pI | apply OKR.pL | apply OKR.cpI | apply OKR.wI)) ?_)
          rw [show b2 (0 ≤ v ∧ v ≤ 200) = 1 from if_pos q]
          refine And.intro (fun c2 => ?_) (fun c2 => ?_)
          · first | exact absurd c2 (by decide) | exact absurd (by decide) c2 | (exfalso; grind)
          · try dsimp only at c2
            refine m_M_setFits (by exact hE.1.tell) (fun m2 F => And.intro F.1.ok ?_)
            have g2 := F.1
            refine And.intro (fun c10 => ?_) (fun c10 => ?_)
            · exact absurd ((nI_z mL).mp (F.2.1.symm.trans c10)) z
            · try dsimp only at c10
              refine m_M_all (by exact g2.sc hE.1.tell)  (And.intro (by repeat' (first | exact hR | exact g1.ok | exact g2.ok | exact g3.ok | apply OKR.pI | apply OKR.pL | apply OKR.cpI | apply OKR.wI)) ?_)
              refine m_M_ask (by repeat' (first | exact hR | exact g1.ok | exact g2.ok | exact g3.ok | apply OKR.pI | apply OKR.pL | apply OKR.cpI | apply OKR.wI))  (And.intro (by repeat' (first | exact hR | exact g1.ok | exact g2.ok | exact g3.ok | apply OKR.pI | apply OKR.pL | apply OKR.cpI | apply OKR.wI)) ?_)
              refine And.intro trivial ?_
              rw [show gI m2 (1, 0, 0) 29 = _ from F.2.2.2.1, show gI m2 (1, 0, 0) 30 = _ from F.2.2.2.2.1]
              exact h _ _ (R.tell2 g1 g2)
  · refine w_X_sure (Go.runR (callT_mono MT _) [] 200 (by repeat' (first | exact hR | exact g1.ok | exact g2.ok | exact g3.ok | apply OKR.pI | apply OKR.pL | apply OKR.cpI | apply OKR.wI)) ?_)
    refine m_X_isRise (by repeat' (first | exact hR | exact g1.ok | exact g2.ok | exact g3.ok | apply OKR.pI | apply OKR.pL | apply OKR.cpI | apply OKR.wI)) (And.intro (by repeat' (first | exact hR | exact g1.ok | exact g2.ok | exact g3.ok | apply OKR.pI | apply OKR.pL | apply OKR.cpI | apply OKR.wI)) ?_)
    rw [show b2 (0 ≤ v ∧ v ≤ 200) = 0 from if_neg q]
    refine And.intro (fun c2 => ?_) (fun c2 => ?_)
    · try dsimp only at c2
      refine And.intro trivial ?_
      refine w_M_sure (Go.runR (callT_mono MT _) [] 200 (by repeat' (first | exact hR | exact g1.ok | exact g2.ok | exact g3.ok | apply OKR.pI | apply OKR.pL | apply OKR.cpI | apply OKR.wI)) ?_)
      refine m_M_isRise (by repeat' (first | exact hR | exact g1.ok | exact g2.ok | exact g3.ok | apply OKR.pI | apply OKR.pL | apply OKR.cpI | apply OKR.wI)) (And.intro (by repeat' (first | exact hR | exact g1.ok | exact g2.ok | exact g3.ok | apply OKR.pI | apply OKR.pL | apply OKR.cpI | apply OKR.wI)) ?_)
      rw [show b2 (0 ≤ v ∧ v ≤ 200) = 0 from if_neg q]
      refine And.intro (fun c2 => ?_) (fun c2 => ?_)
      · try dsimp only at c2
        refine And.intro trivial ?_
        exact h _ _ R
      · first | exact absurd c2 (by decide) | exact absurd (by decide) c2 | (exfalso; grind)
    · first | exact absurd c2 (by decide) | exact absurd (by decide) c2 | (exfalso; grind)

theorem p_thunder {d : Nat} {m : Mem} {K : Option Vv → Option Vv → Mem → Prop} (R : RelAB m) {v w : Int32} (h : ∀ v m', RelAB m' → K v v m') : cW (d + 6) n_X_thunder [vo 0 0 0, vi v, vi w] m (fun u m1 => cW (d + 6) n_M_thunder [vo 1 0 0, vi v, vi w] m1 (fun w m2 => K u w m2)) := by
  have hR := R.1
  obtain ⟨n, hc⟩ := R.2.2.2.2
  obtain ⟨D, hS⟩ := hc.sc hR
  have ht := R.2.2.2.1
  obtain ⟨q1, q2⟩ := hc.many
  have h8 := hc.le
  have hz : gI m (0, 15, 0) 0 = 0 ∧ gI m (0, 16, 0) 0 = 0 := ht.2.2.2.2.2
  by_cases q : 0 ≤ v ∧ v ≤ 200
  · by_cases qw : 1 ≤ w ∧ w ≤ 50
    · refine w_X_thunder (Go.runR (callT_mono MT _) [] 200 (by repeat' (first | exact hR | exact g1.ok | exact g2.ok | exact g3.ok | apply OKR.pI | apply OKR.pL | apply OKR.cpI | apply OKR.wI)) ?_)
      refine m_X_isRise (by repeat' (first | exact hR | exact g1.ok | exact g2.ok | exact g3.ok | apply OKR.pI | apply OKR.pL | apply OKR.cpI | apply OKR.wI)) (And.intro (by repeat' (first | exact hR | exact g1.ok | exact g2.ok | exact g3.ok | apply OKR.pI | apply OKR.pL | apply OKR.cpI | apply OKR.wI)) ?_)
      rw [show b2 (0 ≤ v ∧ v ≤ 200) = 1 from if_pos q]
      refine And.intro (fun c2 => ?_) (fun c2 => ?_)
      · first | exact absurd c2 (by decide) | exact absurd (by decide) c2 | (exfalso; grind)
      · try dsimp only at c2
        refine m_X_isWithin (by repeat' (first | exact hR | exact g1.ok | exact g2.ok | exact g3.ok | apply OKR.pI | apply OKR.pL | apply OKR.cpI | apply OKR.wI)) (And.intro (by repeat' (first | exact hR | exact g1.ok | exact g2.ok | exact g3.ok | apply OKR.pI | apply OKR.pL | apply OKR.cpI | apply OKR.wI)) ?_)
        rw [show b2 (1 ≤ w ∧ w ≤ 50) = 1 from if_pos qw]
        refine And.intro (fun c7 => ?_) (fun c7 => ?_)
        · first | exact absurd c7 (by decide) | exact absurd (by decide) c7 | (exfalso; grind)
        · try dsimp only at c7
          refine And.intro ⟨(by first | decide | assumption | omega), (by first | decide | assumption | omega)⟩ ?_
          refine And.intro ⟨(by first | decide | assumption | omega), (by first | decide | assumption | omega)⟩ ?_
          refine m_Se_lookAt (by exact hS) hz (fun m1 g1 hE => And.intro g1.ok ?_)
          refine And.intro ⟨(by first | decide | assumption | omega), (by first | decide | assumption | omega)⟩ ?_
          refine m_Se_howManyFit hE  (And.intro (by repeat' (first | exact hR | exact g1.ok | exact g2.ok | exact g3.ok | apply OKR.pI | apply OKR.pL | apply OKR.cpI | apply OKR.wI)) ?_)
          refine And.intro (fun c19 => ?_) (fun c19 => ?_)
          · try dsimp only at c19
            refine And.intro ⟨(by first | decide | assumption | omega), (by first | decide | assumption | omega)⟩ ?_
            refine m_Se_howManyFit hE  (And.intro (by repeat' (first | exact hR | exact g1.ok | exact g2.ok | exact g3.ok | apply OKR.pI | apply OKR.pL | apply OKR.cpI | apply OKR.wI)) ?_)
            refine And.intro (fun c30 => ?_) (fun c30 => ?_)
            · try dsimp only at c30
              refine And.intro trivial ?_
              refine w_M_thunder (Go.runR (callT_mono MT _) [] 200 (by repeat' (first | exact hR | exact g1.ok | exact g2.ok | exact g3.ok | apply OKR.pI | apply OKR.pL | apply OKR.cpI | apply OKR.wI)) ?_)
              refine m_M_isRise (by repeat' (first | exact hR | exact g1.ok | exact g2.ok | exact g3.ok | apply OKR.pI | apply OKR.pL | apply OKR.cpI | apply OKR.wI)) (And.intro (by repeat' (first | exact hR | exact g1.ok | exact g2.ok | exact g3.ok | apply OKR.pI | apply OKR.pL | apply OKR.cpI | apply OKR.wI)) ?_)
              rw [show b2 (0 ≤ v ∧ v ≤ 200) = 1 from if_pos q]
              refine And.intro (fun c2 => ?_) (fun c2 => ?_)
              · first | exact absurd c2 (by decide) | exact absurd (by decide) c2 | (exfalso; grind)
              · try dsimp only at c2
                refine m_M_in (by repeat' (first | exact hR | exact g1.ok | exact g2.ok | exact g3.ok | apply OKR.pI | apply OKR.pL | apply OKR.cpI | apply OKR.wI)) (And.intro (by repeat' (first | exact hR | exact g1.ok | exact g2.ok | exact g3.ok | apply OKR.pI | apply OKR.pL | apply OKR.cpI | apply OKR.wI)) ?_)
                rw [show b2 (1 ≤ w ∧ w ≤ 50) = 1 from if_pos qw]
                refine And.intro (fun c7 => ?_) (fun c7 => ?_)
                · first | exact absurd c7 (by decide) | exact absurd (by decide) c7 | (exfalso; grind)
                · try dsimp only at c7
                  refine m_M_setFits (by exact hE.1) (fun m2 F => And.intro F.1.ok ?_)
                  have g2 := F.1
                  refine And.intro (fun c15 => ?_) (fun c15 => ?_)
                  · try dsimp only at c15
                    refine m_M_setFits (by exact g2.sc hE.1) (fun m3 F2 => And.intro F2.1.ok ?_)
                    have g3 := F2.1
                    refine And.intro (fun c28 => ?_) (fun c28 => ?_)
                    · try dsimp only at c28
                      refine And.intro trivial ?_
                      have e1 := F.2.1
                      have e2 := F2.2.1
                      first | exact h _ _ (((g1.trans g2).trans g3).rel R) | (exfalso; grind)
                    · try dsimp only at c28
                      refine And.intro trivial ?_
                      have e1 := F.2.1
                      have e2 := F2.2.1
                      first | exact h _ _ (((g1.trans g2).trans g3).rel R) | (exfalso; grind)
                  · try dsimp only at c15
                    refine m_M_setFits (by exact g2.sc hE.1) (fun m3 F2 => And.intro F2.1.ok ?_)
                    have g3 := F2.1
                    refine And.intro (fun c28 => ?_) (fun c28 => ?_)
                    · try dsimp only at c28
                      refine And.intro trivial ?_
                      have e1 := F.2.1
                      have e2 := F2.2.1
                      first | exact h _ _ (((g1.trans g2).trans g3).rel R) | (exfalso; grind)
                    · try dsimp only at c28
                      refine And.intro trivial ?_
                      have e1 := F.2.1
                      have e2 := F2.2.1
                      first | exact h _ _ (((g1.trans g2).trans g3).rel R) | (exfalso; grind)
            · try dsimp only at c30
              refine And.intro trivial ?_
              refine w_M_thunder (Go.runR (callT_mono MT _) [] 200 (by repeat' (first | exact hR | exact g1.ok | exact g2.ok | exact g3.ok | apply OKR.pI | apply OKR.pL | apply OKR.cpI | apply OKR.wI)) ?_)
              refine m_M_isRise (by repeat' (first | exact hR | exact g1.ok | exact g2.ok | exact g3.ok | apply OKR.pI | apply OKR.pL | apply OKR.cpI | apply OKR.wI)) (And.intro (by repeat' (first | exact hR | exact g1.ok | exact g2.ok | exact g3.ok | apply OKR.pI | apply OKR.pL | apply OKR.cpI | apply OKR.wI)) ?_)
              rw [show b2 (0 ≤ v ∧ v ≤ 200) = 1 from if_pos q]
              refine And.intro (fun c2 => ?_) (fun c2 => ?_)
              · first | exact absurd c2 (by decide) | exact absurd (by decide) c2 | (exfalso; grind)
              · try dsimp only at c2
                refine m_M_in (by repeat' (first | exact hR | exact g1.ok | exact g2.ok | exact g3.ok | apply OKR.pI | apply OKR.pL | apply OKR.cpI | apply OKR.wI)) (And.intro (by repeat' (first | exact hR | exact g1.ok | exact g2.ok | exact g3.ok | apply OKR.pI | apply OKR.pL | apply OKR.cpI | apply OKR.wI)) ?_)
                rw [show b2 (1 ≤ w ∧ w ≤ 50) = 1 from if_pos qw]
                refine And.intro (fun c7 => ?_) (fun c7 => ?_)
                · first | exact absurd c7 (by decide) | exact absurd (by decide) c7 | (exfalso; grind)
                · try dsimp only at c7
                  refine m_M_setFits (by exact hE.1) (fun m2 F => And.intro F.1.ok ?_)
                  have g2 := F.1
                  refine And.intro (fun c15 => ?_) (fun c15 => ?_)
                  · try dsimp only at c15
                    refine m_M_setFits (by exact g2.sc hE.1) (fun m3 F2 => And.intro F2.1.ok ?_)
                    have g3 := F2.1
                    refine And.intro (fun c28 => ?_) (fun c28 => ?_)
                    · try dsimp only at c28
                      refine And.intro trivial ?_
                      have e1 := F.2.1
                      have e2 := F2.2.1
                      first | exact h _ _ (((g1.trans g2).trans g3).rel R) | (exfalso; grind)
                    · try dsimp only at c28
                      refine And.intro trivial ?_
                      have e1 := F.2.1
                      have e2 := F2.2.1
                      first | exact h _ _ (((g1.trans g2).trans g3).rel R) | (exfalso; grind)
                  · try dsimp only at c15
                    refine m_M_setFits (by exact g2.sc hE.1) (fun m3 F2 => And.intro F2.1.ok ?_)
                    have g3 := F2.1
                    refine And.intro (fun c28 => ?_) (fun c28 => ?_)
                    · try dsimp only at c28
                      refine And.intro trivial ?_
                      have e1 := F.2.1
                      have e2 := F2.2.1
                      first | exact h _ _ (((g1.trans g2).trans g3).rel R) | (exfalso; grind)
                    · try dsimp only at c28
                      refine And.intro trivial ?_
                      have e1 := F.2.1
                      have e2 := F2.2.1
                      first | exact h _ _ (((g1.trans g2).trans g3).rel R) | (exfalso; grind)
          · try dsimp only at c19
            refine And.intro ⟨(by first | decide | assumption | omega), (by first | decide | assumption | omega)⟩ ?_
            refine m_Se_howManyFit hE  (And.intro (by repeat' (first | exact hR | exact g1.ok | exact g2.ok | exact g3.ok | apply OKR.pI | apply OKR.pL | apply OKR.cpI | apply OKR.wI)) ?_)
            refine And.intro (fun c30 => ?_) (fun c30 => ?_)
            · try dsimp only at c30
              refine And.intro trivial ?_
              refine w_M_thunder (Go.runR (callT_mono MT _) [] 200 (by repeat' (first | exact hR | exact g1.ok | exact g2.ok | exact g3.ok | apply OKR.pI | apply OKR.pL | apply OKR.cpI | apply OKR.wI)) ?_)
              refine m_M_isRise (by repeat' (first | exact hR | exact g1.ok | exact g2.ok | exact g3.ok | apply OKR.pI | apply OKR.pL | apply OKR.cpI | apply OKR.wI)) (And.intro (by repeat' (first | exact hR | exact g1.ok | exact g2.ok | exact g3.ok | apply OKR.pI | apply OKR.pL | apply OKR.cpI | apply OKR.wI)) ?_)
              rw [show b2 (0 ≤ v ∧ v ≤ 200) = 1 from if_pos q]
              refine And.intro (fun c2 => ?_) (fun c2 => ?_)
              · first | exact absurd c2 (by decide) | exact absurd (by decide) c2 | (exfalso; grind)
              · try dsimp only at c2
                refine m_M_in (by repeat' (first | exact hR | exact g1.ok | exact g2.ok | exact g3.ok | apply OKR.pI | apply OKR.pL | apply OKR.cpI | apply OKR.wI)) (And.intro (by repeat' (first | exact hR | exact g1.ok | exact g2.ok | exact g3.ok | apply OKR.pI | apply OKR.pL | apply OKR.cpI | apply OKR.wI)) ?_)
                rw [show b2 (1 ≤ w ∧ w ≤ 50) = 1 from if_pos qw]
                refine And.intro (fun c7 => ?_) (fun c7 => ?_)
                · first | exact absurd c7 (by decide) | exact absurd (by decide) c7 | (exfalso; grind)
                · try dsimp only at c7
                  refine m_M_setFits (by exact hE.1) (fun m2 F => And.intro F.1.ok ?_)
                  have g2 := F.1
                  refine And.intro (fun c15 => ?_) (fun c15 => ?_)
                  · try dsimp only at c15
                    refine m_M_setFits (by exact g2.sc hE.1) (fun m3 F2 => And.intro F2.1.ok ?_)
                    have g3 := F2.1
                    refine And.intro (fun c28 => ?_) (fun c28 => ?_)
                    · try dsimp only at c28
                      refine And.intro trivial ?_
                      have e1 := F.2.1
                      have e2 := F2.2.1
                      first | exact h _ _ (((g1.trans g2).trans g3).rel R) | (exfalso; grind)
                    · try dsimp only at c28
                      refine And.intro trivial ?_
                      have e1 := F.2.1
                      have e2 := F2.2.1
                      first | exact h _ _ (((g1.trans g2).trans g3).rel R) | (exfalso; grind)
                  · try dsimp only at c15
                    refine m_M_setFits (by exact g2.sc hE.1) (fun m3 F2 => And.intro F2.1.ok ?_)
                    have g3 := F2.1
                    refine And.intro (fun c28 => ?_) (fun c28 => ?_)
                    · try dsimp only at c28
                      refine And.intro trivial ?_
                      have e1 := F.2.1
                      have e2 := F2.2.1
                      first | exact h _ _ (((g1.trans g2).trans g3).rel R) | (exfalso; grind)
                    · try dsimp only at c28
                      refine And.intro trivial ?_
                      have e1 := F.2.1
                      have e2 := F2.2.1
                      first | exact h _ _ (((g1.trans g2).trans g3).rel R) | (exfalso; grind)
            · try dsimp only at c30
              refine And.intro trivial ?_
              refine w_M_thunder (Go.runR (callT_mono MT _) [] 200 (by repeat' (first | exact hR | exact g1.ok | exact g2.ok | exact g3.ok | apply OKR.pI | apply OKR.pL | apply OKR.cpI | apply OKR.wI)) ?_)
              refine m_M_isRise (by repeat' (first | exact hR | exact g1.ok | exact g2.ok | exact g3.ok | apply OKR.pI | apply OKR.pL | apply OKR.cpI | apply OKR.wI)) (And.intro (by repeat' (first | exact hR | exact g1.ok | exact g2.ok | exact g3.ok | apply OKR.pI | apply OKR.pL | apply OKR.cpI | apply OKR.wI)) ?_)
              rw [show b2 (0 ≤ v ∧ v ≤ 200) = 1 from if_pos q]
              refine And.intro (fun c2 => ?_) (fun c2 => ?_)
              · first | exact absurd c2 (by decide) | exact absurd (by decide) c2 | (exfalso; grind)
              · try dsimp only at c2
                refine m_M_in (by repeat' (first | exact hR | exact g1.ok | exact g2.ok | exact g3.ok | apply OKR.pI | apply OKR.pL | apply OKR.cpI | apply OKR.wI)) (And.intro (by repeat' (first | exact hR | exact g1.ok | exact g2.ok | exact g3.ok | apply OKR.pI | apply OKR.pL | apply OKR.cpI | apply OKR.wI)) ?_)
                rw [show b2 (1 ≤ w ∧ w ≤ 50) = 1 from if_pos qw]
                refine And.intro (fun c7 => ?_) (fun c7 => ?_)
                · first | exact absurd c7 (by decide) | exact absurd (by decide) c7 | (exfalso; grind)
                · try dsimp only at c7
                  refine m_M_setFits (by exact hE.1) (fun m2 F => And.intro F.1.ok ?_)
                  have g2 := F.1
                  refine And.intro (fun c15 => ?_) (fun c15 => ?_)
                  · try dsimp only at c15
                    refine m_M_setFits (by exact g2.sc hE.1) (fun m3 F2 => And.intro F2.1.ok ?_)
                    have g3 := F2.1
                    refine And.intro (fun c28 => ?_) (fun c28 => ?_)
                    · try dsimp only at c28
                      refine And.intro trivial ?_
                      have e1 := F.2.1
                      have e2 := F2.2.1
                      first | exact h _ _ (((g1.trans g2).trans g3).rel R) | (exfalso; grind)
                    · try dsimp only at c28
                      refine And.intro trivial ?_
                      have e1 := F.2.1
                      have e2 := F2.2.1
                      first | exact h _ _ (((g1.trans g2).trans g3).rel R) | (exfalso; grind)
                  · try dsimp only at c15
                    refine m_M_setFits (by exact g2.sc hE.1) (fun m3 F2 => And.intro F2.1.ok ?_)
                    have g3 := F2.1
                    refine And.intro (fun c28 => ?_) (fun c28 => ?_)
                    · try dsimp only at c28
                      refine And.intro trivial ?_
                      have e1 := F.2.1
                      have e2 := F2.2.1
                      first | exact h _ _ (((g1.trans g2).trans g3).rel R) | (exfalso; grind)
                    · try dsimp only at c28
                      refine And.intro trivial ?_
                      have e1 := F.2.1
                      have e2 := F2.2.1
                      first | exact h _ _ (((g1.trans g2).trans g3).rel R) | (exfalso; grind)
    · refine w_X_thunder (Go.runR (callT_mono MT _) [] 200 (by repeat' (first | exact hR | exact g1.ok | exact g2.ok | exact g3.ok | apply OKR.pI | apply OKR.pL | apply OKR.cpI | apply OKR.wI)) ?_)
      refine m_X_isRise (by repeat' (first | exact hR | exact g1.ok | exact g2.ok | exact g3.ok | apply OKR.pI | apply OKR.pL | apply OKR.cpI | apply OKR.wI)) (And.intro (by repeat' (first | exact hR | exact g1.ok | exact g2.ok | exact g3.ok | apply OKR.pI | apply OKR.pL | apply OKR.cpI | apply OKR.wI)) ?_)
      rw [show b2 (0 ≤ v ∧ v ≤ 200) = 1 from if_pos q]
      refine And.intro (fun c2 => ?_) (fun c2 => ?_)
      · first | exact absurd c2 (by decide) | exact absurd (by decide) c2 | (exfalso; grind)
      · try dsimp only at c2
        refine m_X_isWithin (by repeat' (first | exact hR | exact g1.ok | exact g2.ok | exact g3.ok | apply OKR.pI | apply OKR.pL | apply OKR.cpI | apply OKR.wI)) (And.intro (by repeat' (first | exact hR | exact g1.ok | exact g2.ok | exact g3.ok | apply OKR.pI | apply OKR.pL | apply OKR.cpI | apply OKR.wI)) ?_)
        rw [show b2 (1 ≤ w ∧ w ≤ 50) = 0 from if_neg qw]
        refine And.intro (fun c7 => ?_) (fun c7 => ?_)
        · try dsimp only at c7
          refine And.intro trivial ?_
          refine w_M_thunder (Go.runR (callT_mono MT _) [] 200 (by repeat' (first | exact hR | exact g1.ok | exact g2.ok | exact g3.ok | apply OKR.pI | apply OKR.pL | apply OKR.cpI | apply OKR.wI)) ?_)
          refine m_M_isRise (by repeat' (first | exact hR | exact g1.ok | exact g2.ok | exact g3.ok | apply OKR.pI | apply OKR.pL | apply OKR.cpI | apply OKR.wI)) (And.intro (by repeat' (first | exact hR | exact g1.ok | exact g2.ok | exact g3.ok | apply OKR.pI | apply OKR.pL | apply OKR.cpI | apply OKR.wI)) ?_)
          rw [show b2 (0 ≤ v ∧ v ≤ 200) = 1 from if_pos q]
          refine And.intro (fun c2 => ?_) (fun c2 => ?_)
          · first | exact absurd c2 (by decide) | exact absurd (by decide) c2 | (exfalso; grind)
          · try dsimp only at c2
            refine m_M_in (by repeat' (first | exact hR | exact g1.ok | exact g2.ok | exact g3.ok | apply OKR.pI | apply OKR.pL | apply OKR.cpI | apply OKR.wI)) (And.intro (by repeat' (first | exact hR | exact g1.ok | exact g2.ok | exact g3.ok | apply OKR.pI | apply OKR.pL | apply OKR.cpI | apply OKR.wI)) ?_)
            rw [show b2 (1 ≤ w ∧ w ≤ 50) = 0 from if_neg qw]
            refine And.intro (fun c7 => ?_) (fun c7 => ?_)
            · try dsimp only at c7
              refine And.intro trivial ?_
              exact h _ _ R
            · first | exact absurd c7 (by decide) | exact absurd (by decide) c7 | (exfalso; grind)
        · first | exact absurd c7 (by decide) | exact absurd (by decide) c7 | (exfalso; grind)
  · refine w_X_thunder (Go.runR (callT_mono MT _) [] 200 (by repeat' (first | exact hR | exact g1.ok | exact g2.ok | exact g3.ok | apply OKR.pI | apply OKR.pL | apply OKR.cpI | apply OKR.wI)) ?_)
    refine m_X_isRise (by repeat' (first | exact hR | exact g1.ok | exact g2.ok | exact g3.ok | apply OKR.pI | apply OKR.pL | apply OKR.cpI | apply OKR.wI)) (And.intro (by repeat' (first | exact hR | exact g1.ok | exact g2.ok | exact g3.ok | apply OKR.pI | apply OKR.pL | apply OKR.cpI | apply OKR.wI)) ?_)
    rw [show b2 (0 ≤ v ∧ v ≤ 200) = 0 from if_neg q]
    refine And.intro (fun c2 => ?_) (fun c2 => ?_)
    · try dsimp only at c2
      refine And.intro trivial ?_
      refine w_M_thunder (Go.runR (callT_mono MT _) [] 200 (by repeat' (first | exact hR | exact g1.ok | exact g2.ok | exact g3.ok | apply OKR.pI | apply OKR.pL | apply OKR.cpI | apply OKR.wI)) ?_)
      refine m_M_isRise (by repeat' (first | exact hR | exact g1.ok | exact g2.ok | exact g3.ok | apply OKR.pI | apply OKR.pL | apply OKR.cpI | apply OKR.wI)) (And.intro (by repeat' (first | exact hR | exact g1.ok | exact g2.ok | exact g3.ok | apply OKR.pI | apply OKR.pL | apply OKR.cpI | apply OKR.wI)) ?_)
      rw [show b2 (0 ≤ v ∧ v ≤ 200) = 0 from if_neg q]
      refine And.intro (fun c2 => ?_) (fun c2 => ?_)
      · try dsimp only at c2
        refine And.intro trivial ?_
        exact h _ _ R
      · first | exact absurd c2 (by decide) | exact absurd (by decide) c2 | (exfalso; grind)
    · first | exact absurd c2 (by decide) | exact absurd (by decide) c2 | (exfalso; grind)
