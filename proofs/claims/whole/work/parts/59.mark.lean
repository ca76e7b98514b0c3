/-! Written by a program (wip/whole/p59.py): mark, count. -/
abbrev isa (k c : Nat) : Prop := k = c ∨ (c = 2 ∧ k = 4) ∨ (c = 3 ∧ k = 5)
theorem isa_k0 : ∀ x, x < 6 → ∀ c, c < 5 → (decide (kcon 0 x = nI (c + 1) ∨ kcon 1 x = nI (c + 1)) = decide (x = c + 1 ∨ (c + 1 = 2 ∧ x = 4) ∨ (c + 1 = 3 ∧ x = 5))) := by decide +kernel
theorem isa_k (x : Nat) (hx : x < 6) (c : Nat) (hc : c < 6) (h0 : 0 < c) : (kcon 0 x = nI c ∨ kcon 1 x = nI c) ↔ isa x c := by
  obtain ⟨e, rfl⟩ : ∃ e, c = e + 1 := ⟨c - 1, by omega⟩
  exact decide_eq_decide.mp (isa_k0 x hx e (by omega))
theorem isa_m0 : ∀ x, x < 6 → ∀ c, c < 5 → (decide (nI x = nI (c + 1) ∨ (nI (c + 1) = 2 ∧ nI x = 4) ∨ (nI (c + 1) = 3 ∧ nI x = 5)) = decide (x = c + 1 ∨ (c + 1 = 2 ∧ x = 4) ∨ (c + 1 = 3 ∧ x = 5))) := by decide +kernel
theorem isa_m (x : Nat) (hx : x < 6) (c : Nat) (hc : c < 6) (h0 : 0 < c) : (nI x = nI c ∨ (nI c = 2 ∧ nI x = 4) ∨ (nI c = 3 ∧ nI x = 5)) ↔ isa x c := by
  obtain ⟨e, rfl⟩ : ∃ e, c = e + 1 := ⟨c - 1, by omega⟩
  exact decide_eq_decide.mp (isa_m0 x hx e (by omega))
def lsN (D : SDt) (i k : Nat) : Nat := itr (fun j a => a + if rp D j < rp D i then 1 else 0) 0 k
theorem lss (D : SDt) (i k : Nat) : lsN D i (k + 1) = lsN D i k + if rp D k < rp D i then 1 else 0 := rfl

theorem m_Ki_isOf {d : Nat} {m : Mem} {K : Option Vv → Mem → Prop} {y x c : Nat} {v : Int32} (hR : OKR m) (hy : y = x) (hx : x < 6) (hv : v = nI c) (hc0 : 0 < c) (hc : c < 6) (h : K (some (vi (if isa x c then 1 else 0))) m) : cW (d + 1) n_Ki_isOf [vo 0 20 y, vi v] m K := by
  subst hv; subst hy
  have g := isa_k y hx c hc hc0
  refine w_Ki_isOf (Go.runR (callT_mono MT _) [] 200 hR ?_)
  refine And.intro (fun c3 => ?_) (fun c3 => ?_)
  · try dsimp only at c3
    refine And.intro (by first | exact Or.inl rfl | exact Or.inr rfl | grind) ?_
    exact kvi (by grind) h
  · try dsimp only at c3
    refine And.intro (fun c7 => ?_) (fun c7 => ?_)
    · try dsimp only at c7
      refine And.intro (by first | exact Or.inl rfl | exact Or.inr rfl | grind) ?_
      exact kvi (by grind) h
    · try dsimp only at c7
      refine And.intro (by first | exact Or.inl rfl | exact Or.inr rfl | grind) ?_
      exact kvi (by grind) h

theorem m_M_isA {d n : Nat} {D : SDt} {m : Mem} {K : Option Vv → Mem → Prop} (hS : SC n D m) {u v : Int32} {i c : Nat} (hu : u = nI i) (hi : i < n) (hv : v = nI c) (hc0 : 0 < c) (hc : c < 6) (h : K (some (vi (if isa (dK D i) c then 1 else 0))) m) : cW (d + 1) n_M_isA [vo 1 0 0, vi u, vi v] m K := by
  have hR := hS.ok
  have h8 := hS.le
  have q1 := hS.nA
  have q2 := hS.nB
  subst hu; subst hv
  have e0 : (nI i).toNatClampNeg = i := nI_clamp (by omega)
  have kd : gI m (1, 7, 0) (nI i).toNatClampNeg = nI (dK D i) := by rw [e0]; exact (hS.hs hi).2.2.2.2.2.2.2.2.2.1
  have g := isa_m (dK D i) (hS.hs hi).2.1 c hc hc0
  refine w_M_isA (Go.runR (callT_mono MT _) [] 200 hR ?_)
  refine And.intro ⟨rfl, rfl, rfl⟩ ?_
  refine And.intro (vp_nI (k := i) (N := 16) (by omega) (by decide)) ?_
  refine And.intro (fun c5 => ?_) (fun c5 => ?_)
  · try dsimp only at c5
    refine And.intro (by first | exact Or.inl rfl | exact Or.inr rfl | grind) ?_
    exact kvi (by grind) h
  · try dsimp only at c5
    refine And.intro (fun c8 => ?_) (fun c8 => ?_)
    · try dsimp only at c8
      refine And.intro ⟨rfl, rfl, rfl⟩ ?_
      refine And.intro (vp_nI (k := i) (N := 16) (by omega) (by decide)) ?_
      refine And.intro (fun c14 => ?_) (fun c14 => ?_)
      · try dsimp only at c14
        refine And.intro (by first | exact Or.inl rfl | exact Or.inr rfl | grind) ?_
        exact kvi (by grind) h
      · try dsimp only at c14
        refine And.intro (fun c17 => ?_) (fun c17 => ?_)
        · try dsimp only at c17
          refine And.intro ⟨rfl, rfl, rfl⟩ ?_
          refine And.intro (vp_nI (k := i) (N := 16) (by omega) (by decide)) ?_
          refine And.intro (fun c23 => ?_) (fun c23 => ?_)
          · try dsimp only at c23
            refine And.intro (by first | exact Or.inl rfl | exact Or.inr rfl | grind) ?_
            exact kvi (by grind) h
          · try dsimp only at c23
            refine And.intro (by first | exact Or.inl rfl | exact Or.inr rfl | grind) ?_
            exact kvi (by grind) h
        · try dsimp only at c17
          refine And.intro (by first | exact Or.inl rfl | exact Or.inr rfl | grind) ?_
          exact kvi (by grind) h
    · try dsimp only at c8
      refine And.intro (fun c17 => ?_) (fun c17 => ?_)
      · try dsimp only at c17
        refine And.intro ⟨rfl, rfl, rfl⟩ ?_
        refine And.intro (vp_nI (k := i) (N := 16) (by omega) (by decide)) ?_
        refine And.intro (fun c23 => ?_) (fun c23 => ?_)
        · try dsimp only at c23
          refine And.intro (by first | exact Or.inl rfl | exact Or.inr rfl | grind) ?_
          exact kvi (by grind) h
        · try dsimp only at c23
          refine And.intro (by first | exact Or.inl rfl | exact Or.inr rfl | grind) ?_
          exact kvi (by grind) h
      · try dsimp only at c17
        refine And.intro (by first | exact Or.inl rfl | exact Or.inr rfl | grind) ?_
        exact kvi (by grind) h

theorem l_St_lesserRipples {d n : Nat} {D : SDt} {m : Mem} {K : Option Vv → Mem → Prop} (hS : SC n D m) {i : Nat} (hi : i < n) (h : K (some (vi (nI (lsN D i n)))) m) (k : Nat) (hk : k ≤ n) : Go (cW (d + 3)) i_St_lesserRipples (0, 0) K 4 [vo 0 5 0, vi (nI i), vi (nI (lsN D i k)), vi (nI k)] [] m 0 0 := by
  have hR := hS.ok
  have h8 := hS.le
  have q1 := hS.nA
  have q2 := hS.nB
  refine Go.runR (callT_mono MT _) [4] 200 hR ?_
  refine And.intro (fun c7 => ?_) (fun c7 => ?_)
  · try dsimp only at c7
    obtain rfl := lq_e c7 q1 rfl hk (by omega)
    refine And.intro trivial ?_
    exact h
  · try dsimp only at c7
    have hk2 := lq_m c7 q1 rfl hk (by omega)
    have key : ∀ b, b = nI (lsN D i (k + 1)) → Go (cW (d + 3)) i_St_lesserRipples (0, 0) K 4 [vo 0 5 0, vi (nI i), vi b, vi (nI k + 1)] [] m 0 0 := fun b z => go_eq (by rw [z, ← nI_succ]) rfl (l_St_lesserRipples hS hi h (k + 1) hk2)
    rw [lss] at key
    have r1 := rpL hS hk2
    have r2 := rpL hS hi
    have i1 : nI (rp D i) ≤ nI (rp D k) ↔ rp D i ≤ rp D k := nI_leI (by omega) (by omega)
    refine m_St_ripple (by exact hS) (i := k) rfl hk2 (And.intro (by repeat' (first | exact hR | apply OKR.pI | apply OKR.pL | apply OKR.cpI | apply OKR.wI)) ?_)
    refine m_St_ripple (by exact hS) (i := i) rfl hi (And.intro (by repeat' (first | exact hR | apply OKR.pI | apply OKR.pL | apply OKR.cpI | apply OKR.wI)) ?_)
    refine And.intro (fun c15 => ?_) (fun c15 => ?_)
    · try dsimp only at c15
      have z := i1.mp c15
      rw [if_neg (by omega : ¬ rp D k < rp D i)] at key
      first | exact key _ (i_add0 _) | exact key _ (nI_1 _)
    · try dsimp only at c15
      have z := mt i1.mpr c15
      rw [if_pos (by omega : rp D k < rp D i)] at key
      first | exact key _ (i_add0 _) | exact key _ (nI_1 _)
termination_by n - k
decreasing_by all_goals omega

theorem m_St_lesserRipples {d n : Nat} {D : SDt} {m : Mem} {K : Option Vv → Mem → Prop} (hS : SC n D m) {v : Int32} {i : Nat} (hv : v = nI i) (hi : i < n) (h : K (some (vi (nI (lsN D i n)))) m) : cW (d + 4) n_St_lesserRipples [vo 0 5 0, vi v] m K := by
  have hR := hS.ok
  have h8 := hS.le
  have q1 := hS.nA
  have q2 := hS.nB
  subst hv
  refine w_St_lesserRipples (Go.runR (callT_mono MT _) [4] 200 hR ?_)
  exact l_St_lesserRipples hS hi h 0 (Nat.zero_le _)

theorem l_M_mark {d n : Nat} {D : SDt} {m : Mem} {K : Option Vv → Mem → Prop} (hS : SC n D m) {i : Nat} {c : Int32} (hi : i < n) (h : Go (cW (d + 3)) i_M_mark (0, 0) K 43 [vo 1 0 0, vi (nI i), vi c, vi (nI (lsN D i n)), vi (nI n)] [] m 0 0) (k : Nat) (hk : k ≤ n) : Go (cW (d + 3)) i_M_mark (0, 0) K 24 [vo 1 0 0, vi (nI i), vi c, vi (nI (lsN D i k)), vi (nI k)] [] m 0 0 := by
  have hR := hS.ok
  have h8 := hS.le
  have q2 := hS.nB
  refine Go.runR (callT_mono MT _) [24, 43] 200 hR ?_
  refine And.intro (fun c27 => ?_) (fun c27 => ?_)
  · try dsimp only at c27
    obtain rfl := lq_e c27 q2 rfl hk (by omega)
    exact h
  · try dsimp only at c27
    have hk2 := lq_m c27 q2 rfl hk (by omega)
    have key : ∀ b, b = nI (lsN D i (k + 1)) → Go (cW (d + 3)) i_M_mark (0, 0) K 24 [vo 1 0 0, vi (nI i), vi c, vi b, vi (nI k + 1)] [] m 0 0 := fun b z => go_eq (by rw [z, ← nI_succ]) rfl (l_M_mark hS hi h (k + 1) hk2)
    rw [lss] at key
    have r1 := rpL hS hk2
    have r2 := rpL hS hi
    have i1 : nI (rp D i) ≤ nI (rp D k) ↔ rp D i ≤ rp D k := nI_leI (by omega) (by omega)
    refine m_M_rippleOf (by exact hS) (i := k) rfl hk2 (And.intro (by repeat' (first | exact hR | apply OKR.pI | apply OKR.pL | apply OKR.cpI | apply OKR.wI)) ?_)
    refine m_M_rippleOf (by exact hS) (i := i) rfl hi (And.intro (by repeat' (first | exact hR | apply OKR.pI | apply OKR.pL | apply OKR.cpI | apply OKR.wI)) ?_)
    refine And.intro (fun c35 => ?_) (fun c35 => ?_)
    · try dsimp only at c35
      have z := i1.mp c35
      rw [if_neg (by omega : ¬ rp D k < rp D i)] at key
      first | exact key _ (i_add0 _) | exact key _ (nI_1 _)
    · try dsimp only at c35
      have z := mt i1.mpr c35
      rw [if_pos (by omega : rp D k < rp D i)] at key
      first | exact key _ (i_add0 _) | exact key _ (nI_1 _)
termination_by n - k
decreasing_by all_goals omega

theorem p_mark {d : Nat} {m : Mem} {K : Option Vv → Option Vv → Mem → Prop} (R : RelAB m) {i v : Int32} (h : ∀ v m', RelAB m' → K v v m') : cW (d + 6) n_X_mark [vo 0 0 0, vi i, vi v] m (fun u m1 => cW (d + 6) n_M_mark [vo 1 0 0, vi i, vi v] m1 (fun w m2 => K u w m2)) := by
  have hR := R.1
  obtain ⟨n, hc⟩ := R.2.2.2.2
  obtain ⟨D, hS⟩ := hc.sc hR
  have ht := R.2.2.2.1
  obtain ⟨q1, q2⟩ := hc.many
  have h8 := hc.le
  rcases RelAB.placeCase (n := n) (by omega) i with q | ⟨j, hj, rfl⟩
  · refine w_X_mark (Go.runR (callT_mono MT _) [] 200 (by repeat' (first | exact hR | exact g1.ok | exact g2.ok | exact g3.ok | apply OKR.pI | apply OKR.pL | apply OKR.cpI | apply OKR.wI)) ?_)
    refine And.intro ⟨(by first | decide | assumption | omega), (by first | decide | assumption | omega)⟩ ?_
    refine m_St_hasHouse0 (by repeat' (first | exact hR | exact g1.ok | exact g2.ok | exact g3.ok | apply OKR.pI | apply OKR.pL | apply OKR.cpI | apply OKR.wI)) (n := n) q1 q (And.intro (by repeat' (first | exact hR | exact g1.ok | exact g2.ok | exact g3.ok | apply OKR.pI | apply OKR.pL | apply OKR.cpI | apply OKR.wI)) ?_)
    refine And.intro (fun c4 => ?_) (fun c4 => ?_)
    · try dsimp only at c4
      refine And.intro trivial ?_
      refine w_M_mark (Go.runR (callT_mono MT _) [24] 200 (by repeat' (first | exact hR | exact g1.ok | exact g2.ok | exact g3.ok | apply OKR.pI | apply OKR.pL | apply OKR.cpI | apply OKR.wI)) ?_)
      refine m_M_isHouse0 (by repeat' (first | exact hR | exact g1.ok | exact g2.ok | exact g3.ok | apply OKR.pI | apply OKR.pL | apply OKR.cpI | apply OKR.wI)) (n := n) (by exact q2) h8 q (And.intro (by repeat' (first | exact hR | exact g1.ok | exact g2.ok | exact g3.ok | apply OKR.pI | apply OKR.pL | apply OKR.cpI | apply OKR.wI)) ?_)
      refine And.intro (fun c3 => ?_) (fun c3 => ?_)
      · try dsimp only at c3
        refine And.intro trivial ?_
        exact h _ _ R
      · first | exact absurd c3 (by decide) | exact absurd (by decide) c3 | (exfalso; grind)
    · first | exact absurd c4 (by decide) | exact absurd (by decide) c4 | (exfalso; grind)
  · have e0 : (nI j).toNatClampNeg = j := nI_clamp (by omega)
    have ko : 8 * 0 + (nI j).toNatClampNeg = j := by rw [e0]; omega
    have hh := hS.hs hj
    by_cases q : 1 ≤ v ∧ v ≤ 5
    · obtain ⟨w, hw, rfl⟩ := nI_of2 (x := v) (M := 5) (n := 5) rfl (by grind) q.2
      have hw0 : 0 < w := by rcases Nat.eq_zero_or_pos w with z | z; subst z; exact absurd q.1 (by decide); exact z
      obtain rfl | rfl | rfl | rfl | rfl : w = 1 ∨ w = 2 ∨ w = 3 ∨ w = 4 ∨ w = 5 := by omega
      · by_cases y : isa (dK D j) 1
        · refine w_X_mark (Go.runR (callT_mono MT _) [] 200 (by repeat' (first | exact hR | exact g1.ok | exact g2.ok | exact g3.ok | apply OKR.pI | apply OKR.pL | apply OKR.cpI | apply OKR.wI)) ?_)
          refine And.intro ⟨(by first | decide | assumption | omega), (by first | decide | assumption | omega)⟩ ?_
          refine m_St_hasHouse1 (by repeat' (first | exact hR | exact g1.ok | exact g2.ok | exact g3.ok | apply OKR.pI | apply OKR.pL | apply OKR.cpI | apply OKR.wI)) (n := n) q1 h8 hj (And.intro (by repeat' (first | exact hR | exact g1.ok | exact g2.ok | exact g3.ok | apply OKR.pI | apply OKR.pL | apply OKR.cpI | apply OKR.wI)) ?_)
          refine And.intro (fun c4 => ?_) (fun c4 => ?_)
          · first | exact absurd c4 (by decide) | exact absurd (by decide) c4 | (exfalso; grind)
          · try dsimp only at c4
            refine m_X_isWithin (by repeat' (first | exact hR | exact g1.ok | exact g2.ok | exact g3.ok | apply OKR.pI | apply OKR.pL | apply OKR.cpI | apply OKR.wI)) (And.intro (by repeat' (first | exact hR | exact g1.ok | exact g2.ok | exact g3.ok | apply OKR.pI | apply OKR.pL | apply OKR.cpI | apply OKR.wI)) ?_)
            rw [show b2 (kcon 0 ((0, 20, 1) : Id3).2.2 ≤ nI 1 ∧ nI 1 ≤ kcon 0 ((0, 20, 5) : Id3).2.2) = 1 from if_pos q]
            refine And.intro (fun c11 => ?_) (fun c11 => ?_)
            · first | exact absurd c11 (by decide) | exact absurd (by decide) c11 | (exfalso; grind)
            · try dsimp only at c11
              refine And.intro ⟨(by first | decide | assumption | omega), (by first | decide | assumption | omega)⟩ ?_
              refine And.intro ⟨(by first | decide | assumption | omega), (by first | decide | assumption | omega)⟩ ?_
              refine And.intro ⟨(vp_nI (k := j) (N := 8) (by omega) (by decide)), ⟨(by decide), by rw [e0]; omega⟩⟩ ?_
              refine And.intro ⟨(by first | decide | assumption | omega), (by first | decide | assumption | omega)⟩ ?_
              refine m_Ki_isOf (by repeat' (first | exact hR | exact g1.ok | exact g2.ok | exact g3.ok | apply OKR.pI | apply OKR.pL | apply OKR.cpI | apply OKR.wI)) (by rw [ko]; exact hh.1) hh.2.1 rfl (c := 1) (by decide) (by decide) (And.intro (by repeat' (first | exact hR | exact g1.ok | exact g2.ok | exact g3.ok | apply OKR.pI | apply OKR.pL | apply OKR.cpI | apply OKR.wI)) ?_)
              refine And.intro (fun c24 => ?_) (fun c24 => ?_)
              · exact absurd c24 (by rw [if_pos y]; decide)
              · try dsimp only at c24
                refine And.intro (fun c32 => ?_) (fun c32 => ?_)
                · try dsimp only at c32
                  refine And.intro ⟨(by first | decide | assumption | omega), (by first | decide | assumption | omega)⟩ ?_
                  refine m_St_lesserRipples (by exact hS) rfl hj (And.intro (by repeat' (first | exact hR | exact g1.ok | exact g2.ok | exact g3.ok | apply OKR.pI | apply OKR.pL | apply OKR.cpI | apply OKR.wI)) ?_)
                  refine And.intro trivial ?_
                  refine w_M_mark (Go.runR (callT_mono MT _) [24] 200 (by repeat' (first | exact hR | exact g1.ok | exact g2.ok | exact g3.ok | apply OKR.pI | apply OKR.pL | apply OKR.cpI | apply OKR.wI)) ?_)
                  refine m_M_isHouse1 (by repeat' (first | exact hR | exact g1.ok | exact g2.ok | exact g3.ok | apply OKR.pI | apply OKR.pL | apply OKR.cpI | apply OKR.wI)) (n := n) (by exact q2) h8 hj (And.intro (by repeat' (first | exact hR | exact g1.ok | exact g2.ok | exact g3.ok | apply OKR.pI | apply OKR.pL | apply OKR.cpI | apply OKR.wI)) ?_)
                  refine And.intro (fun c3 => ?_) (fun c3 => ?_)
                  · first | exact absurd c3 (by decide) | exact absurd (by decide) c3 | (exfalso; grind)
                  · try dsimp only at c3
                    refine m_M_in (by repeat' (first | exact hR | exact g1.ok | exact g2.ok | exact g3.ok | apply OKR.pI | apply OKR.pL | apply OKR.cpI | apply OKR.wI)) (And.intro (by repeat' (first | exact hR | exact g1.ok | exact g2.ok | exact g3.ok | apply OKR.pI | apply OKR.pL | apply OKR.cpI | apply OKR.wI)) ?_)
                    rw [show b2 (1 ≤ nI 1 ∧ nI 1 ≤ 5) = 1 from if_pos q]
                    refine And.intro (fun c8 => ?_) (fun c8 => ?_)
                    · first | exact absurd c8 (by decide) | exact absurd (by decide) c8 | (exfalso; grind)
                    · try dsimp only at c8
                      refine m_M_isA (by first | exact hS | exact hS.found) rfl hj rfl (c := 1) (by decide) (by decide) (And.intro (by repeat' (first | exact hR | exact g1.ok | exact g2.ok | exact g3.ok | apply OKR.pI | apply OKR.pL | apply OKR.cpI | apply OKR.wI)) ?_)
                      refine And.intro (fun c15 => ?_) (fun c15 => ?_)
                      · exact absurd c15 (by rw [if_pos y]; decide)
                      · try dsimp only at c15
                        refine go_eq (ls' := [vo 1 0 0, vi (nI j), vi (nI 1), vi (nI (lsN D j 0)), vi (nI 0)]) rfl rfl (l_M_mark (d := d + 2) hS hj ?_ 0 (Nat.zero_le _))
                        refine Go.runR (callT_mono MT _) [] 200 hR ?_
                        refine And.intro (fun c44 => ?_) (And.intro (fun c44 => ?_) (And.intro (fun c44 => ?_) (And.intro (fun c44 => ?_) (And.intro (fun c44 => ?_) (trivial)))))
                        · first | exact absurd c44 (by decide) | exact absurd (by decide) c44 | (exfalso; grind)
                        · try dsimp only at c44
                          refine And.intro trivial ?_
                          exact h _ _ R
                        · first | exact absurd c44 (by decide) | exact absurd (by decide) c44 | (exfalso; grind)
                        · first | exact absurd c44 (by decide) | exact absurd (by decide) c44 | (exfalso; grind)
                        · first | exact absurd c44 (by decide) | exact absurd (by decide) c44 | (exfalso; grind)
                · first | exact absurd c32 (by decide) | exact absurd (by decide) c32 | (exfalso; grind)
        · refine w_X_mark (Go.runR (callT_mono MT _) [] 200 (by repeat' (first | exact hR | exact g1.ok | exact g2.ok | exact g3.ok | apply OKR.pI | apply OKR.pL | apply OKR.cpI | apply OKR.wI)) ?_)
          refine And.intro ⟨(by first | decide | assumption | omega), (by first | decide | assumption | omega)⟩ ?_
          refine m_St_hasHouse1 (by repeat' (first | exact hR | exact g1.ok | exact g2.ok | exact g3.ok | apply OKR.pI | apply OKR.pL | apply OKR.cpI | apply OKR.wI)) (n := n) q1 h8 hj (And.intro (by repeat' (first | exact hR | exact g1.ok | exact g2.ok | exact g3.ok | apply OKR.pI | apply OKR.pL | apply OKR.cpI | apply OKR.wI)) ?_)
          refine And.intro (fun c4 => ?_) (fun c4 => ?_)
          · first | exact absurd c4 (by decide) | exact absurd (by decide) c4 | (exfalso; grind)
          · try dsimp only at c4
            refine m_X_isWithin (by repeat' (first | exact hR | exact g1.ok | exact g2.ok | exact g3.ok | apply OKR.pI | apply OKR.pL | apply OKR.cpI | apply OKR.wI)) (And.intro (by repeat' (first | exact hR | exact g1.ok | exact g2.ok | exact g3.ok | apply OKR.pI | apply OKR.pL | apply OKR.cpI | apply OKR.wI)) ?_)
            rw [show b2 (kcon 0 ((0, 20, 1) : Id3).2.2 ≤ nI 1 ∧ nI 1 ≤ kcon 0 ((0, 20, 5) : Id3).2.2) = 1 from if_pos q]
            refine And.intro (fun c11 => ?_) (fun c11 => ?_)
            · first | exact absurd c11 (by decide) | exact absurd (by decide) c11 | (exfalso; grind)
            · try dsimp only at c11
              refine And.intro ⟨(by first | decide | assumption | omega), (by first | decide | assumption | omega)⟩ ?_
              refine And.intro ⟨(by first | decide | assumption | omega), (by first | decide | assumption | omega)⟩ ?_
              refine And.intro ⟨(vp_nI (k := j) (N := 8) (by omega) (by decide)), ⟨(by decide), by rw [e0]; omega⟩⟩ ?_
              refine And.intro ⟨(by first | decide | assumption | omega), (by first | decide | assumption | omega)⟩ ?_
              refine m_Ki_isOf (by repeat' (first | exact hR | exact g1.ok | exact g2.ok | exact g3.ok | apply OKR.pI | apply OKR.pL | apply OKR.cpI | apply OKR.wI)) (by rw [ko]; exact hh.1) hh.2.1 rfl (c := 1) (by decide) (by decide) (And.intro (by repeat' (first | exact hR | exact g1.ok | exact g2.ok | exact g3.ok | apply OKR.pI | apply OKR.pL | apply OKR.cpI | apply OKR.wI)) ?_)
              refine And.intro (fun c24 => ?_) (fun c24 => ?_)
              · try dsimp only at c24
                refine m_X_found3 (by repeat' (first | exact hR | exact g1.ok | exact g2.ok | exact g3.ok | apply OKR.pI | apply OKR.pL | apply OKR.cpI | apply OKR.wI))  (And.intro (by repeat' (first | exact hR | exact g1.ok | exact g2.ok | exact g3.ok | apply OKR.pI | apply OKR.pL | apply OKR.cpI | apply OKR.wI)) ?_)
                refine And.intro trivial ?_
                refine w_M_mark (Go.runR (callT_mono MT _) [24] 200 (by repeat' (first | exact hR | exact g1.ok | exact g2.ok | exact g3.ok | apply OKR.pI | apply OKR.pL | apply OKR.cpI | apply OKR.wI)) ?_)
                refine m_M_isHouse1 (by repeat' (first | exact hR | exact g1.ok | exact g2.ok | exact g3.ok | apply OKR.pI | apply OKR.pL | apply OKR.cpI | apply OKR.wI)) (n := n) (by exact q2) h8 hj (And.intro (by repeat' (first | exact hR | exact g1.ok | exact g2.ok | exact g3.ok | apply OKR.pI | apply OKR.pL | apply OKR.cpI | apply OKR.wI)) ?_)
                refine And.intro (fun c3 => ?_) (fun c3 => ?_)
                · first | exact absurd c3 (by decide) | exact absurd (by decide) c3 | (exfalso; grind)
                · try dsimp only at c3
                  refine m_M_in (by repeat' (first | exact hR | exact g1.ok | exact g2.ok | exact g3.ok | apply OKR.pI | apply OKR.pL | apply OKR.cpI | apply OKR.wI)) (And.intro (by repeat' (first | exact hR | exact g1.ok | exact g2.ok | exact g3.ok | apply OKR.pI | apply OKR.pL | apply OKR.cpI | apply OKR.wI)) ?_)
                  rw [show b2 (1 ≤ nI 1 ∧ nI 1 ≤ 5) = 1 from if_pos q]
                  refine And.intro (fun c8 => ?_) (fun c8 => ?_)
                  · first | exact absurd c8 (by decide) | exact absurd (by decide) c8 | (exfalso; grind)
                  · try dsimp only at c8
                    refine m_M_isA (by first | exact hS | exact hS.found) rfl hj rfl (c := 1) (by decide) (by decide) (And.intro (by repeat' (first | exact hR | exact g1.ok | exact g2.ok | exact g3.ok | apply OKR.pI | apply OKR.pL | apply OKR.cpI | apply OKR.wI)) ?_)
                    refine And.intro (fun c15 => ?_) (fun c15 => ?_)
                    · try dsimp only at c15
                      refine m_M_meet3 (by repeat' (first | exact hR | exact g1.ok | exact g2.ok | exact g3.ok | apply OKR.pI | apply OKR.pL | apply OKR.cpI | apply OKR.wI))  (And.intro (by repeat' (first | exact hR | exact g1.ok | exact g2.ok | exact g3.ok | apply OKR.pI | apply OKR.pL | apply OKR.cpI | apply OKR.wI)) ?_)
                      refine And.intro trivial ?_
                      exact h _ _ (R.meet (by omega) (by omega))
                    · exact absurd (if_neg y) c15
              · exact absurd (if_neg y) c24
      · by_cases y : isa (dK D j) 2
        · refine w_X_mark (Go.runR (callT_mono MT _) [] 200 (by repeat' (first | exact hR | exact g1.ok | exact g2.ok | exact g3.ok | apply OKR.pI | apply OKR.pL | apply OKR.cpI | apply OKR.wI)) ?_)
          refine And.intro ⟨(by first | decide | assumption | omega), (by first | decide | assumption | omega)⟩ ?_
          refine m_St_hasHouse1 (by repeat' (first | exact hR | exact g1.ok | exact g2.ok | exact g3.ok | apply OKR.pI | apply OKR.pL | apply OKR.cpI | apply OKR.wI)) (n := n) q1 h8 hj (And.intro (by repeat' (first | exact hR | exact g1.ok | exact g2.ok | exact g3.ok | apply OKR.pI | apply OKR.pL | apply OKR.cpI | apply OKR.wI)) ?_)
          refine And.intro (fun c4 => ?_) (fun c4 => ?_)
          · first | exact absurd c4 (by decide) | exact absurd (by decide) c4 | (exfalso; grind)
          · try dsimp only at c4
            refine m_X_isWithin (by repeat' (first | exact hR | exact g1.ok | exact g2.ok | exact g3.ok | apply OKR.pI | apply OKR.pL | apply OKR.cpI | apply OKR.wI)) (And.intro (by repeat' (first | exact hR | exact g1.ok | exact g2.ok | exact g3.ok | apply OKR.pI | apply OKR.pL | apply OKR.cpI | apply OKR.wI)) ?_)
            rw [show b2 (kcon 0 ((0, 20, 1) : Id3).2.2 ≤ nI 2 ∧ nI 2 ≤ kcon 0 ((0, 20, 5) : Id3).2.2) = 1 from if_pos q]
            refine And.intro (fun c11 => ?_) (fun c11 => ?_)
            · first | exact absurd c11 (by decide) | exact absurd (by decide) c11 | (exfalso; grind)
            · try dsimp only at c11
              refine And.intro ⟨(by first | decide | assumption | omega), (by first | decide | assumption | omega)⟩ ?_
              refine And.intro ⟨(by first | decide | assumption | omega), (by first | decide | assumption | omega)⟩ ?_
              refine And.intro ⟨(vp_nI (k := j) (N := 8) (by omega) (by decide)), ⟨(by decide), by rw [e0]; omega⟩⟩ ?_
              refine And.intro ⟨(by first | decide | assumption | omega), (by first | decide | assumption | omega)⟩ ?_
              refine m_Ki_isOf (by repeat' (first | exact hR | exact g1.ok | exact g2.ok | exact g3.ok | apply OKR.pI | apply OKR.pL | apply OKR.cpI | apply OKR.wI)) (by rw [ko]; exact hh.1) hh.2.1 rfl (c := 2) (by decide) (by decide) (And.intro (by repeat' (first | exact hR | exact g1.ok | exact g2.ok | exact g3.ok | apply OKR.pI | apply OKR.pL | apply OKR.cpI | apply OKR.wI)) ?_)
              refine And.intro (fun c24 => ?_) (fun c24 => ?_)
              · exact absurd c24 (by rw [if_pos y]; decide)
              · try dsimp only at c24
                refine And.intro (fun c32 => ?_) (fun c32 => ?_)
                · first | exact absurd c32 (by decide) | exact absurd (by decide) c32 | (exfalso; grind)
                · try dsimp only at c32
                  refine And.intro (fun c41 => ?_) (fun c41 => ?_)
                  · try dsimp only at c41
                    refine m_Ho_sound (by exact hS) ko hj (And.intro (by repeat' (first | exact hR | exact g1.ok | exact g2.ok | exact g3.ok | apply OKR.pI | apply OKR.pL | apply OKR.cpI | apply OKR.wI)) ?_)
                    refine And.intro trivial ?_
                    refine w_M_mark (Go.runR (callT_mono MT _) [24] 200 (by repeat' (first | exact hR | exact g1.ok | exact g2.ok | exact g3.ok | apply OKR.pI | apply OKR.pL | apply OKR.cpI | apply OKR.wI)) ?_)
                    refine m_M_isHouse1 (by repeat' (first | exact hR | exact g1.ok | exact g2.ok | exact g3.ok | apply OKR.pI | apply OKR.pL | apply OKR.cpI | apply OKR.wI)) (n := n) (by exact q2) h8 hj (And.intro (by repeat' (first | exact hR | exact g1.ok | exact g2.ok | exact g3.ok | apply OKR.pI | apply OKR.pL | apply OKR.cpI | apply OKR.wI)) ?_)
                    refine And.intro (fun c3 => ?_) (fun c3 => ?_)
                    · first | exact absurd c3 (by decide) | exact absurd (by decide) c3 | (exfalso; grind)
                    · try dsimp only at c3
                      refine m_M_in (by repeat' (first | exact hR | exact g1.ok | exact g2.ok | exact g3.ok | apply OKR.pI | apply OKR.pL | apply OKR.cpI | apply OKR.wI)) (And.intro (by repeat' (first | exact hR | exact g1.ok | exact g2.ok | exact g3.ok | apply OKR.pI | apply OKR.pL | apply OKR.cpI | apply OKR.wI)) ?_)
                      rw [show b2 (1 ≤ nI 2 ∧ nI 2 ≤ 5) = 1 from if_pos q]
                      refine And.intro (fun c8 => ?_) (fun c8 => ?_)
                      · first | exact absurd c8 (by decide) | exact absurd (by decide) c8 | (exfalso; grind)
                      · try dsimp only at c8
                        refine m_M_isA (by first | exact hS | exact hS.found) rfl hj rfl (c := 2) (by decide) (by decide) (And.intro (by repeat' (first | exact hR | exact g1.ok | exact g2.ok | exact g3.ok | apply OKR.pI | apply OKR.pL | apply OKR.cpI | apply OKR.wI)) ?_)
                        refine And.intro (fun c15 => ?_) (fun c15 => ?_)
                        · exact absurd c15 (by rw [if_pos y]; decide)
                        · try dsimp only at c15
                          refine go_eq (ls' := [vo 1 0 0, vi (nI j), vi (nI 2), vi (nI (lsN D j 0)), vi (nI 0)]) rfl rfl (l_M_mark (d := d + 2) hS hj ?_ 0 (Nat.zero_le _))
                          refine Go.runR (callT_mono MT _) [] 200 hR ?_
                          refine And.intro (fun c44 => ?_) (And.intro (fun c44 => ?_) (And.intro (fun c44 => ?_) (And.intro (fun c44 => ?_) (And.intro (fun c44 => ?_) (trivial)))))
                          · first | exact absurd c44 (by decide) | exact absurd (by decide) c44 | (exfalso; grind)
                          · first | exact absurd c44 (by decide) | exact absurd (by decide) c44 | (exfalso; grind)
                          · try dsimp only at c44
                            refine And.intro ⟨rfl, rfl, rfl⟩ ?_
                            refine And.intro (by first | exact vp_nI (k := j) (N := 16) (by omega) (by decide) | exact vp_nI (k := j) (N := 8) (by omega) (by decide)) ?_
                            refine m_M_soundOf (by exact hS) rfl hj (And.intro (by repeat' (first | exact hR | exact g1.ok | exact g2.ok | exact g3.ok | apply OKR.pI | apply OKR.pL | apply OKR.cpI | apply OKR.wI)) ?_)
                            refine And.intro trivial ?_
                            show K (some (vi (gI m (0, 8, 8 * 0 + (nI j).toNatClampNeg) 1 - nI (sn D j)))) (some (vi (gI m (1, 8, 0) (nI j).toNatClampNeg - nI (sn D j)))) m
                            rw [ko, e0, hh.2.2.2.2.2.1, hh.2.2.2.2.2.2.2.2.2.2.1]
                            exact h _ _ R
                          · first | exact absurd c44 (by decide) | exact absurd (by decide) c44 | (exfalso; grind)
                          · first | exact absurd c44 (by decide) | exact absurd (by decide) c44 | (exfalso; grind)
                  · first | exact absurd c41 (by decide) | exact absurd (by decide) c41 | (exfalso; grind)
        · refine w_X_mark (Go.runR (callT_mono MT _) [] 200 (by repeat' (first | exact hR | exact g1.ok | exact g2.ok | exact g3.ok | apply OKR.pI | apply OKR.pL | apply OKR.cpI | apply OKR.wI)) ?_)
          refine And.intro ⟨(by first | decide | assumption | omega), (by first | decide | assumption | omega)⟩ ?_
          refine m_St_hasHouse1 (by repeat' (first | exact hR | exact g1.ok | exact g2.ok | exact g3.ok | apply OKR.pI | apply OKR.pL | apply OKR.cpI | apply OKR.wI)) (n := n) q1 h8 hj (And.intro (by repeat' (first | exact hR | exact g1.ok | exact g2.ok | exact g3.ok | apply OKR.pI | apply OKR.pL | apply OKR.cpI | apply OKR.wI)) ?_)
          refine And.intro (fun c4 => ?_) (fun c4 => ?_)
          · first | exact absurd c4 (by decide) | exact absurd (by decide) c4 | (exfalso; grind)
          · try dsimp only at c4
            refine m_X_isWithin (by repeat' (first | exact hR | exact g1.ok | exact g2.ok | exact g3.ok | apply OKR.pI | apply OKR.pL | apply OKR.cpI | apply OKR.wI)) (And.intro (by repeat' (first | exact hR | exact g1.ok | exact g2.ok | exact g3.ok | apply OKR.pI | apply OKR.pL | apply OKR.cpI | apply OKR.wI)) ?_)
            rw [show b2 (kcon 0 ((0, 20, 1) : Id3).2.2 ≤ nI 2 ∧ nI 2 ≤ kcon 0 ((0, 20, 5) : Id3).2.2) = 1 from if_pos q]
            refine And.intro (fun c11 => ?_) (fun c11 => ?_)
            · first | exact absurd c11 (by decide) | exact absurd (by decide) c11 | (exfalso; grind)
            · try dsimp only at c11
              refine And.intro ⟨(by first | decide | assumption | omega), (by first | decide | assumption | omega)⟩ ?_
              refine And.intro ⟨(by first | decide | assumption | omega), (by first | decide | assumption | omega)⟩ ?_
              refine And.intro ⟨(vp_nI (k := j) (N := 8) (by omega) (by decide)), ⟨(by decide), by rw [e0]; omega⟩⟩ ?_
              refine And.intro ⟨(by first | decide | assumption | omega), (by first | decide | assumption | omega)⟩ ?_
              refine m_Ki_isOf (by repeat' (first | exact hR | exact g1.ok | exact g2.ok | exact g3.ok | apply OKR.pI | apply OKR.pL | apply OKR.cpI | apply OKR.wI)) (by rw [ko]; exact hh.1) hh.2.1 rfl (c := 2) (by decide) (by decide) (And.intro (by repeat' (first | exact hR | exact g1.ok | exact g2.ok | exact g3.ok | apply OKR.pI | apply OKR.pL | apply OKR.cpI | apply OKR.wI)) ?_)
              refine And.intro (fun c24 => ?_) (fun c24 => ?_)
              · try dsimp only at c24
                refine m_X_found3 (by repeat' (first | exact hR | exact g1.ok | exact g2.ok | exact g3.ok | apply OKR.pI | apply OKR.pL | apply OKR.cpI | apply OKR.wI))  (And.intro (by repeat' (first | exact hR | exact g1.ok | exact g2.ok | exact g3.ok | apply OKR.pI | apply OKR.pL | apply OKR.cpI | apply OKR.wI)) ?_)
                refine And.intro trivial ?_
                refine w_M_mark (Go.runR (callT_mono MT _) [24] 200 (by repeat' (first | exact hR | exact g1.ok | exact g2.ok | exact g3.ok | apply OKR.pI | apply OKR.pL | apply OKR.cpI | apply OKR.wI)) ?_)
                refine m_M_isHouse1 (by repeat' (first | exact hR | exact g1.ok | exact g2.ok | exact g3.ok | apply OKR.pI | apply OKR.pL | apply OKR.cpI | apply OKR.wI)) (n := n) (by exact q2) h8 hj (And.intro (by repeat' (first | exact hR | exact g1.ok | exact g2.ok | exact g3.ok | apply OKR.pI | apply OKR.pL | apply OKR.cpI | apply OKR.wI)) ?_)
                refine And.intro (fun c3 => ?_) (fun c3 => ?_)
                · first | exact absurd c3 (by decide) | exact absurd (by decide) c3 | (exfalso; grind)
                · try dsimp only at c3
                  refine m_M_in (by repeat' (first | exact hR | exact g1.ok | exact g2.ok | exact g3.ok | apply OKR.pI | apply OKR.pL | apply OKR.cpI | apply OKR.wI)) (And.intro (by repeat' (first | exact hR | exact g1.ok | exact g2.ok | exact g3.ok | apply OKR.pI | apply OKR.pL | apply OKR.cpI | apply OKR.wI)) ?_)
                  rw [show b2 (1 ≤ nI 2 ∧ nI 2 ≤ 5) = 1 from if_pos q]
                  refine And.intro (fun c8 => ?_) (fun c8 => ?_)
                  · first | exact absurd c8 (by decide) | exact absurd (by decide) c8 | (exfalso; grind)
                  · try dsimp only at c8
                    refine m_M_isA (by first | exact hS | exact hS.found) rfl hj rfl (c := 2) (by decide) (by decide) (And.intro (by repeat' (first | exact hR | exact g1.ok | exact g2.ok | exact g3.ok | apply OKR.pI | apply OKR.pL | apply OKR.cpI | apply OKR.wI)) ?_)
                    refine And.intro (fun c15 => ?_) (fun c15 => ?_)
                    · try dsimp only at c15
                      refine m_M_meet3 (by repeat' (first | exact hR | exact g1.ok | exact g2.ok | exact g3.ok | apply OKR.pI | apply OKR.pL | apply OKR.cpI | apply OKR.wI))  (And.intro (by repeat' (first | exact hR | exact g1.ok | exact g2.ok | exact g3.ok | apply OKR.pI | apply OKR.pL | apply OKR.cpI | apply OKR.wI)) ?_)
                      refine And.intro trivial ?_
                      exact h _ _ (R.meet (by omega) (by omega))
                    · exact absurd (if_neg y) c15
              · exact absurd (if_neg y) c24
      · by_cases y : isa (dK D j) 3
        · refine w_X_mark (Go.runR (callT_mono MT _) [] 200 (by repeat' (first | exact hR | exact g1.ok | exact g2.ok | exact g3.ok | apply OKR.pI | apply OKR.pL | apply OKR.cpI | apply OKR.wI)) ?_)
          refine And.intro ⟨(by first | decide | assumption | omega), (by first | decide | assumption | omega)⟩ ?_
          refine m_St_hasHouse1 (by repeat' (first | exact hR | exact g1.ok | exact g2.ok | exact g3.ok | apply OKR.pI | apply OKR.pL | apply OKR.cpI | apply OKR.wI)) (n := n) q1 h8 hj (And.intro (by repeat' (first | exact hR | exact g1.ok | exact g2.ok | exact g3.ok | apply OKR.pI | apply OKR.pL | apply OKR.cpI | apply OKR.wI)) ?_)
          refine And.intro (fun c4 => ?_) (fun c4 => ?_)
          · first | exact absurd c4 (by decide) | exact absurd (by decide) c4 | (exfalso; grind)
          · try dsimp only at c4
            refine m_X_isWithin (by repeat' (first | exact hR | exact g1.ok | exact g2.ok | exact g3.ok | apply OKR.pI | apply OKR.pL | apply OKR.cpI | apply OKR.wI)) (And.intro (by repeat' (first | exact hR | exact g1.ok | exact g2.ok | exact g3.ok | apply OKR.pI | apply OKR.pL | apply OKR.cpI | apply OKR.wI)) ?_)
            rw [show b2 (kcon 0 ((0, 20, 1) : Id3).2.2 ≤ nI 3 ∧ nI 3 ≤ kcon 0 ((0, 20, 5) : Id3).2.2) = 1 from if_pos q]
            refine And.intro (fun c11 => ?_) (fun c11 => ?_)
            · first | exact absurd c11 (by decide) | exact absurd (by decide) c11 | (exfalso; grind)
            · try dsimp only at c11
              refine And.intro ⟨(by first | decide | assumption | omega), (by first | decide | assumption | omega)⟩ ?_
              refine And.intro ⟨(by first | decide | assumption | omega), (by first | decide | assumption | omega)⟩ ?_
              refine And.intro ⟨(vp_nI (k := j) (N := 8) (by omega) (by decide)), ⟨(by decide), by rw [e0]; omega⟩⟩ ?_
              refine And.intro ⟨(by first | decide | assumption | omega), (by first | decide | assumption | omega)⟩ ?_
              refine m_Ki_isOf (by repeat' (first | exact hR | exact g1.ok | exact g2.ok | exact g3.ok | apply OKR.pI | apply OKR.pL | apply OKR.cpI | apply OKR.wI)) (by rw [ko]; exact hh.1) hh.2.1 rfl (c := 3) (by decide) (by decide) (And.intro (by repeat' (first | exact hR | exact g1.ok | exact g2.ok | exact g3.ok | apply OKR.pI | apply OKR.pL | apply OKR.cpI | apply OKR.wI)) ?_)
              refine And.intro (fun c24 => ?_) (fun c24 => ?_)
              · exact absurd c24 (by rw [if_pos y]; decide)
              · try dsimp only at c24
                refine And.intro (fun c32 => ?_) (fun c32 => ?_)
                · first | exact absurd c32 (by decide) | exact absurd (by decide) c32 | (exfalso; grind)
                · try dsimp only at c32
                  refine And.intro (fun c41 => ?_) (fun c41 => ?_)
                  · first | exact absurd c41 (by decide) | exact absurd (by decide) c41 | (exfalso; grind)
                  · try dsimp only at c41
                    refine And.intro (fun c51 => ?_) (fun c51 => ?_)
                    · try dsimp only at c51
                      refine And.intro trivial ?_
                      refine w_M_mark (Go.runR (callT_mono MT _) [24] 200 (by repeat' (first | exact hR | exact g1.ok | exact g2.ok | exact g3.ok | apply OKR.pI | apply OKR.pL | apply OKR.cpI | apply OKR.wI)) ?_)
                      refine m_M_isHouse1 (by repeat' (first | exact hR | exact g1.ok | exact g2.ok | exact g3.ok | apply OKR.pI | apply OKR.pL | apply OKR.cpI | apply OKR.wI)) (n := n) (by exact q2) h8 hj (And.intro (by repeat' (first | exact hR | exact g1.ok | exact g2.ok | exact g3.ok | apply OKR.pI | apply OKR.pL | apply OKR.cpI | apply OKR.wI)) ?_)
                      refine And.intro (fun c3 => ?_) (fun c3 => ?_)
                      · first | exact absurd c3 (by decide) | exact absurd (by decide) c3 | (exfalso; grind)
                      · try dsimp only at c3
                        refine m_M_in (by repeat' (first | exact hR | exact g1.ok | exact g2.ok | exact g3.ok | apply OKR.pI | apply OKR.pL | apply OKR.cpI | apply OKR.wI)) (And.intro (by repeat' (first | exact hR | exact g1.ok | exact g2.ok | exact g3.ok | apply OKR.pI | apply OKR.pL | apply OKR.cpI | apply OKR.wI)) ?_)
                        rw [show b2 (1 ≤ nI 3 ∧ nI 3 ≤ 5) = 1 from if_pos q]
                        refine And.intro (fun c8 => ?_) (fun c8 => ?_)
                        · first | exact absurd c8 (by decide) | exact absurd (by decide) c8 | (exfalso; grind)
                        · try dsimp only at c8
                          refine m_M_isA (by first | exact hS | exact hS.found) rfl hj rfl (c := 3) (by decide) (by decide) (And.intro (by repeat' (first | exact hR | exact g1.ok | exact g2.ok | exact g3.ok | apply OKR.pI | apply OKR.pL | apply OKR.cpI | apply OKR.wI)) ?_)
                          refine And.intro (fun c15 => ?_) (fun c15 => ?_)
                          · exact absurd c15 (by rw [if_pos y]; decide)
                          · try dsimp only at c15
                            refine go_eq (ls' := [vo 1 0 0, vi (nI j), vi (nI 3), vi (nI (lsN D j 0)), vi (nI 0)]) rfl rfl (l_M_mark (d := d + 2) hS hj ?_ 0 (Nat.zero_le _))
                            refine Go.runR (callT_mono MT _) [] 200 hR ?_
                            refine And.intro (fun c44 => ?_) (And.intro (fun c44 => ?_) (And.intro (fun c44 => ?_) (And.intro (fun c44 => ?_) (And.intro (fun c44 => ?_) (trivial)))))
                            · first | exact absurd c44 (by decide) | exact absurd (by decide) c44 | (exfalso; grind)
                            · first | exact absurd c44 (by decide) | exact absurd (by decide) c44 | (exfalso; grind)
                            · first | exact absurd c44 (by decide) | exact absurd (by decide) c44 | (exfalso; grind)
                            · try dsimp only at c44
                              refine And.intro ⟨rfl, rfl, rfl⟩ ?_
                              refine And.intro (by first | exact vp_nI (k := j) (N := 16) (by omega) (by decide) | exact vp_nI (k := j) (N := 8) (by omega) (by decide)) ?_
                              refine And.intro trivial ?_
                              show K (some (vi (gI m (0, 8, 8 * 0 + (nI j).toNatClampNeg) 3))) (some (vi (gI m (1, 10, 0) (nI j).toNatClampNeg))) m
                              rw [ko, e0, hh.2.2.2.2.2.2.2.1, hh.2.2.2.2.2.2.2.2.2.2.2.2.1]
                              exact h _ _ R
                            · first | exact absurd c44 (by decide) | exact absurd (by decide) c44 | (exfalso; grind)
                    · first | exact absurd c51 (by decide) | exact absurd (by decide) c51 | (exfalso; grind)
        · refine w_X_mark (Go.runR (callT_mono MT _) [] 200 (by repeat' (first | exact hR | exact g1.ok | exact g2.ok | exact g3.ok | apply OKR.pI | apply OKR.pL | apply OKR.cpI | apply OKR.wI)) ?_)
          refine And.intro ⟨(by first | decide | assumption | omega), (by first | decide | assumption | omega)⟩ ?_
          refine m_St_hasHouse1 (by repeat' (first | exact hR | exact g1.ok | exact g2.ok | exact g3.ok | apply OKR.pI | apply OKR.pL | apply OKR.cpI | apply OKR.wI)) (n := n) q1 h8 hj (And.intro (by repeat' (first | exact hR | exact g1.ok | exact g2.ok | exact g3.ok | apply OKR.pI | apply OKR.pL | apply OKR.cpI | apply OKR.wI)) ?_)
          refine And.intro (fun c4 => ?_) (fun c4 => ?_)
          · first | exact absurd c4 (by decide) | exact absurd (by decide) c4 | (exfalso; grind)
          · try dsimp only at c4
            refine m_X_isWithin (by repeat' (first | exact hR | exact g1.ok | exact g2.ok | exact g3.ok | apply OKR.pI | apply OKR.pL | apply OKR.cpI | apply OKR.wI)) (And.intro (by repeat' (first | exact hR | exact g1.ok | exact g2.ok | exact g3.ok | apply OKR.pI | apply OKR.pL | apply OKR.cpI | apply OKR.wI)) ?_)
            rw [show b2 (kcon 0 ((0, 20, 1) : Id3).2.2 ≤ nI 3 ∧ nI 3 ≤ kcon 0 ((0, 20, 5) : Id3).2.2) = 1 from if_pos q]
            refine And.intro (fun c11 => ?_) (fun c11 => ?_)
            · first | exact absurd c11 (by decide) | exact absurd (by decide) c11 | (exfalso; grind)
            · try dsimp only at c11
              refine And.intro ⟨(by first | decide | assumption | omega), (by first | decide | assumption | omega)⟩ ?_
              refine And.intro ⟨(by first | decide | assumption | omega), (by first | decide | assumption | omega)⟩ ?_
              refine And.intro ⟨(vp_nI (k := j) (N := 8) (by omega) (by decide)), ⟨(by decide), by rw [e0]; omega⟩⟩ ?_
              refine And.intro ⟨(by first | decide | assumption | omega), (by first | decide | assumption | omega)⟩ ?_
              refine m_Ki_isOf (by repeat' (first | exact hR | exact g1.ok | exact g2.ok | exact g3.ok | apply OKR.pI | apply OKR.pL | apply OKR.cpI | apply OKR.wI)) (by rw [ko]; exact hh.1) hh.2.1 rfl (c := 3) (by decide) (by decide) (And.intro (by repeat' (first | exact hR | exact g1.ok | exact g2.ok | exact g3.ok | apply OKR.pI | apply OKR.pL | apply OKR.cpI | apply OKR.wI)) ?_)
              refine And.intro (fun c24 => ?_) (fun c24 => ?_)
              · try dsimp only at c24
                refine m_X_found3 (by repeat' (first | exact hR | exact g1.ok | exact g2.ok | exact g3.ok | apply OKR.pI | apply OKR.pL | apply OKR.cpI | apply OKR.wI))  (And.intro (by repeat' (first | exact hR | exact g1.ok | exact g2.ok | exact g3.ok | apply OKR.pI | apply OKR.pL | apply OKR.cpI | apply OKR.wI)) ?_)
                refine And.intro trivial ?_
                refine w_M_mark (Go.runR (callT_mono MT _) [24] 200 (by repeat' (first | exact hR | exact g1.ok | exact g2.ok | exact g3.ok | apply OKR.pI | apply OKR.pL | apply OKR.cpI | apply OKR.wI)) ?_)
                refine m_M_isHouse1 (by repeat' (first | exact hR | exact g1.ok | exact g2.ok | exact g3.ok | apply OKR.pI | apply OKR.pL | apply OKR.cpI | apply OKR.wI)) (n := n) (by exact q2) h8 hj (And.intro (by repeat' (first | exact hR | exact g1.ok | exact g2.ok | exact g3.ok | apply OKR.pI | apply OKR.pL | apply OKR.cpI | apply OKR.wI)) ?_)
                refine And.intro (fun c3 => ?_) (fun c3 => ?_)
                · first | exact absurd c3 (by decide) | exact absurd (by decide) c3 | (exfalso; grind)
                · try dsimp only at c3
                  refine m_M_in (by repeat' (first | exact hR | exact g1.ok | exact g2.ok | exact g3.ok | apply OKR.pI | apply OKR.pL | apply OKR.cpI | apply OKR.wI)) (And.intro (by repeat' (first | exact hR | exact g1.ok | exact g2.ok | exact g3.ok | apply OKR.pI | apply OKR.pL | apply OKR.cpI | apply OKR.wI)) ?_)
                  rw [show b2 (1 ≤ nI 3 ∧ nI 3 ≤ 5) = 1 from if_pos q]
                  refine And.intro (fun c8 => ?_) (fun c8 => ?_)
                  · first | exact absurd c8 (by decide) | exact absurd (by decide) c8 | (exfalso; grind)
                  · try dsimp only at c8
                    refine m_M_isA (by first | exact hS | exact hS.found) rfl hj rfl (c := 3) (by decide) (by decide) (And.intro (by repeat' (first | exact hR | exact g1.ok | exact g2.ok | exact g3.ok | apply OKR.pI | apply OKR.pL | apply OKR.cpI | apply OKR.wI)) ?_)
                    refine And.intro (fun c15 => ?_) (fun c15 => ?_)
                    · try dsimp only at c15
                      refine m_M_meet3 (by repeat' (first | exact hR | exact g1.ok | exact g2.ok | exact g3.ok | apply OKR.pI | apply OKR.pL | apply OKR.cpI | apply OKR.wI))  (And.intro (by repeat' (first | exact hR | exact g1.ok | exact g2.ok | exact g3.ok | apply OKR.pI | apply OKR.pL | apply OKR.cpI | apply OKR.wI)) ?_)
                      refine And.intro trivial ?_
                      exact h _ _ (R.meet (by omega) (by omega))
                    · exact absurd (if_neg y) c15
              · exact absurd (if_neg y) c24
      · by_cases y : isa (dK D j) 4
        · refine w_X_mark (Go.runR (callT_mono MT _) [] 200 (by repeat' (first | exact hR | exact g1.ok | exact g2.ok | exact g3.ok | apply OKR.pI | apply OKR.pL | apply OKR.cpI | apply OKR.wI)) ?_)
          refine And.intro ⟨(by first | decide | assumption | omega), (by first | decide | assumption | omega)⟩ ?_
          refine m_St_hasHouse1 (by repeat' (first | exact hR | exact g1.ok | exact g2.ok | exact g3.ok | apply OKR.pI | apply OKR.pL | apply OKR.cpI | apply OKR.wI)) (n := n) q1 h8 hj (And.intro (by repeat' (first | exact hR | exact g1.ok | exact g2.ok | exact g3.ok | apply OKR.pI | apply OKR.pL | apply OKR.cpI | apply OKR.wI)) ?_)
          refine And.intro (fun c4 => ?_) (fun c4 => ?_)
          · first | exact absurd c4 (by decide) | exact absurd (by decide) c4 | (exfalso; grind)
          · try dsimp only at c4
            refine m_X_isWithin (by repeat' (first | exact hR | exact g1.ok | exact g2.ok | exact g3.ok | apply OKR.pI | apply OKR.pL | apply OKR.cpI | apply OKR.wI)) (And.intro (by repeat' (first | exact hR | exact g1.ok | exact g2.ok | exact g3.ok | apply OKR.pI | apply OKR.pL | apply OKR.cpI | apply OKR.wI)) ?_)
            rw [show b2 (kcon 0 ((0, 20, 1) : Id3).2.2 ≤ nI 4 ∧ nI 4 ≤ kcon 0 ((0, 20, 5) : Id3).2.2) = 1 from if_pos q]
            refine And.intro (fun c11 => ?_) (fun c11 => ?_)
            · first | exact absurd c11 (by decide) | exact absurd (by decide) c11 | (exfalso; grind)
            · try dsimp only at c11
              refine And.intro ⟨(by first | decide | assumption | omega), (by first | decide | assumption | omega)⟩ ?_
              refine And.intro ⟨(by first | decide | assumption | omega), (by first | decide | assumption | omega)⟩ ?_
              refine And.intro ⟨(vp_nI (k := j) (N := 8) (by omega) (by decide)), ⟨(by decide), by rw [e0]; omega⟩⟩ ?_
              refine And.intro ⟨(by first | decide | assumption | omega), (by first | decide | assumption | omega)⟩ ?_
              refine m_Ki_isOf (by repeat' (first | exact hR | exact g1.ok | exact g2.ok | exact g3.ok | apply OKR.pI | apply OKR.pL | apply OKR.cpI | apply OKR.wI)) (by rw [ko]; exact hh.1) hh.2.1 rfl (c := 4) (by decide) (by decide) (And.intro (by repeat' (first | exact hR | exact g1.ok | exact g2.ok | exact g3.ok | apply OKR.pI | apply OKR.pL | apply OKR.cpI | apply OKR.wI)) ?_)
              refine And.intro (fun c24 => ?_) (fun c24 => ?_)
              · exact absurd c24 (by rw [if_pos y]; decide)
              · try dsimp only at c24
                refine And.intro (fun c32 => ?_) (fun c32 => ?_)
                · first | exact absurd c32 (by decide) | exact absurd (by decide) c32 | (exfalso; grind)
                · try dsimp only at c32
                  refine And.intro (fun c41 => ?_) (fun c41 => ?_)
                  · first | exact absurd c41 (by decide) | exact absurd (by decide) c41 | (exfalso; grind)
                  · try dsimp only at c41
                    refine And.intro (fun c51 => ?_) (fun c51 => ?_)
                    · first | exact absurd c51 (by decide) | exact absurd (by decide) c51 | (exfalso; grind)
                    · try dsimp only at c51
                      refine And.intro (fun c58 => ?_) (fun c58 => ?_)
                      · try dsimp only at c58
                        refine And.intro ⟨(by first | decide | assumption | omega), (by first | decide | assumption | omega)⟩ ?_
                        refine m_St_distance (by exact hS) rfl hj (And.intro (by repeat' (first | exact hR | exact g1.ok | exact g2.ok | exact g3.ok | apply OKR.pI | apply OKR.pL | apply OKR.cpI | apply OKR.wI)) ?_)
                        refine And.intro trivial ?_
                        refine w_M_mark (Go.runR (callT_mono MT _) [24] 200 (by repeat' (first | exact hR | exact g1.ok | exact g2.ok | exact g3.ok | apply OKR.pI | apply OKR.pL | apply OKR.cpI | apply OKR.wI)) ?_)
                        refine m_M_isHouse1 (by repeat' (first | exact hR | exact g1.ok | exact g2.ok | exact g3.ok | apply OKR.pI | apply OKR.pL | apply OKR.cpI | apply OKR.wI)) (n := n) (by exact q2) h8 hj (And.intro (by repeat' (first | exact hR | exact g1.ok | exact g2.ok | exact g3.ok | apply OKR.pI | apply OKR.pL | apply OKR.cpI | apply OKR.wI)) ?_)
                        refine And.intro (fun c3 => ?_) (fun c3 => ?_)
                        · first | exact absurd c3 (by decide) | exact absurd (by decide) c3 | (exfalso; grind)
                        · try dsimp only at c3
                          refine m_M_in (by repeat' (first | exact hR | exact g1.ok | exact g2.ok | exact g3.ok | apply OKR.pI | apply OKR.pL | apply OKR.cpI | apply OKR.wI)) (And.intro (by repeat' (first | exact hR | exact g1.ok | exact g2.ok | exact g3.ok | apply OKR.pI | apply OKR.pL | apply OKR.cpI | apply OKR.wI)) ?_)
                          rw [show b2 (1 ≤ nI 4 ∧ nI 4 ≤ 5) = 1 from if_pos q]
                          refine And.intro (fun c8 => ?_) (fun c8 => ?_)
                          · first | exact absurd c8 (by decide) | exact absurd (by decide) c8 | (exfalso; grind)
                          · try dsimp only at c8
                            refine m_M_isA (by first | exact hS | exact hS.found) rfl hj rfl (c := 4) (by decide) (by decide) (And.intro (by repeat' (first | exact hR | exact g1.ok | exact g2.ok | exact g3.ok | apply OKR.pI | apply OKR.pL | apply OKR.cpI | apply OKR.wI)) ?_)
                            refine And.intro (fun c15 => ?_) (fun c15 => ?_)
                            · exact absurd c15 (by rw [if_pos y]; decide)
                            · try dsimp only at c15
                              refine go_eq (ls' := [vo 1 0 0, vi (nI j), vi (nI 4), vi (nI (lsN D j 0)), vi (nI 0)]) rfl rfl (l_M_mark (d := d + 2) hS hj ?_ 0 (Nat.zero_le _))
                              refine Go.runR (callT_mono MT _) [] 200 hR ?_
                              refine And.intro (fun c44 => ?_) (And.intro (fun c44 => ?_) (And.intro (fun c44 => ?_) (And.intro (fun c44 => ?_) (And.intro (fun c44 => ?_) (trivial)))))
                              · first | exact absurd c44 (by decide) | exact absurd (by decide) c44 | (exfalso; grind)
                              · first | exact absurd c44 (by decide) | exact absurd (by decide) c44 | (exfalso; grind)
                              · first | exact absurd c44 (by decide) | exact absurd (by decide) c44 | (exfalso; grind)
                              · first | exact absurd c44 (by decide) | exact absurd (by decide) c44 | (exfalso; grind)
                              · try dsimp only at c44
                                refine m_M_farOf (by exact hS) rfl hj (And.intro (by repeat' (first | exact hR | exact g1.ok | exact g2.ok | exact g3.ok | apply OKR.pI | apply OKR.pL | apply OKR.cpI | apply OKR.wI)) ?_)
                                refine And.intro trivial ?_
                                exact h _ _ R
                      · first | exact absurd c58 (by decide) | exact absurd (by decide) c58 | (exfalso; grind)
        · refine w_X_mark (Go.runR (callT_mono MT _) [] 200 (by repeat' (first | exact hR | exact g1.ok | exact g2.ok | exact g3.ok | apply OKR.pI | apply OKR.pL | apply OKR.cpI | apply OKR.wI)) ?_)
          refine And.intro ⟨(by first | decide | assumption | omega), (by first | decide | assumption | omega)⟩ ?_
          refine m_St_hasHouse1 (by repeat' (first | exact hR | exact g1.ok | exact g2.ok | exact g3.ok | apply OKR.pI | apply OKR.pL | apply OKR.cpI | apply OKR.wI)) (n := n) q1 h8 hj (And.intro (by repeat' (first | exact hR | exact g1.ok | exact g2.ok | exact g3.ok | apply OKR.pI | apply OKR.pL | apply OKR.cpI | apply OKR.wI)) ?_)
          refine And.intro (fun c4 => ?_) (fun c4 => ?_)
          · first | exact absurd c4 (by decide) | exact absurd (by decide) c4 | (exfalso; grind)
          · try dsimp only at c4
            refine m_X_isWithin (by repeat' (first | exact hR | exact g1.ok | exact g2.ok | exact g3.ok | apply OKR.pI | apply OKR.pL | apply OKR.cpI | apply OKR.wI)) (And.intro (by repeat' (first | exact hR | exact g1.ok | exact g2.ok | exact g3.ok | apply OKR.pI | apply OKR.pL | apply OKR.cpI | apply OKR.wI)) ?_)
            rw [show b2 (kcon 0 ((0, 20, 1) : Id3).2.2 ≤ nI 4 ∧ nI 4 ≤ kcon 0 ((0, 20, 5) : Id3).2.2) = 1 from if_pos q]
            refine And.intro (fun c11 => ?_) (fun c11 => ?_)
            · first | exact absurd c11 (by decide) | exact absurd (by decide) c11 | (exfalso; grind)
            · try dsimp only at c11
              refine And.intro ⟨(by first | decide | assumption | omega), (by first | decide | assumption | omega)⟩ ?_
              refine And.intro ⟨(by first | decide | assumption | omega), (by first | decide | assumption | omega)⟩ ?_
              refine And.intro ⟨(vp_nI (k := j) (N := 8) (by omega) (by decide)), ⟨(by decide), by rw [e0]; omega⟩⟩ ?_
              refine And.intro ⟨(by first | decide | assumption | omega), (by first | decide | assumption | omega)⟩ ?_
              refine m_Ki_isOf (by repeat' (first | exact hR | exact g1.ok | exact g2.ok | exact g3.ok | apply OKR.pI | apply OKR.pL | apply OKR.cpI | apply OKR.wI)) (by rw [ko]; exact hh.1) hh.2.1 rfl (c := 4) (by decide) (by decide) (And.intro (by repeat' (first | exact hR | exact g1.ok | exact g2.ok | exact g3.ok | apply OKR.pI | apply OKR.pL | apply OKR.cpI | apply OKR.wI)) ?_)
              refine And.intro (fun c24 => ?_) (fun c24 => ?_)
              · try dsimp only at c24
                refine m_X_found3 (by repeat' (first | exact hR | exact g1.ok | exact g2.ok | exact g3.ok | apply OKR.pI | apply OKR.pL | apply OKR.cpI | apply OKR.wI))  (And.intro (by repeat' (first | exact hR | exact g1.ok | exact g2.ok | exact g3.ok | apply OKR.pI | apply OKR.pL | apply OKR.cpI | apply OKR.wI)) ?_)
                refine And.intro trivial ?_
                refine w_M_mark (Go.runR (callT_mono MT _) [24] 200 (by repeat' (first | exact hR | exact g1.ok | exact g2.ok | exact g3.ok | apply OKR.pI | apply OKR.pL | apply OKR.cpI | apply OKR.wI)) ?_)
                refine m_M_isHouse1 (by repeat' (first | exact hR | exact g1.ok | exact g2.ok | exact g3.ok | apply OKR.pI | apply OKR.pL | apply OKR.cpI | apply OKR.wI)) (n := n) (by exact q2) h8 hj (And.intro (by repeat' (first | exact hR | exact g1.ok | exact g2.ok | exact g3.ok | apply OKR.pI | apply OKR.pL | apply OKR.cpI | apply OKR.wI)) ?_)
                refine And.intro (fun c3 => ?_) (fun c3 => ?_)
                · first | exact absurd c3 (by decide) | exact absurd (by decide) c3 | (exfalso; grind)
                · try dsimp only at c3
                  refine m_M_in (by repeat' (first | exact hR | exact g1.ok | exact g2.ok | exact g3.ok | apply OKR.pI | apply OKR.pL | apply OKR.cpI | apply OKR.wI)) (And.intro (by repeat' (first | exact hR | exact g1.ok | exact g2.ok | exact g3.ok | apply OKR.pI | apply OKR.pL | apply OKR.cpI | apply OKR.wI)) ?_)
                  rw [show b2 (1 ≤ nI 4 ∧ nI 4 ≤ 5) = 1 from if_pos q]
                  refine And.intro (fun c8 => ?_) (fun c8 => ?_)
                  · first | exact absurd c8 (by decide) | exact absurd (by decide) c8 | (exfalso; grind)
                  · try dsimp only at c8
                    refine m_M_isA (by first | exact hS | exact hS.found) rfl hj rfl (c := 4) (by decide) (by decide) (And.intro (by repeat' (first | exact hR | exact g1.ok | exact g2.ok | exact g3.ok | apply OKR.pI | apply OKR.pL | apply OKR.cpI | apply OKR.wI)) ?_)
                    refine And.intro (fun c15 => ?_) (fun c15 => ?_)
                    · try dsimp only at c15
                      refine m_M_meet3 (by repeat' (first | exact hR | exact g1.ok | exact g2.ok | exact g3.ok | apply OKR.pI | apply OKR.pL | apply OKR.cpI | apply OKR.wI))  (And.intro (by repeat' (first | exact hR | exact g1.ok | exact g2.ok | exact g3.ok | apply OKR.pI | apply OKR.pL | apply OKR.cpI | apply OKR.wI)) ?_)
                      refine And.intro trivial ?_
                      exact h _ _ (R.meet (by omega) (by omega))
                    · exact absurd (if_neg y) c15
              · exact absurd (if_neg y) c24
      · by_cases y : isa (dK D j) 5
        · refine w_X_mark (Go.runR (callT_mono MT _) [] 200 (by repeat' (first | exact hR | exact g1.ok | exact g2.ok | exact g3.ok | apply OKR.pI | apply OKR.pL | apply OKR.cpI | apply OKR.wI)) ?_)
          refine And.intro ⟨(by first | decide | assumption | omega), (by first | decide | assumption | omega)⟩ ?_
          refine m_St_hasHouse1 (by repeat' (first | exact hR | exact g1.ok | exact g2.ok | exact g3.ok | apply OKR.pI | apply OKR.pL | apply OKR.cpI | apply OKR.wI)) (n := n) q1 h8 hj (And.intro (by repeat' (first | exact hR | exact g1.ok | exact g2.ok | exact g3.ok | apply OKR.pI | apply OKR.pL | apply OKR.cpI | apply OKR.wI)) ?_)
          refine And.intro (fun c4 => ?_) (fun c4 => ?_)
          · first | exact absurd c4 (by decide) | exact absurd (by decide) c4 | (exfalso; grind)
          · try dsimp only at c4
            refine m_X_isWithin (by repeat' (first | exact hR | exact g1.ok | exact g2.ok | exact g3.ok | apply OKR.pI | apply OKR.pL | apply OKR.cpI | apply OKR.wI)) (And.intro (by repeat' (first | exact hR | exact g1.ok | exact g2.ok | exact g3.ok | apply OKR.pI | apply OKR.pL | apply OKR.cpI | apply OKR.wI)) ?_)
            rw [show b2 (kcon 0 ((0, 20, 1) : Id3).2.2 ≤ nI 5 ∧ nI 5 ≤ kcon 0 ((0, 20, 5) : Id3).2.2) = 1 from if_pos q]
            refine And.intro (fun c11 => ?_) (fun c11 => ?_)
            · first | exact absurd c11 (by decide) | exact absurd (by decide) c11 | (exfalso; grind)
            · try dsimp only at c11
              refine And.intro ⟨(by first | decide | assumption | omega), (by first | decide | assumption | omega)⟩ ?_
              refine And.intro ⟨(by first | decide | assumption | omega), (by first | decide | assumption | omega)⟩ ?_
              refine And.intro ⟨(vp_nI (k := j) (N := 8) (by omega) (by decide)), ⟨(by decide), by rw [e0]; omega⟩⟩ ?_
              refine And.intro ⟨(by first | decide | assumption | omega), (by first | decide | assumption | omega)⟩ ?_
              refine m_Ki_isOf (by repeat' (first | exact hR | exact g1.ok | exact g2.ok | exact g3.ok | apply OKR.pI | apply OKR.pL | apply OKR.cpI | apply OKR.wI)) (by rw [ko]; exact hh.1) hh.2.1 rfl (c := 5) (by decide) (by decide) (And.intro (by repeat' (first | exact hR | exact g1.ok | exact g2.ok | exact g3.ok | apply OKR.pI | apply OKR.pL | apply OKR.cpI | apply OKR.wI)) ?_)
              refine And.intro (fun c24 => ?_) (fun c24 => ?_)
              · exact absurd c24 (by rw [if_pos y]; decide)
              · try dsimp only at c24
                refine And.intro (fun c32 => ?_) (fun c32 => ?_)
                · first | exact absurd c32 (by decide) | exact absurd (by decide) c32 | (exfalso; grind)
                · try dsimp only at c32
                  refine And.intro (fun c41 => ?_) (fun c41 => ?_)
                  · first | exact absurd c41 (by decide) | exact absurd (by decide) c41 | (exfalso; grind)
                  · try dsimp only at c41
                    refine And.intro (fun c51 => ?_) (fun c51 => ?_)
                    · first | exact absurd c51 (by decide) | exact absurd (by decide) c51 | (exfalso; grind)
                    · try dsimp only at c51
                      refine And.intro (fun c58 => ?_) (fun c58 => ?_)
                      · first | exact absurd c58 (by decide) | exact absurd (by decide) c58 | (exfalso; grind)
                      · try dsimp only at c58
                        refine And.intro ⟨(by first | decide | assumption | omega), (by first | decide | assumption | omega)⟩ ?_
                        refine m_St_owedBy (by exact hS) rfl hj (And.intro (by repeat' (first | exact hR | exact g1.ok | exact g2.ok | exact g3.ok | apply OKR.pI | apply OKR.pL | apply OKR.cpI | apply OKR.wI)) ?_)
                        refine And.intro trivial ?_
                        refine w_M_mark (Go.runR (callT_mono MT _) [24] 200 (by repeat' (first | exact hR | exact g1.ok | exact g2.ok | exact g3.ok | apply OKR.pI | apply OKR.pL | apply OKR.cpI | apply OKR.wI)) ?_)
                        refine m_M_isHouse1 (by repeat' (first | exact hR | exact g1.ok | exact g2.ok | exact g3.ok | apply OKR.pI | apply OKR.pL | apply OKR.cpI | apply OKR.wI)) (n := n) (by exact q2) h8 hj (And.intro (by repeat' (first | exact hR | exact g1.ok | exact g2.ok | exact g3.ok | apply OKR.pI | apply OKR.pL | apply OKR.cpI | apply OKR.wI)) ?_)
                        refine And.intro (fun c3 => ?_) (fun c3 => ?_)
                        · first | exact absurd c3 (by decide) | exact absurd (by decide) c3 | (exfalso; grind)
                        · try dsimp only at c3
                          refine m_M_in (by repeat' (first | exact hR | exact g1.ok | exact g2.ok | exact g3.ok | apply OKR.pI | apply OKR.pL | apply OKR.cpI | apply OKR.wI)) (And.intro (by repeat' (first | exact hR | exact g1.ok | exact g2.ok | exact g3.ok | apply OKR.pI | apply OKR.pL | apply OKR.cpI | apply OKR.wI)) ?_)
                          rw [show b2 (1 ≤ nI 5 ∧ nI 5 ≤ 5) = 1 from if_pos q]
                          refine And.intro (fun c8 => ?_) (fun c8 => ?_)
                          · first | exact absurd c8 (by decide) | exact absurd (by decide) c8 | (exfalso; grind)
                          · try dsimp only at c8
                            refine m_M_isA (by first | exact hS | exact hS.found) rfl hj rfl (c := 5) (by decide) (by decide) (And.intro (by repeat' (first | exact hR | exact g1.ok | exact g2.ok | exact g3.ok | apply OKR.pI | apply OKR.pL | apply OKR.cpI | apply OKR.wI)) ?_)
                            refine And.intro (fun c15 => ?_) (fun c15 => ?_)
                            · exact absurd c15 (by rw [if_pos y]; decide)
                            · try dsimp only at c15
                              refine go_eq (ls' := [vo 1 0 0, vi (nI j), vi (nI 5), vi (nI (lsN D j 0)), vi (nI 0)]) rfl rfl (l_M_mark (d := d + 2) hS hj ?_ 0 (Nat.zero_le _))
                              refine Go.runR (callT_mono MT _) [] 200 hR ?_
                              refine And.intro (fun c44 => ?_) (And.intro (fun c44 => ?_) (And.intro (fun c44 => ?_) (And.intro (fun c44 => ?_) (And.intro (fun c44 => ?_) (trivial)))))
                              · try dsimp only at c44
                                refine m_M_owes (by exact hS) rfl hj (And.intro (by repeat' (first | exact hR | exact g1.ok | exact g2.ok | exact g3.ok | apply OKR.pI | apply OKR.pL | apply OKR.cpI | apply OKR.wI)) ?_)
                                refine And.intro trivial ?_
                                exact h _ _ R
                              · first | exact absurd c44 (by decide) | exact absurd (by decide) c44 | (exfalso; grind)
                              · first | exact absurd c44 (by decide) | exact absurd (by decide) c44 | (exfalso; grind)
                              · first | exact absurd c44 (by decide) | exact absurd (by decide) c44 | (exfalso; grind)
                              · first | exact absurd c44 (by decide) | exact absurd (by decide) c44 | (exfalso; grind)
        · refine w_X_mark (Go.runR (callT_mono MT _) [] 200 (by repeat' (first | exact hR | exact g1.ok | exact g2.ok | exact g3.ok | apply OKR.pI | apply OKR.pL | apply OKR.cpI | apply OKR.wI)) ?_)
          refine And.intro ⟨(by first | decide | assumption | omega), (by first | decide | assumption | omega)⟩ ?_
          refine m_St_hasHouse1 (by repeat' (first | exact hR | exact g1.ok | exact g2.ok | exact g3.ok | apply OKR.pI | apply OKR.pL | apply OKR.cpI | apply OKR.wI)) (n := n) q1 h8 hj (And.intro (by repeat' (first | exact hR | exact g1.ok | exact g2.ok | exact g3.ok | apply OKR.pI | apply OKR.pL | apply OKR.cpI | apply OKR.wI)) ?_)
          refine And.intro (fun c4 => ?_) (fun c4 => ?_)
          · first | exact absurd c4 (by decide) | exact absurd (by decide) c4 | (exfalso; grind)
          · try dsimp only at c4
            refine m_X_isWithin (by repeat' (first | exact hR | exact g1.ok | exact g2.ok | exact g3.ok | apply OKR.pI | apply OKR.pL | apply OKR.cpI | apply OKR.wI)) (And.intro (by repeat' (first | exact hR | exact g1.ok | exact g2.ok | exact g3.ok | apply OKR.pI | apply OKR.pL | apply OKR.cpI | apply OKR.wI)) ?_)
            rw [show b2 (kcon 0 ((0, 20, 1) : Id3).2.2 ≤ nI 5 ∧ nI 5 ≤ kcon 0 ((0, 20, 5) : Id3).2.2) = 1 from if_pos q]
            refine And.intro (fun c11 => ?_) (fun c11 => ?_)
            · first | exact absurd c11 (by decide) | exact absurd (by decide) c11 | (exfalso; grind)
            · try dsimp only at c11
              refine And.intro ⟨(by first | decide | assumption | omega), (by first | decide | assumption | omega)⟩ ?_
              refine And.intro ⟨(by first | decide | assumption | omega), (by first | decide | assumption | omega)⟩ ?_
              refine And.intro ⟨(vp_nI (k := j) (N := 8) (by omega) (by decide)), ⟨(by decide), by rw [e0]; omega⟩⟩ ?_
              refine And.intro ⟨(by first | decide | assumption | omega), (by first | decide | assumption | omega)⟩ ?_
              refine m_Ki_isOf (by repeat' (first | exact hR | exact g1.ok | exact g2.ok | exact g3.ok | apply OKR.pI | apply OKR.pL | apply OKR.cpI | apply OKR.wI)) (by rw [ko]; exact hh.1) hh.2.1 rfl (c := 5) (by decide) (by decide) (And.intro (by repeat' (first | exact hR | exact g1.ok | exact g2.ok | exact g3.ok | apply OKR.pI | apply OKR.pL | apply OKR.cpI | apply OKR.wI)) ?_)
              refine And.intro (fun c24 => ?_) (fun c24 => ?_)
              · try dsimp only at c24
                refine m_X_found3 (by repeat' (first | exact hR | exact g1.ok | exact g2.ok | exact g3.ok | apply OKR.pI | apply OKR.pL | apply OKR.cpI | apply OKR.wI))  (And.intro (by repeat' (first | exact hR | exact g1.ok | exact g2.ok | exact g3.ok | apply OKR.pI | apply OKR.pL | apply OKR.cpI | apply OKR.wI)) ?_)
                refine And.intro trivial ?_
                refine w_M_mark (Go.runR (callT_mono MT _) [24] 200 (by repeat' (first | exact hR | exact g1.ok | exact g2.ok | exact g3.ok | apply OKR.pI | apply OKR.pL | apply OKR.cpI | apply OKR.wI)) ?_)
                refine m_M_isHouse1 (by repeat' (first | exact hR | exact g1.ok | exact g2.ok | exact g3.ok | apply OKR.pI | apply OKR.pL | apply OKR.cpI | apply OKR.wI)) (n := n) (by exact q2) h8 hj (And.intro (by repeat' (first | exact hR | exact g1.ok | exact g2.ok | exact g3.ok | apply OKR.pI | apply OKR.pL | apply OKR.cpI | apply OKR.wI)) ?_)
                refine And.intro (fun c3 => ?_) (fun c3 => ?_)
                · first | exact absurd c3 (by decide) | exact absurd (by decide) c3 | (exfalso; grind)
                · try dsimp only at c3
                  refine m_M_in (by repeat' (first | exact hR | exact g1.ok | exact g2.ok | exact g3.ok | apply OKR.pI | apply OKR.pL | apply OKR.cpI | apply OKR.wI)) (And.intro (by repeat' (first | exact hR | exact g1.ok | exact g2.ok | exact g3.ok | apply OKR.pI | apply OKR.pL | apply OKR.cpI | apply OKR.wI)) ?_)
                  rw [show b2 (1 ≤ nI 5 ∧ nI 5 ≤ 5) = 1 from if_pos q]
                  refine And.intro (fun c8 => ?_) (fun c8 => ?_)
                  · first | exact absurd c8 (by decide) | exact absurd (by decide) c8 | (exfalso; grind)
                  · try dsimp only at c8
                    refine m_M_isA (by first | exact hS | exact hS.found) rfl hj rfl (c := 5) (by decide) (by decide) (And.intro (by repeat' (first | exact hR | exact g1.ok | exact g2.ok | exact g3.ok | apply OKR.pI | apply OKR.pL | apply OKR.cpI | apply OKR.wI)) ?_)
                    refine And.intro (fun c15 => ?_) (fun c15 => ?_)
                    · try dsimp only at c15
                      refine m_M_meet3 (by repeat' (first | exact hR | exact g1.ok | exact g2.ok | exact g3.ok | apply OKR.pI | apply OKR.pL | apply OKR.cpI | apply OKR.wI))  (And.intro (by repeat' (first | exact hR | exact g1.ok | exact g2.ok | exact g3.ok | apply OKR.pI | apply OKR.pL | apply OKR.cpI | apply OKR.wI)) ?_)
                      refine And.intro trivial ?_
                      exact h _ _ (R.meet (by omega) (by omega))
                    · exact absurd (if_neg y) c15
              · exact absurd (if_neg y) c24
    · refine w_X_mark (Go.runR (callT_mono MT _) [] 200 (by repeat' (first | exact hR | exact g1.ok | exact g2.ok | exact g3.ok | apply OKR.pI | apply OKR.pL | apply OKR.cpI | apply OKR.wI)) ?_)
      refine And.intro ⟨(by first | decide | assumption | omega), (by first | decide | assumption | omega)⟩ ?_
      refine m_St_hasHouse1 (by repeat' (first | exact hR | exact g1.ok | exact g2.ok | exact g3.ok | apply OKR.pI | apply OKR.pL | apply OKR.cpI | apply OKR.wI)) (n := n) q1 h8 hj (And.intro (by repeat' (first | exact hR | exact g1.ok | exact g2.ok | exact g3.ok | apply OKR.pI | apply OKR.pL | apply OKR.cpI | apply OKR.wI)) ?_)
      refine And.intro (fun c4 => ?_) (fun c4 => ?_)
      · first | exact absurd c4 (by decide) | exact absurd (by decide) c4 | (exfalso; grind)
      · try dsimp only at c4
        refine m_X_isWithin (by repeat' (first | exact hR | exact g1.ok | exact g2.ok | exact g3.ok | apply OKR.pI | apply OKR.pL | apply OKR.cpI | apply OKR.wI)) (And.intro (by repeat' (first | exact hR | exact g1.ok | exact g2.ok | exact g3.ok | apply OKR.pI | apply OKR.pL | apply OKR.cpI | apply OKR.wI)) ?_)
        rw [show b2 (kcon 0 ((0, 20, 1) : Id3).2.2 ≤ v ∧ v ≤ kcon 0 ((0, 20, 5) : Id3).2.2) = 0 from if_neg q]
        refine And.intro (fun c11 => ?_) (fun c11 => ?_)
        · try dsimp only at c11
          refine And.intro trivial ?_
          refine w_M_mark (Go.runR (callT_mono MT _) [24] 200 (by repeat' (first | exact hR | exact g1.ok | exact g2.ok | exact g3.ok | apply OKR.pI | apply OKR.pL | apply OKR.cpI | apply OKR.wI)) ?_)
          refine m_M_isHouse1 (by repeat' (first | exact hR | exact g1.ok | exact g2.ok | exact g3.ok | apply OKR.pI | apply OKR.pL | apply OKR.cpI | apply OKR.wI)) (n := n) (by exact q2) h8 hj (And.intro (by repeat' (first | exact hR | exact g1.ok | exact g2.ok | exact g3.ok | apply OKR.pI | apply OKR.pL | apply OKR.cpI | apply OKR.wI)) ?_)
          refine And.intro (fun c3 => ?_) (fun c3 => ?_)
          · first | exact absurd c3 (by decide) | exact absurd (by decide) c3 | (exfalso; grind)
          · try dsimp only at c3
            refine m_M_in (by repeat' (first | exact hR | exact g1.ok | exact g2.ok | exact g3.ok | apply OKR.pI | apply OKR.pL | apply OKR.cpI | apply OKR.wI)) (And.intro (by repeat' (first | exact hR | exact g1.ok | exact g2.ok | exact g3.ok | apply OKR.pI | apply OKR.pL | apply OKR.cpI | apply OKR.wI)) ?_)
            rw [show b2 (1 ≤ v ∧ v ≤ 5) = 0 from if_neg q]
            refine And.intro (fun c8 => ?_) (fun c8 => ?_)
            · try dsimp only at c8
              refine And.intro trivial ?_
              exact h _ _ R
            · first | exact absurd c8 (by decide) | exact absurd (by decide) c8 | (exfalso; grind)
        · first | exact absurd c11 (by decide) | exact absurd (by decide) c11 | (exfalso; grind)

def cnN (p : Nat → Bool) (k : Nat) : Nat := itr (fun i a => a + if p i = true then 1 else 0) 0 k
theorem cns (p : Nat → Bool) (k : Nat) : cnN p (k + 1) = cnN p k + if p k = true then 1 else 0 := rfl
theorem cn_to {p : Nat → Bool} {a : Nat} (h : ∀ i, a ≤ i → p i = false) : ∀ {b : Nat}, a ≤ b → cnN p b = cnN p a
  | 0, z => by rw [show a = 0 by omega]
  | b + 1, z => by
    rcases Nat.lt_or_ge b a with y | y
    · rw [show a = b + 1 by omega]
    · rw [cns, h b y, cn_to h y]; rfl
def cP (n : Nat) (D : SDt) (m : Mem) (w k : Nat) : Bool := match w with
  | 2 => decide (k < n) && decide (isa (dK D k) 2)
  | 3 => decide (k < n) && decide (isa (dK D k) 3)
  | 4 => decide (k < n) && decide (dK D k = 3 ∨ (dK D k = 5 ∧ ow n D k = 0))
  | 5 => decide (k < 3) && !decide (gI m (0, 5, 1 + k) 3 = 0)
  | 6 => decide (k < 6) && !decide (gI m (0, 1, k) 1 = -1)
  | 7 => decide (k < 4) && !decide (gI m (0, 1, 6 + k) 1 = -1)
  | _ => false
def cV (n T : Nat) (D : SDt) (m : Mem) (w : Nat) : Int32 := match w with
  | 0 => nI n
  | 1 => nI T
  | w => nI (cnN (cP n D m w) 8)


theorem l_St_howManyOf2 {d n : Nat} {D : SDt} {m : Mem} {K : Option Vv → Mem → Prop} (hS : SC n D m)  (h : K (some (vi (nI (cnN (cP n D m 2) n)))) m) (k : Nat) (hk : k ≤ n) : Go (cW (d + 1)) i_St_howManyOf (0, 0) K 4 [vo 0 5 0, vi (nI 2), vi (nI (cnN (cP n D m 2) k)), vi (nI k)] [] m 0 0 := by
  have hR := hS.ok
  have h8 := hS.le
  have q1 := hS.nA
  have q2 := hS.nB
  refine Go.runR (callT_mono MT _) [4] 200 hR ?_
  refine And.intro (fun c7 => ?_) (fun c7 => ?_)
  · try dsimp only at c7
    obtain rfl := lq_e c7 q1 rfl hk (by omega)
    refine And.intro trivial ?_
    exact h
  · try dsimp only at c7
    have hk2 := lq_m c7 q1 rfl hk (by omega)
    have e0 : (nI k).toNatClampNeg = k := nI_clamp (by omega)
    have ko : 8 * 0 + (nI k).toNatClampNeg = k := by rw [e0]; omega
    have hh := hS.hs hk2
    have key : ∀ b, b = nI (cnN (cP n D m 2) (k + 1)) → Go (cW (d + 1)) i_St_howManyOf (0, 0) K 4 [vo 0 5 0, vi (nI 2), vi b, vi (nI k + 1)] [] m 0 0 := fun b z => go_eq (by rw [z, ← nI_succ]) rfl (l_St_howManyOf2 hS h (k + 1) hk2)
    rw [cns] at key
    refine And.intro ⟨(by first | decide | assumption | omega), (by first | decide | assumption | omega)⟩ ?_
    refine And.intro ⟨(vp_nI (k := k) (N := 8) (by omega) (by decide)), ⟨(by decide), by rw [e0]; omega⟩⟩ ?_
    refine And.intro ⟨(by first | decide | assumption | omega), (by first | decide | assumption | omega)⟩ ?_
    refine m_Ki_isOf (by repeat' (first | exact hR | apply OKR.pI | apply OKR.pL | apply OKR.cpI | apply OKR.wI)) (by rw [ko]; exact hh.1) hh.2.1 rfl (c := 2) (by decide) (by decide) (And.intro (by repeat' (first | exact hR | apply OKR.pI | apply OKR.pL | apply OKR.cpI | apply OKR.wI)) ?_)
    refine And.intro (fun c16 => ?_) (fun c16 => ?_)
    · try dsimp only at c16
      by_cases y : isa (dK D k) 2
      · first
        | exact key _ (by rw [if_pos (by simp [cP, hk2, y])]; exact nI_1 _)
        | exact absurd c16 (by rw [if_pos y]; decide)
      · first
        | exact key _ (by rw [if_neg (by simp only [cP, hk2, y]; decide)]; exact i_add0 _)
        | exact absurd (if_neg y) c16
    · try dsimp only at c16
      by_cases y : isa (dK D k) 2
      · first
        | exact key _ (by rw [if_pos (by simp [cP, hk2, y])]; exact nI_1 _)
        | exact absurd c16 (by rw [if_pos y]; decide)
      · first
        | exact key _ (by rw [if_neg (by simp only [cP, hk2, y]; decide)]; exact i_add0 _)
        | exact absurd (if_neg y) c16
termination_by n - k
decreasing_by all_goals omega

theorem m_St_howManyOf2 {d n : Nat} {D : SDt} {m : Mem} {K : Option Vv → Mem → Prop} (hS : SC n D m) {v : Int32} (hv : v = nI 2) (h : K (some (vi (nI (cnN (cP n D m 2) n)))) m) : cW (d + 2) n_St_howManyOf [vo 0 5 0, vi v] m K := by
  have hR := hS.ok
  have h8 := hS.le
  have q1 := hS.nA
  have q2 := hS.nB
  subst hv
  refine w_St_howManyOf (Go.runR (callT_mono MT _) [4] 200 hR ?_)
  exact l_St_howManyOf2 hS h 0 (Nat.zero_le _)

theorem l_St_howManyOf3 {d n : Nat} {D : SDt} {m : Mem} {K : Option Vv → Mem → Prop} (hS : SC n D m)  (h : K (some (vi (nI (cnN (cP n D m 3) n)))) m) (k : Nat) (hk : k ≤ n) : Go (cW (d + 1)) i_St_howManyOf (0, 0) K 4 [vo 0 5 0, vi (nI 3), vi (nI (cnN (cP n D m 3) k)), vi (nI k)] [] m 0 0 := by
  have hR := hS.ok
  have h8 := hS.le
  have q1 := hS.nA
  have q2 := hS.nB
  refine Go.runR (callT_mono MT _) [4] 200 hR ?_
  refine And.intro (fun c7 => ?_) (fun c7 => ?_)
  · try dsimp only at c7
    obtain rfl := lq_e c7 q1 rfl hk (by omega)
    refine And.intro trivial ?_
    exact h
  · try dsimp only at c7
    have hk2 := lq_m c7 q1 rfl hk (by omega)
    have e0 : (nI k).toNatClampNeg = k := nI_clamp (by omega)
    have ko : 8 * 0 + (nI k).toNatClampNeg = k := by rw [e0]; omega
    have hh := hS.hs hk2
    have key : ∀ b, b = nI (cnN (cP n D m 3) (k + 1)) → Go (cW (d + 1)) i_St_howManyOf (0, 0) K 4 [vo 0 5 0, vi (nI 3), vi b, vi (nI k + 1)] [] m 0 0 := fun b z => go_eq (by rw [z, ← nI_succ]) rfl (l_St_howManyOf3 hS h (k + 1) hk2)
    rw [cns] at key
    refine And.intro ⟨(by first | decide | assumption | omega), (by first | decide | assumption | omega)⟩ ?_
    refine And.intro ⟨(vp_nI (k := k) (N := 8) (by omega) (by decide)), ⟨(by decide), by rw [e0]; omega⟩⟩ ?_
    refine And.intro ⟨(by first | decide | assumption | omega), (by first | decide | assumption | omega)⟩ ?_
    refine m_Ki_isOf (by repeat' (first | exact hR | apply OKR.pI | apply OKR.pL | apply OKR.cpI | apply OKR.wI)) (by rw [ko]; exact hh.1) hh.2.1 rfl (c := 3) (by decide) (by decide) (And.intro (by repeat' (first | exact hR | apply OKR.pI | apply OKR.pL | apply OKR.cpI | apply OKR.wI)) ?_)
    refine And.intro (fun c16 => ?_) (fun c16 => ?_)
    · try dsimp only at c16
      by_cases y : isa (dK D k) 3
      · first
        | exact key _ (by rw [if_pos (by simp [cP, hk2, y])]; exact nI_1 _)
        | exact absurd c16 (by rw [if_pos y]; decide)
      · first
        | exact key _ (by rw [if_neg (by simp only [cP, hk2, y]; decide)]; exact i_add0 _)
        | exact absurd (if_neg y) c16
    · try dsimp only at c16
      by_cases y : isa (dK D k) 3
      · first
        | exact key _ (by rw [if_pos (by simp [cP, hk2, y])]; exact nI_1 _)
        | exact absurd c16 (by rw [if_pos y]; decide)
      · first
        | exact key _ (by rw [if_neg (by simp only [cP, hk2, y]; decide)]; exact i_add0 _)
        | exact absurd (if_neg y) c16
termination_by n - k
decreasing_by all_goals omega

theorem m_St_howManyOf3 {d n : Nat} {D : SDt} {m : Mem} {K : Option Vv → Mem → Prop} (hS : SC n D m) {v : Int32} (hv : v = nI 3) (h : K (some (vi (nI (cnN (cP n D m 3) n)))) m) : cW (d + 2) n_St_howManyOf [vo 0 5 0, vi v] m K := by
  have hR := hS.ok
  have h8 := hS.le
  have q1 := hS.nA
  have q2 := hS.nB
  subst hv
  refine w_St_howManyOf (Go.runR (callT_mono MT _) [4] 200 hR ?_)
  exact l_St_howManyOf3 hS h 0 (Nat.zero_le _)

theorem l_St_howManyExempt {d n : Nat} {D : SDt} {m : Mem} {K : Option Vv → Mem → Prop} (hS : SC n D m)  (h : K (some (vi (nI (cnN (cP n D m 4) n)))) m) (k : Nat) (hk : k ≤ n) : Go (cW (d + 3)) i_St_howManyExempt (0, 0) K 4 [vo 0 5 0, vi (nI (cnN (cP n D m 4) k)), vi (nI k)] [] m 0 0 := by
  have hR := hS.ok
  have h8 := hS.le
  have q1 := hS.nA
  have q2 := hS.nB
  refine Go.runR (callT_mono MT _) [4] 200 hR ?_
  refine And.intro (fun c7 => ?_) (fun c7 => ?_)
  · try dsimp only at c7
    obtain rfl := lq_e c7 q1 rfl hk (by omega)
    refine And.intro trivial ?_
    exact h
  · try dsimp only at c7
    have hk2 := lq_m c7 q1 rfl hk (by omega)
    have key : ∀ b, b = nI (cnN (cP n D m 4) (k + 1)) → Go (cW (d + 3)) i_St_howManyExempt (0, 0) K 4 [vo 0 5 0, vi b, vi (nI k + 1)] [] m 0 0 := fun b z => go_eq (by rw [z, ← nI_succ]) rfl (l_St_howManyExempt hS h (k + 1) hk2)
    rw [cns] at key
    refine m_St_isExempt (by exact hS) (i := k) rfl hk2 (And.intro (by repeat' (first | exact hR | apply OKR.pI | apply OKR.pL | apply OKR.cpI | apply OKR.wI)) ?_)
    refine And.intro (fun c12 => ?_) (fun c12 => ?_)
    · try dsimp only at c12
      by_cases y : dK D k = 3 ∨ (dK D k = 5 ∧ ow n D k = 0)
      · first
        | exact key _ (by rw [if_pos (by simp [cP, hk2, y])]; exact nI_1 _)
        | exact absurd c12 (by rw [if_pos y]; decide)
      · first
        | exact key _ (by rw [if_neg (by simp only [cP, hk2, y]; decide)]; exact i_add0 _)
        | exact absurd (if_neg y) c12
    · try dsimp only at c12
      by_cases y : dK D k = 3 ∨ (dK D k = 5 ∧ ow n D k = 0)
      · first
        | exact key _ (by rw [if_pos (by simp [cP, hk2, y])]; exact nI_1 _)
        | exact absurd c12 (by rw [if_pos y]; decide)
      · first
        | exact key _ (by rw [if_neg (by simp only [cP, hk2, y]; decide)]; exact i_add0 _)
        | exact absurd (if_neg y) c12
termination_by n - k
decreasing_by all_goals omega

theorem m_St_howManyExempt {d n : Nat} {D : SDt} {m : Mem} {K : Option Vv → Mem → Prop} (hS : SC n D m)  (h : K (some (vi (nI (cnN (cP n D m 4) n)))) m) : cW (d + 4) n_St_howManyExempt [vo 0 5 0] m K := by
  have hR := hS.ok
  have h8 := hS.le
  have q1 := hS.nA
  have q2 := hS.nB
  refine w_St_howManyExempt (Go.runR (callT_mono MT _) [4] 200 hR ?_)
  exact l_St_howManyExempt hS h 0 (Nat.zero_le _)

theorem m_X_isMissing {d : Nat} {m : Mem} {K : Option Vv → Mem → Prop} {s : Nat} (hR : OKR m) (h : K (some (vi (if gI m (0, 5, s) 3 = 0 then 1 else 0))) m) : cW (d + 1) n_X_isMissing [vo 0 5 s] m K := by
  refine w_X_isMissing (Go.runR (callT_mono MT _) [] 200 hR ?_)
  refine And.intro (fun c2 => ?_) (fun c2 => ?_)
  · try dsimp only at c2
    refine And.intro (by first | exact Or.inl rfl | exact Or.inr rfl | grind) ?_
    exact kvi (by first | exact (if_pos c2).symm | exact (if_neg c2).symm) h
  · try dsimp only at c2
    refine And.intro (by first | exact Or.inl rfl | exact Or.inr rfl | grind) ?_
    exact kvi (by first | exact (if_pos c2).symm | exact (if_neg c2).symm) h

theorem l_X_howManyKept {d n : Nat} {D : SDt} {m : Mem} {K : Option Vv → Mem → Prop} (hR : OKR m) (h : K (some (vi (nI (cnN (cP n D m 5) 3)))) m) (k : Nat) (hk : k ≤ 3) : Go (cW (d + 1)) i_X_howManyKept (0, 0) K 4 [vo 0 0 0, vi (nI (cnN (cP n D m 5) k)), vi (nI k)] [] m 0 0 := by
  refine Go.runR (callT_mono MT _) [4] 200 hR ?_
  refine And.intro ⟨(by first | decide | assumption | omega), (by first | decide | assumption | omega)⟩ ?_
  refine And.intro (fun c8 => ?_) (fun c8 => ?_)
  · try dsimp only at c8
    obtain rfl := lq_e (n := 3) c8 rfl rfl hk (by omega)
    refine And.intro trivial ?_
    exact h
  · try dsimp only at c8
    have hk2 := lq_m (n := 3) c8 rfl rfl hk (by omega)
    have e0 : (nI k).toNatClampNeg = k := nI_clamp (by omega)
    have key : ∀ b, b = nI (cnN (cP n D m 5) (k + 1)) → Go (cW (d + 1)) i_X_howManyKept (0, 0) K 4 [vo 0 0 0, vi b, vi (nI k + 1)] [] m 0 0 := fun b z => go_eq (by rw [z, ← nI_succ]) rfl (l_X_howManyKept hR h (k + 1) hk2)
    rw [cns] at key
    refine And.intro ⟨(by first | decide | assumption | omega), (by first | decide | assumption | omega)⟩ ?_
    refine And.intro ⟨(vp_nI (k := k) (N := 3) (by omega) (by decide)), ⟨(by decide), by rw [e0]; omega⟩⟩ ?_
    rw [e0]
    refine m_X_isMissing (by repeat' (first | exact hR | apply OKR.pI | apply OKR.pL | apply OKR.cpI | apply OKR.wI)) (And.intro (by repeat' (first | exact hR | apply OKR.pI | apply OKR.pL | apply OKR.cpI | apply OKR.wI)) ?_)
    refine And.intro (fun c15 => ?_) (fun c15 => ?_)
    · try dsimp only at c15
      by_cases y : gI m (0, 5, 1 + k) 3 = 0
      · first
        | exact key _ (by rw [if_neg (by simp [cP, y])]; exact i_add0 _)
        | exact absurd c15 (by rw [if_pos y]; decide)
      · first
        | exact key _ (by rw [if_pos (by simp [cP, hk2, y])]; exact nI_1 _)
        | exact absurd (if_neg y) c15
    · try dsimp only at c15
      by_cases y : gI m (0, 5, 1 + k) 3 = 0
      · first
        | exact key _ (by rw [if_neg (by simp [cP, y])]; exact i_add0 _)
        | exact absurd c15 (by rw [if_pos y]; decide)
      · first
        | exact key _ (by rw [if_pos (by simp [cP, hk2, y])]; exact nI_1 _)
        | exact absurd (if_neg y) c15
termination_by 3 - k
decreasing_by all_goals omega

theorem m_X_howManyKept {d n : Nat} {D : SDt} {m : Mem} {K : Option Vv → Mem → Prop} (hR : OKR m) (h : K (some (vi (nI (cnN (cP n D m 5) 3)))) m) : cW (d + 2) n_X_howManyKept [vo 0 0 0] m K := by
  refine w_X_howManyKept (Go.runR (callT_mono MT _) [4] 200 hR ?_)
  exact l_X_howManyKept hR h 0 (Nat.zero_le _)

theorem l_X_howManyThere6 {d n : Nat} {D : SDt} {m : Mem} {K : Option Vv → Mem → Prop} (hR : OKR m) (h : K (some (vi (nI (cnN (cP n D m 6) 6)))) m) (k : Nat) (hk : k ≤ 6) : Go (cW (d + 1)) i_X_howManyThere (0, 0) K 4 [vo 0 3 0, vi (nI (cnN (cP n D m 6) k)), vi (nI k)] [] m 0 0 := by
  refine Go.runR (callT_mono MT _) [4] 200 hR ?_
  refine And.intro (fun c7 => ?_) (fun c7 => ?_)
  · try dsimp only at c7
    obtain rfl := lq_e (n := 6) c7 rfl rfl hk (by omega)
    refine And.intro trivial ?_
    exact h
  · try dsimp only at c7
    have hk2 := lq_m (n := 6) c7 rfl rfl hk (by omega)
    have e0 : (nI k).toNatClampNeg = k := nI_clamp (by omega)
    have key : ∀ b, b = nI (cnN (cP n D m 6) (k + 1)) → Go (cW (d + 1)) i_X_howManyThere (0, 0) K 4 [vo 0 3 0, vi b, vi (nI k + 1)] [] m 0 0 := fun b z => go_eq (by rw [z, ← nI_succ]) rfl (l_X_howManyThere6 hR h (k + 1) hk2)
    rw [cns] at key
    refine And.intro ⟨(vp_nI (k := k) (N := 6) (by omega) (by decide)), ⟨(by decide), by rw [e0]; omega⟩⟩ ?_
    rw [e0]
    refine m_Ce_isMissing (by repeat' (first | exact hR | apply OKR.pI | apply OKR.pL | apply OKR.cpI | apply OKR.wI)) (And.intro (by repeat' (first | exact hR | apply OKR.pI | apply OKR.pL | apply OKR.cpI | apply OKR.wI)) ?_)
    refine And.intro (fun c13 => ?_) (fun c13 => ?_)
    · try dsimp only at c13
      by_cases y : gI m (0, 1, k) 1 = -1
      · first
        | exact key _ (by rw [if_neg (by simp [cP, y])]; exact i_add0 _)
        | exact absurd c13 (by show ¬ b2 (gI m (0, 1, k) 1 = -1) = 0; unfold b2; rw [if_pos y]; decide)
      · first
        | exact key _ (by rw [if_pos (by simp [cP, hk2, y])]; exact nI_1 _)
        | exact absurd (if_neg y) c13
    · try dsimp only at c13
      by_cases y : gI m (0, 1, k) 1 = -1
      · first
        | exact key _ (by rw [if_neg (by simp [cP, y])]; exact i_add0 _)
        | exact absurd c13 (by show ¬ b2 (gI m (0, 1, k) 1 = -1) = 0; unfold b2; rw [if_pos y]; decide)
      · first
        | exact key _ (by rw [if_pos (by simp [cP, hk2, y])]; exact nI_1 _)
        | exact absurd (if_neg y) c13
termination_by 6 - k
decreasing_by all_goals omega

theorem m_X_howManyThere6 {d n : Nat} {D : SDt} {m : Mem} {K : Option Vv → Mem → Prop} (hR : OKR m) (h : K (some (vi (nI (cnN (cP n D m 6) 6)))) m) : cW (d + 2) n_X_howManyThere [vo 0 3 0] m K := by
  refine w_X_howManyThere (Go.runR (callT_mono MT _) [4] 200 hR ?_)
  exact l_X_howManyThere6 hR h 0 (Nat.zero_le _)

theorem l_X_howManyThere7 {d n : Nat} {D : SDt} {m : Mem} {K : Option Vv → Mem → Prop} (hR : OKR m) (h : K (some (vi (nI (cnN (cP n D m 7) 4)))) m) (k : Nat) (hk : k ≤ 4) : Go (cW (d + 1)) i_X_howManyThere (0, 0) K 4 [vo 0 4 0, vi (nI (cnN (cP n D m 7) k)), vi (nI k)] [] m 0 0 := by
  refine Go.runR (callT_mono MT _) [4] 200 hR ?_
  refine And.intro (fun c7 => ?_) (fun c7 => ?_)
  · try dsimp only at c7
    obtain rfl := lq_e (n := 4) c7 rfl rfl hk (by omega)
    refine And.intro trivial ?_
    exact h
  · try dsimp only at c7
    have hk2 := lq_m (n := 4) c7 rfl rfl hk (by omega)
    have e0 : (nI k).toNatClampNeg = k := nI_clamp (by omega)
    have key : ∀ b, b = nI (cnN (cP n D m 7) (k + 1)) → Go (cW (d + 1)) i_X_howManyThere (0, 0) K 4 [vo 0 4 0, vi b, vi (nI k + 1)] [] m 0 0 := fun b z => go_eq (by rw [z, ← nI_succ]) rfl (l_X_howManyThere7 hR h (k + 1) hk2)
    rw [cns] at key
    refine And.intro ⟨(vp_nI (k := k) (N := 4) (by omega) (by decide)), ⟨(by decide), by rw [e0]; omega⟩⟩ ?_
    rw [e0]
    refine m_Ce_isMissing (by repeat' (first | exact hR | apply OKR.pI | apply OKR.pL | apply OKR.cpI | apply OKR.wI)) (And.intro (by repeat' (first | exact hR | apply OKR.pI | apply OKR.pL | apply OKR.cpI | apply OKR.wI)) ?_)
    refine And.intro (fun c13 => ?_) (fun c13 => ?_)
    · try dsimp only at c13
      by_cases y : gI m (0, 1, 6 + k) 1 = -1
      · first
        | exact key _ (by rw [if_neg (by simp [cP, y])]; exact i_add0 _)
        | exact absurd c13 (by show ¬ b2 (gI m (0, 1, 6 + k) 1 = -1) = 0; unfold b2; rw [if_pos y]; decide)
      · first
        | exact key _ (by rw [if_pos (by simp [cP, hk2, y])]; exact nI_1 _)
        | exact absurd (if_neg y) c13
    · try dsimp only at c13
      by_cases y : gI m (0, 1, 6 + k) 1 = -1
      · first
        | exact key _ (by rw [if_neg (by simp [cP, y])]; exact i_add0 _)
        | exact absurd c13 (by show ¬ b2 (gI m (0, 1, 6 + k) 1 = -1) = 0; unfold b2; rw [if_pos y]; decide)
      · first
        | exact key _ (by rw [if_pos (by simp [cP, hk2, y])]; exact nI_1 _)
        | exact absurd (if_neg y) c13
termination_by 4 - k
decreasing_by all_goals omega

theorem m_X_howManyThere7 {d n : Nat} {D : SDt} {m : Mem} {K : Option Vv → Mem → Prop} (hR : OKR m) (h : K (some (vi (nI (cnN (cP n D m 7) 4)))) m) : cW (d + 2) n_X_howManyThere [vo 0 4 0] m K := by
  refine w_X_howManyThere (Go.runR (callT_mono MT _) [4] 200 hR ?_)
  exact l_X_howManyThere7 hR h 0 (Nat.zero_le _)

theorem cP_hi {n : Nat} {D : SDt} {m : Mem} {w a : Nat} (hw : (a = n ∧ (w = 2 ∨ w = 3 ∨ w = 4)) ∨ (a = 3 ∧ w = 5) ∨ (a = 6 ∧ w = 6) ∨ (a = 4 ∧ w = 7)) : ∀ i, a ≤ i → cP n D m w i = false := fun i hi => by
  rcases hw with ⟨rfl, rfl | rfl | rfl⟩ | ⟨rfl, rfl⟩ | ⟨rfl, rfl⟩ | ⟨rfl, rfl⟩ <;> unfold cP <;> simp only [Nat.not_lt.mpr hi, decide_false, Bool.false_and]

theorem m_X_count {d n : Nat} {D : SDt} {m : Mem} {K : Option Vv → Mem → Prop} {T : Nat} (hS : SC n D m) {x : Int32} {w : Nat} (hT : gI m (0, 5, 0) 4 = nI T) (hx : x = nI w) (hw : w < 8) (h : K (some (vi (cV n T D m w))) m) : cW (d + 5) n_X_count [vo 0 0 0, vi x] m K := by
  subst hx
  have hR := hS.ok
  have h8 := hS.le
  have q1 := hS.nA
  obtain rfl | rfl | rfl | rfl | rfl | rfl | rfl | rfl : w = 0 ∨ w = 1 ∨ w = 2 ∨ w = 3 ∨ w = 4 ∨ w = 5 ∨ w = 6 ∨ w = 7 := by omega
  · refine w_X_count (Go.runR (callT_mono MT _) [] 200 hR ?_)
    refine And.intro (fun c1 => ?_) (And.intro (fun c1 => ?_) (And.intro (fun c1 => ?_) (And.intro (fun c1 => ?_) (And.intro (fun c1 => ?_) (And.intro (fun c1 => ?_) (And.intro (fun c1 => ?_) (And.intro (fun c1 => ?_) (And.intro (fun c1 => ?_) (trivial)))))))))
    · first | exact absurd c1 (by decide) | exact absurd (by decide) c1 | (exfalso; grind)
    · try dsimp only at c1
      refine And.intro ⟨(by first | decide | assumption | omega), (by first | decide | assumption | omega)⟩ ?_
      refine And.intro trivial ?_
      exact kvi q1 h
    · first | exact absurd c1 (by decide) | exact absurd (by decide) c1 | (exfalso; grind)
    · first | exact absurd c1 (by decide) | exact absurd (by decide) c1 | (exfalso; grind)
    · first | exact absurd c1 (by decide) | exact absurd (by decide) c1 | (exfalso; grind)
    · first | exact absurd c1 (by decide) | exact absurd (by decide) c1 | (exfalso; grind)
    · first | exact absurd c1 (by decide) | exact absurd (by decide) c1 | (exfalso; grind)
    · first | exact absurd c1 (by decide) | exact absurd (by decide) c1 | (exfalso; grind)
    · first | exact absurd c1 (by decide) | exact absurd (by decide) c1 | (exfalso; grind)
  · refine w_X_count (Go.runR (callT_mono MT _) [] 200 hR ?_)
    refine And.intro (fun c1 => ?_) (And.intro (fun c1 => ?_) (And.intro (fun c1 => ?_) (And.intro (fun c1 => ?_) (And.intro (fun c1 => ?_) (And.intro (fun c1 => ?_) (And.intro (fun c1 => ?_) (And.intro (fun c1 => ?_) (And.intro (fun c1 => ?_) (trivial)))))))))
    · first | exact absurd c1 (by decide) | exact absurd (by decide) c1 | (exfalso; grind)
    · first | exact absurd c1 (by decide) | exact absurd (by decide) c1 | (exfalso; grind)
    · try dsimp only at c1
      refine And.intro ⟨(by first | decide | assumption | omega), (by first | decide | assumption | omega)⟩ ?_
      refine And.intro trivial ?_
      exact kvi hT h
    · first | exact absurd c1 (by decide) | exact absurd (by decide) c1 | (exfalso; grind)
    · first | exact absurd c1 (by decide) | exact absurd (by decide) c1 | (exfalso; grind)
    · first | exact absurd c1 (by decide) | exact absurd (by decide) c1 | (exfalso; grind)
    · first | exact absurd c1 (by decide) | exact absurd (by decide) c1 | (exfalso; grind)
    · first | exact absurd c1 (by decide) | exact absurd (by decide) c1 | (exfalso; grind)
    · first | exact absurd c1 (by decide) | exact absurd (by decide) c1 | (exfalso; grind)
  · refine w_X_count (Go.runR (callT_mono MT _) [] 200 hR ?_)
    refine And.intro (fun c1 => ?_) (And.intro (fun c1 => ?_) (And.intro (fun c1 => ?_) (And.intro (fun c1 => ?_) (And.intro (fun c1 => ?_) (And.intro (fun c1 => ?_) (And.intro (fun c1 => ?_) (And.intro (fun c1 => ?_) (And.intro (fun c1 => ?_) (trivial)))))))))
    · first | exact absurd c1 (by decide) | exact absurd (by decide) c1 | (exfalso; grind)
    · first | exact absurd c1 (by decide) | exact absurd (by decide) c1 | (exfalso; grind)
    · first | exact absurd c1 (by decide) | exact absurd (by decide) c1 | (exfalso; grind)
    · try dsimp only at c1
      refine And.intro ⟨(by first | decide | assumption | omega), (by first | decide | assumption | omega)⟩ ?_
      refine m_St_howManyOf2 (by exact hS) rfl (And.intro (by repeat' (first | exact hR | apply OKR.pI | apply OKR.pL | apply OKR.cpI | apply OKR.wI)) ?_)
      refine And.intro trivial ?_
      exact kvi (by show nI (cnN (cP n D m 2) n) = nI (cnN (cP n D m 2) 8); exact congrArg nI (cn_to (cP_hi (a := n) (by omega)) (by omega)).symm) h
    · first | exact absurd c1 (by decide) | exact absurd (by decide) c1 | (exfalso; grind)
    · first | exact absurd c1 (by decide) | exact absurd (by decide) c1 | (exfalso; grind)
    · first | exact absurd c1 (by decide) | exact absurd (by decide) c1 | (exfalso; grind)
    · first | exact absurd c1 (by decide) | exact absurd (by decide) c1 | (exfalso; grind)
    · first | exact absurd c1 (by decide) | exact absurd (by decide) c1 | (exfalso; grind)
  · refine w_X_count (Go.runR (callT_mono MT _) [] 200 hR ?_)
    refine And.intro (fun c1 => ?_) (And.intro (fun c1 => ?_) (And.intro (fun c1 => ?_) (And.intro (fun c1 => ?_) (And.intro (fun c1 => ?_) (And.intro (fun c1 => ?_) (And.intro (fun c1 => ?_) (And.intro (fun c1 => ?_) (And.intro (fun c1 => ?_) (trivial)))))))))
    · first | exact absurd c1 (by decide) | exact absurd (by decide) c1 | (exfalso; grind)
    · first | exact absurd c1 (by decide) | exact absurd (by decide) c1 | (exfalso; grind)
    · first | exact absurd c1 (by decide) | exact absurd (by decide) c1 | (exfalso; grind)
    · first | exact absurd c1 (by decide) | exact absurd (by decide) c1 | (exfalso; grind)
    · try dsimp only at c1
      refine And.intro ⟨(by first | decide | assumption | omega), (by first | decide | assumption | omega)⟩ ?_
      refine m_St_howManyOf3 (by exact hS) rfl (And.intro (by repeat' (first | exact hR | apply OKR.pI | apply OKR.pL | apply OKR.cpI | apply OKR.wI)) ?_)
      refine And.intro trivial ?_
      exact kvi (by show nI (cnN (cP n D m 3) n) = nI (cnN (cP n D m 3) 8); exact congrArg nI (cn_to (cP_hi (a := n) (by omega)) (by omega)).symm) h
    · first | exact absurd c1 (by decide) | exact absurd (by decide) c1 | (exfalso; grind)
    · first | exact absurd c1 (by decide) | exact absurd (by decide) c1 | (exfalso; grind)
    · first | exact absurd c1 (by decide) | exact absurd (by decide) c1 | (exfalso; grind)
    · first | exact absurd c1 (by decide) | exact absurd (by decide) c1 | (exfalso; grind)
  · refine w_X_count (Go.runR (callT_mono MT _) [] 200 hR ?_)
    refine And.intro (fun c1 => ?_) (And.intro (fun c1 => ?_) (And.intro (fun c1 => ?_) (And.intro (fun c1 => ?_) (And.intro (fun c1 => ?_) (And.intro (fun c1 => ?_) (And.intro (fun c1 => ?_) (And.intro (fun c1 => ?_) (And.intro (fun c1 => ?_) (trivial)))))))))
    · first | exact absurd c1 (by decide) | exact absurd (by decide) c1 | (exfalso; grind)
    · first | exact absurd c1 (by decide) | exact absurd (by decide) c1 | (exfalso; grind)
    · first | exact absurd c1 (by decide) | exact absurd (by decide) c1 | (exfalso; grind)
    · first | exact absurd c1 (by decide) | exact absurd (by decide) c1 | (exfalso; grind)
    · first | exact absurd c1 (by decide) | exact absurd (by decide) c1 | (exfalso; grind)
    · try dsimp only at c1
      refine And.intro ⟨(by first | decide | assumption | omega), (by first | decide | assumption | omega)⟩ ?_
      refine m_St_howManyExempt (by exact hS)  (And.intro (by repeat' (first | exact hR | apply OKR.pI | apply OKR.pL | apply OKR.cpI | apply OKR.wI)) ?_)
      refine And.intro trivial ?_
      exact kvi (by show nI (cnN (cP n D m 4) n) = nI (cnN (cP n D m 4) 8); exact congrArg nI (cn_to (cP_hi (a := n) (by omega)) (by omega)).symm) h
    · first | exact absurd c1 (by decide) | exact absurd (by decide) c1 | (exfalso; grind)
    · first | exact absurd c1 (by decide) | exact absurd (by decide) c1 | (exfalso; grind)
    · first | exact absurd c1 (by decide) | exact absurd (by decide) c1 | (exfalso; grind)
  · refine w_X_count (Go.runR (callT_mono MT _) [] 200 hR ?_)
    refine And.intro (fun c1 => ?_) (And.intro (fun c1 => ?_) (And.intro (fun c1 => ?_) (And.intro (fun c1 => ?_) (And.intro (fun c1 => ?_) (And.intro (fun c1 => ?_) (And.intro (fun c1 => ?_) (And.intro (fun c1 => ?_) (And.intro (fun c1 => ?_) (trivial)))))))))
    · first | exact absurd c1 (by decide) | exact absurd (by decide) c1 | (exfalso; grind)
    · first | exact absurd c1 (by decide) | exact absurd (by decide) c1 | (exfalso; grind)
    · first | exact absurd c1 (by decide) | exact absurd (by decide) c1 | (exfalso; grind)
    · first | exact absurd c1 (by decide) | exact absurd (by decide) c1 | (exfalso; grind)
    · first | exact absurd c1 (by decide) | exact absurd (by decide) c1 | (exfalso; grind)
    · first | exact absurd c1 (by decide) | exact absurd (by decide) c1 | (exfalso; grind)
    · try dsimp only at c1
      refine m_X_howManyKept (n := n) (D := D) (by repeat' (first | exact hR | apply OKR.pI | apply OKR.pL | apply OKR.cpI | apply OKR.wI)) (And.intro (by repeat' (first | exact hR | apply OKR.pI | apply OKR.pL | apply OKR.cpI | apply OKR.wI)) ?_)
      refine And.intro trivial ?_
      exact kvi (by show nI (cnN (cP n D m 5) 3) = nI (cnN (cP n D m 5) 8); exact congrArg nI (cn_to (cP_hi (a := 3) (by omega)) (by omega)).symm) h
    · first | exact absurd c1 (by decide) | exact absurd (by decide) c1 | (exfalso; grind)
    · first | exact absurd c1 (by decide) | exact absurd (by decide) c1 | (exfalso; grind)
  · refine w_X_count (Go.runR (callT_mono MT _) [] 200 hR ?_)
    refine And.intro (fun c1 => ?_) (And.intro (fun c1 => ?_) (And.intro (fun c1 => ?_) (And.intro (fun c1 => ?_) (And.intro (fun c1 => ?_) (And.intro (fun c1 => ?_) (And.intro (fun c1 => ?_) (And.intro (fun c1 => ?_) (And.intro (fun c1 => ?_) (trivial)))))))))
    · first | exact absurd c1 (by decide) | exact absurd (by decide) c1 | (exfalso; grind)
    · first | exact absurd c1 (by decide) | exact absurd (by decide) c1 | (exfalso; grind)
    · first | exact absurd c1 (by decide) | exact absurd (by decide) c1 | (exfalso; grind)
    · first | exact absurd c1 (by decide) | exact absurd (by decide) c1 | (exfalso; grind)
    · first | exact absurd c1 (by decide) | exact absurd (by decide) c1 | (exfalso; grind)
    · first | exact absurd c1 (by decide) | exact absurd (by decide) c1 | (exfalso; grind)
    · first | exact absurd c1 (by decide) | exact absurd (by decide) c1 | (exfalso; grind)
    · try dsimp only at c1
      refine And.intro ⟨(by first | decide | assumption | omega), (by first | decide | assumption | omega)⟩ ?_
      refine m_X_howManyThere6 (n := n) (D := D) (by repeat' (first | exact hR | apply OKR.pI | apply OKR.pL | apply OKR.cpI | apply OKR.wI)) (And.intro (by repeat' (first | exact hR | apply OKR.pI | apply OKR.pL | apply OKR.cpI | apply OKR.wI)) ?_)
      refine And.intro trivial ?_
      exact kvi (by show nI (cnN (cP n D m 6) 6) = nI (cnN (cP n D m 6) 8); exact congrArg nI (cn_to (cP_hi (a := 6) (by omega)) (by omega)).symm) h
    · first | exact absurd c1 (by decide) | exact absurd (by decide) c1 | (exfalso; grind)
  · refine w_X_count (Go.runR (callT_mono MT _) [] 200 hR ?_)
    refine And.intro (fun c1 => ?_) (And.intro (fun c1 => ?_) (And.intro (fun c1 => ?_) (And.intro (fun c1 => ?_) (And.intro (fun c1 => ?_) (And.intro (fun c1 => ?_) (And.intro (fun c1 => ?_) (And.intro (fun c1 => ?_) (And.intro (fun c1 => ?_) (trivial)))))))))
    · first | exact absurd c1 (by decide) | exact absurd (by decide) c1 | (exfalso; grind)
    · first | exact absurd c1 (by decide) | exact absurd (by decide) c1 | (exfalso; grind)
    · first | exact absurd c1 (by decide) | exact absurd (by decide) c1 | (exfalso; grind)
    · first | exact absurd c1 (by decide) | exact absurd (by decide) c1 | (exfalso; grind)
    · first | exact absurd c1 (by decide) | exact absurd (by decide) c1 | (exfalso; grind)
    · first | exact absurd c1 (by decide) | exact absurd (by decide) c1 | (exfalso; grind)
    · first | exact absurd c1 (by decide) | exact absurd (by decide) c1 | (exfalso; grind)
    · first | exact absurd c1 (by decide) | exact absurd (by decide) c1 | (exfalso; grind)
    · try dsimp only at c1
      refine And.intro ⟨(by first | decide | assumption | omega), (by first | decide | assumption | omega)⟩ ?_
      refine m_X_howManyThere7 (n := n) (D := D) (by repeat' (first | exact hR | apply OKR.pI | apply OKR.pL | apply OKR.cpI | apply OKR.wI)) (And.intro (by repeat' (first | exact hR | apply OKR.pI | apply OKR.pL | apply OKR.cpI | apply OKR.wI)) ?_)
      refine And.intro trivial ?_
      exact kvi (by show nI (cnN (cP n D m 7) 4) = nI (cnN (cP n D m 7) 8); exact congrArg nI (cn_to (cP_hi (a := 4) (by omega)) (by omega)).symm) h

