/-! Written by a program (wip/whole/p44.py): tithe, balance, house, due. -/
def tr (D : SDt) (i w : Nat) : Int32 := match w with
  | 0 => nI (dK D i)
  | 1 => nI (dL D i)
  | 2 => nI (dW D i)
  | 3 => nI (sn D i)
  | _ => nI (rp D i)
theorem m9 {k : Nat} (hk : k < 2 ^ 31) : ¬ nI k = -9 := fun e => absurd (nI_pos' hk) (by rw [e]; decide)
theorem kcon0 : ∀ k, k < 6 → kcon 0 k = nI k := by decide +kernel

theorem p_tithe {d : Nat} {m : Mem} {K : Option Vv → Option Vv → Mem → Prop} (R : RelAB m) {i : Int32} (h : ∀ v m', RelAB m' → K v v m') : cW (d + 5) n_X_tithe [vo 0 0 0, vi i] m (fun u m1 => cW (d + 5) n_M_tithe [vo 1 0 0, vi i] m1 (fun w m2 => K u w m2)) := by
  have hR := R.1
  obtain ⟨n, hc⟩ := R.2.2.2.2
  obtain ⟨D, hS⟩ := hc.sc hR
  have ht := R.2.2.2.1
  obtain ⟨q1, q2⟩ := hc.many
  have h8 := hc.le
  rcases RelAB.placeCase (n := n) (by omega) i with q | ⟨j, hj, rfl⟩
  · refine w_X_tithe (Go.runR (callT_mono MT _) [] 200 (by repeat' (first | exact hR | apply OKR.pI | apply OKR.pL | apply OKR.cpI | apply OKR.wI)) ?_)
    refine And.intro ⟨(by first | decide | assumption | omega), (by first | decide | assumption | omega)⟩ ?_
    refine m_St_hasHouse0 (by repeat' (first | exact hR | apply OKR.pI | apply OKR.pL | apply OKR.cpI | apply OKR.wI)) (n := n) q1 q (And.intro (by repeat' (first | exact hR | apply OKR.pI | apply OKR.pL | apply OKR.cpI | apply OKR.wI)) ?_)
    refine And.intro (fun c4 => ?_) (fun c4 => ?_)
    · try dsimp only at c4
      refine And.intro trivial ?_
      refine w_M_tithe (Go.runR (callT_mono MT _) [] 200 (by repeat' (first | exact hR | apply OKR.pI | apply OKR.pL | apply OKR.cpI | apply OKR.wI)) ?_)
      refine m_M_isHouse0 (by repeat' (first | exact hR | apply OKR.pI | apply OKR.pL | apply OKR.cpI | apply OKR.wI)) (n := n) (by exact q2) h8 q (And.intro (by repeat' (first | exact hR | apply OKR.pI | apply OKR.pL | apply OKR.cpI | apply OKR.wI)) ?_)
      refine And.intro (fun c3 => ?_) (fun c3 => ?_)
      · try dsimp only at c3
        refine And.intro trivial ?_
        exact h _ _ R
      · first | exact absurd c3 (by decide) | exact absurd (by decide) c3 | (exfalso; grind)
    · first | exact absurd c4 (by decide) | exact absurd (by decide) c4 | (exfalso; grind)
  · refine w_X_tithe (Go.runR (callT_mono MT _) [] 200 (by repeat' (first | exact hR | apply OKR.pI | apply OKR.pL | apply OKR.cpI | apply OKR.wI)) ?_)
    refine And.intro ⟨(by first | decide | assumption | omega), (by first | decide | assumption | omega)⟩ ?_
    refine m_St_hasHouse1 (by repeat' (first | exact hR | apply OKR.pI | apply OKR.pL | apply OKR.cpI | apply OKR.wI)) (n := n) q1 h8 hj (And.intro (by repeat' (first | exact hR | apply OKR.pI | apply OKR.pL | apply OKR.cpI | apply OKR.wI)) ?_)
    refine And.intro (fun c4 => ?_) (fun c4 => ?_)
    · first | exact absurd c4 (by decide) | exact absurd (by decide) c4 | (exfalso; grind)
    · try dsimp only at c4
      refine And.intro ⟨(by first | decide | assumption | omega), (by first | decide | assumption | omega)⟩ ?_
      refine m_St_titheOf (by exact hS) rfl hj (And.intro (by repeat' (first | exact hR | apply OKR.pI | apply OKR.pL | apply OKR.cpI | apply OKR.wI)) ?_)
      refine m_X_tell (by repeat' (first | exact hR | apply OKR.pI | apply OKR.pL | apply OKR.cpI | apply OKR.wI))  (And.intro (by repeat' (first | exact hR | apply OKR.pI | apply OKR.pL | apply OKR.cpI | apply OKR.wI)) ?_)
      refine And.intro trivial ?_
      refine w_M_tithe (Go.runR (callT_mono MT _) [] 200 (by repeat' (first | exact hR | apply OKR.pI | apply OKR.pL | apply OKR.cpI | apply OKR.wI)) ?_)
      refine m_M_isHouse1 (by repeat' (first | exact hR | apply OKR.pI | apply OKR.pL | apply OKR.cpI | apply OKR.wI)) (n := n) (by exact q2) h8 hj (And.intro (by repeat' (first | exact hR | apply OKR.pI | apply OKR.pL | apply OKR.cpI | apply OKR.wI)) ?_)
      refine And.intro (fun c3 => ?_) (fun c3 => ?_)
      · first | exact absurd c3 (by decide) | exact absurd (by decide) c3 | (exfalso; grind)
      · try dsimp only at c3
        refine m_M_titheOf (by exact hS.tell) rfl hj (And.intro (by repeat' (first | exact hR | apply OKR.pI | apply OKR.pL | apply OKR.cpI | apply OKR.wI)) ?_)
        refine m_M_ask (by repeat' (first | exact hR | apply OKR.pI | apply OKR.pL | apply OKR.cpI | apply OKR.wI))  (And.intro (by repeat' (first | exact hR | apply OKR.pI | apply OKR.pL | apply OKR.cpI | apply OKR.wI)) ?_)
        refine And.intro trivial ?_
        exact h _ _ (R.tell _)

theorem p_balance {d : Nat} {m : Mem} {K : Option Vv → Option Vv → Mem → Prop} (R : RelAB m) {i : Int32} (h : ∀ v m', RelAB m' → K v v m') : cW (d + 5) n_X_balance [vo 0 0 0, vi i] m (fun u m1 => cW (d + 5) n_M_balance [vo 1 0 0, vi i] m1 (fun w m2 => K u w m2)) := by
  have hR := R.1
  obtain ⟨n, hc⟩ := R.2.2.2.2
  obtain ⟨D, hS⟩ := hc.sc hR
  have ht := R.2.2.2.1
  obtain ⟨q1, q2⟩ := hc.many
  have h8 := hc.le
  rcases RelAB.placeCase (n := n) (by omega) i with q | ⟨j, hj, rfl⟩
  · refine w_X_balance (Go.runR (callT_mono MT _) [] 200 (by repeat' (first | exact hR | apply OKR.pI | apply OKR.pL | apply OKR.cpI | apply OKR.wI)) ?_)
    refine And.intro ⟨(by first | decide | assumption | omega), (by first | decide | assumption | omega)⟩ ?_
    refine m_St_hasHouse0 (by repeat' (first | exact hR | apply OKR.pI | apply OKR.pL | apply OKR.cpI | apply OKR.wI)) (n := n) q1 q (And.intro (by repeat' (first | exact hR | apply OKR.pI | apply OKR.pL | apply OKR.cpI | apply OKR.wI)) ?_)
    refine And.intro (fun c4 => ?_) (fun c4 => ?_)
    · try dsimp only at c4
      refine And.intro trivial ?_
      refine w_M_balance (Go.runR (callT_mono MT _) [] 200 (by repeat' (first | exact hR | apply OKR.pI | apply OKR.pL | apply OKR.cpI | apply OKR.wI)) ?_)
      refine m_M_isHouse0 (by repeat' (first | exact hR | apply OKR.pI | apply OKR.pL | apply OKR.cpI | apply OKR.wI)) (n := n) (by exact q2) h8 q (And.intro (by repeat' (first | exact hR | apply OKR.pI | apply OKR.pL | apply OKR.cpI | apply OKR.wI)) ?_)
      refine And.intro (fun c3 => ?_) (fun c3 => ?_)
      · try dsimp only at c3
        refine And.intro trivial ?_
        exact h _ _ R
      · first | exact absurd c3 (by decide) | exact absurd (by decide) c3 | (exfalso; grind)
    · first | exact absurd c4 (by decide) | exact absurd (by decide) c4 | (exfalso; grind)
  · refine w_X_balance (Go.runR (callT_mono MT _) [] 200 (by repeat' (first | exact hR | apply OKR.pI | apply OKR.pL | apply OKR.cpI | apply OKR.wI)) ?_)
    refine And.intro ⟨(by first | decide | assumption | omega), (by first | decide | assumption | omega)⟩ ?_
    refine m_St_hasHouse1 (by repeat' (first | exact hR | apply OKR.pI | apply OKR.pL | apply OKR.cpI | apply OKR.wI)) (n := n) q1 h8 hj (And.intro (by repeat' (first | exact hR | apply OKR.pI | apply OKR.pL | apply OKR.cpI | apply OKR.wI)) ?_)
    refine And.intro (fun c4 => ?_) (fun c4 => ?_)
    · first | exact absurd c4 (by decide) | exact absurd (by decide) c4 | (exfalso; grind)
    · try dsimp only at c4
      refine And.intro ⟨(by first | decide | assumption | omega), (by first | decide | assumption | omega)⟩ ?_
      refine m_St_balanceOf (by exact hS) rfl hj (And.intro (by repeat' (first | exact hR | apply OKR.pI | apply OKR.pL | apply OKR.cpI | apply OKR.wI)) ?_)
      refine m_X_tell (by repeat' (first | exact hR | apply OKR.pI | apply OKR.pL | apply OKR.cpI | apply OKR.wI))  (And.intro (by repeat' (first | exact hR | apply OKR.pI | apply OKR.pL | apply OKR.cpI | apply OKR.wI)) ?_)
      refine And.intro trivial ?_
      refine w_M_balance (Go.runR (callT_mono MT _) [] 200 (by repeat' (first | exact hR | apply OKR.pI | apply OKR.pL | apply OKR.cpI | apply OKR.wI)) ?_)
      refine m_M_isHouse1 (by repeat' (first | exact hR | apply OKR.pI | apply OKR.pL | apply OKR.cpI | apply OKR.wI)) (n := n) (by exact q2) h8 hj (And.intro (by repeat' (first | exact hR | apply OKR.pI | apply OKR.pL | apply OKR.cpI | apply OKR.wI)) ?_)
      refine And.intro (fun c3 => ?_) (fun c3 => ?_)
      · first | exact absurd c3 (by decide) | exact absurd (by decide) c3 | (exfalso; grind)
      · try dsimp only at c3
        refine m_M_balanceOf (by exact hS.tell) rfl hj (And.intro (by repeat' (first | exact hR | apply OKR.pI | apply OKR.pL | apply OKR.cpI | apply OKR.wI)) ?_)
        refine m_M_ask (by repeat' (first | exact hR | apply OKR.pI | apply OKR.pL | apply OKR.cpI | apply OKR.wI))  (And.intro (by repeat' (first | exact hR | apply OKR.pI | apply OKR.pL | apply OKR.cpI | apply OKR.wI)) ?_)
        refine And.intro trivial ?_
        exact h _ _ (R.tell _)

theorem m_St_trait {d n : Nat} {D : SDt} {m : Mem} {K : Option Vv → Mem → Prop} (hS : SC n D m) {v x : Int32} {i w : Nat} (hv : v = nI i) (hi : i < n) (hw : x = nI w) (hw5 : w < 5) (h : K (some (vi (tr D i w))) m) : cW (d + 3) n_St_trait [vo 0 5 0, vi v, vi x] m K := by
  have hR := hS.ok
  have h8 := hS.le
  have q1 := hS.nA
  have q2 := hS.nB
  subst hv; subst hw
  have e0 : (nI i).toNatClampNeg = i := nI_clamp (by omega)
  have ko : 8 * 0 + (nI i).toNatClampNeg = i := by rw [e0]; omega
  have hh := hS.hs hi
  
  obtain rfl | rfl | rfl | rfl | rfl : w = 0 ∨ w = 1 ∨ w = 2 ∨ w = 3 ∨ w = 4 := by omega
  · refine w_St_trait (Go.runR (callT_mono MT _) [] 200 hR ?_)
    refine m_St_hasHouse1 (by repeat' (first | exact hR | apply OKR.pI | apply OKR.pL | apply OKR.cpI | apply OKR.wI)) q1 h8 hi (And.intro (by repeat' (first | exact hR | apply OKR.pI | apply OKR.pL | apply OKR.cpI | apply OKR.wI)) ?_)
    refine And.intro (fun c3 => ?_) (fun c3 => ?_)
    · first | exact absurd c3 (by decide) | exact absurd (by decide) c3 | (exfalso; grind)
    · try dsimp only at c3
      refine And.intro (fun c7 => ?_) (And.intro (fun c7 => ?_) (And.intro (fun c7 => ?_) (And.intro (fun c7 => ?_) (And.intro (fun c7 => ?_) (trivial)))))
      · first | exact absurd c7 (by decide) | exact absurd (by decide) c7 | (exfalso; grind)
      · try dsimp only at c7
        refine And.intro ⟨(by first | decide | assumption | omega), (by first | decide | assumption | omega)⟩ ?_
        refine And.intro ⟨(vp_nI (k := i) (N := 8) (by omega) (by decide)), ⟨(by decide), by rw [e0]; omega⟩⟩ ?_
        refine And.intro ⟨(by first | decide | assumption | omega), (by first | decide | assumption | omega)⟩ ?_
        refine And.intro trivial ?_
        exact kvi (by show kcon 0 (kn m (8 * 0 + (nI i).toNatClampNeg)) = _; rw [ko, hh.1]; exact kcon0 _ hh.2.1) h
      · first | exact absurd c7 (by decide) | exact absurd (by decide) c7 | (exfalso; grind)
      · first | exact absurd c7 (by decide) | exact absurd (by decide) c7 | (exfalso; grind)
      · first | exact absurd c7 (by decide) | exact absurd (by decide) c7 | (exfalso; grind)
  · refine w_St_trait (Go.runR (callT_mono MT _) [] 200 hR ?_)
    refine m_St_hasHouse1 (by repeat' (first | exact hR | apply OKR.pI | apply OKR.pL | apply OKR.cpI | apply OKR.wI)) q1 h8 hi (And.intro (by repeat' (first | exact hR | apply OKR.pI | apply OKR.pL | apply OKR.cpI | apply OKR.wI)) ?_)
    refine And.intro (fun c3 => ?_) (fun c3 => ?_)
    · first | exact absurd c3 (by decide) | exact absurd (by decide) c3 | (exfalso; grind)
    · try dsimp only at c3
      refine And.intro (fun c7 => ?_) (And.intro (fun c7 => ?_) (And.intro (fun c7 => ?_) (And.intro (fun c7 => ?_) (And.intro (fun c7 => ?_) (trivial)))))
      · first | exact absurd c7 (by decide) | exact absurd (by decide) c7 | (exfalso; grind)
      · first | exact absurd c7 (by decide) | exact absurd (by decide) c7 | (exfalso; grind)
      · try dsimp only at c7
        refine And.intro ⟨(by first | decide | assumption | omega), (by first | decide | assumption | omega)⟩ ?_
        refine And.intro ⟨(vp_nI (k := i) (N := 8) (by omega) (by decide)), ⟨(by decide), by rw [e0]; omega⟩⟩ ?_
        refine And.intro trivial ?_
        exact kvi (by show gI m (0, 8, 8 * 0 + (nI i).toNatClampNeg) 1 = _; rw [ko]; exact hh.2.2.2.2.2.1) h
      · first | exact absurd c7 (by decide) | exact absurd (by decide) c7 | (exfalso; grind)
      · first | exact absurd c7 (by decide) | exact absurd (by decide) c7 | (exfalso; grind)
  · refine w_St_trait (Go.runR (callT_mono MT _) [] 200 hR ?_)
    refine m_St_hasHouse1 (by repeat' (first | exact hR | apply OKR.pI | apply OKR.pL | apply OKR.cpI | apply OKR.wI)) q1 h8 hi (And.intro (by repeat' (first | exact hR | apply OKR.pI | apply OKR.pL | apply OKR.cpI | apply OKR.wI)) ?_)
    refine And.intro (fun c3 => ?_) (fun c3 => ?_)
    · first | exact absurd c3 (by decide) | exact absurd (by decide) c3 | (exfalso; grind)
    · try dsimp only at c3
      refine And.intro (fun c7 => ?_) (And.intro (fun c7 => ?_) (And.intro (fun c7 => ?_) (And.intro (fun c7 => ?_) (And.intro (fun c7 => ?_) (trivial)))))
      · first | exact absurd c7 (by decide) | exact absurd (by decide) c7 | (exfalso; grind)
      · first | exact absurd c7 (by decide) | exact absurd (by decide) c7 | (exfalso; grind)
      · first | exact absurd c7 (by decide) | exact absurd (by decide) c7 | (exfalso; grind)
      · try dsimp only at c7
        refine And.intro ⟨(by first | decide | assumption | omega), (by first | decide | assumption | omega)⟩ ?_
        refine And.intro ⟨(vp_nI (k := i) (N := 8) (by omega) (by decide)), ⟨(by decide), by rw [e0]; omega⟩⟩ ?_
        refine And.intro trivial ?_
        exact kvi (by show gI m (0, 8, 8 * 0 + (nI i).toNatClampNeg) 2 = _; rw [ko]; exact hh.2.2.2.2.2.2.1) h
      · first | exact absurd c7 (by decide) | exact absurd (by decide) c7 | (exfalso; grind)
  · refine w_St_trait (Go.runR (callT_mono MT _) [] 200 hR ?_)
    refine m_St_hasHouse1 (by repeat' (first | exact hR | apply OKR.pI | apply OKR.pL | apply OKR.cpI | apply OKR.wI)) q1 h8 hi (And.intro (by repeat' (first | exact hR | apply OKR.pI | apply OKR.pL | apply OKR.cpI | apply OKR.wI)) ?_)
    refine And.intro (fun c3 => ?_) (fun c3 => ?_)
    · first | exact absurd c3 (by decide) | exact absurd (by decide) c3 | (exfalso; grind)
    · try dsimp only at c3
      refine And.intro (fun c7 => ?_) (And.intro (fun c7 => ?_) (And.intro (fun c7 => ?_) (And.intro (fun c7 => ?_) (And.intro (fun c7 => ?_) (trivial)))))
      · first | exact absurd c7 (by decide) | exact absurd (by decide) c7 | (exfalso; grind)
      · first | exact absurd c7 (by decide) | exact absurd (by decide) c7 | (exfalso; grind)
      · first | exact absurd c7 (by decide) | exact absurd (by decide) c7 | (exfalso; grind)
      · first | exact absurd c7 (by decide) | exact absurd (by decide) c7 | (exfalso; grind)
      · try dsimp only at c7
        refine And.intro ⟨(by first | decide | assumption | omega), (by first | decide | assumption | omega)⟩ ?_
        refine And.intro ⟨(vp_nI (k := i) (N := 8) (by omega) (by decide)), ⟨(by decide), by rw [e0]; omega⟩⟩ ?_
        refine m_Ho_sound (by exact hS) ko hi (And.intro (by repeat' (first | exact hR | apply OKR.pI | apply OKR.pL | apply OKR.cpI | apply OKR.wI)) ?_)
        refine And.intro trivial ?_
        exact h
  · refine w_St_trait (Go.runR (callT_mono MT _) [] 200 hR ?_)
    refine m_St_hasHouse1 (by repeat' (first | exact hR | apply OKR.pI | apply OKR.pL | apply OKR.cpI | apply OKR.wI)) q1 h8 hi (And.intro (by repeat' (first | exact hR | apply OKR.pI | apply OKR.pL | apply OKR.cpI | apply OKR.wI)) ?_)
    refine And.intro (fun c3 => ?_) (fun c3 => ?_)
    · first | exact absurd c3 (by decide) | exact absurd (by decide) c3 | (exfalso; grind)
    · try dsimp only at c3
      refine And.intro (fun c7 => ?_) (And.intro (fun c7 => ?_) (And.intro (fun c7 => ?_) (And.intro (fun c7 => ?_) (And.intro (fun c7 => ?_) (trivial)))))
      · try dsimp only at c7
        refine m_St_ripple (by exact hS) rfl hi (And.intro (by repeat' (first | exact hR | apply OKR.pI | apply OKR.pL | apply OKR.cpI | apply OKR.wI)) ?_)
        refine And.intro trivial ?_
        exact h
      · first | exact absurd c7 (by decide) | exact absurd (by decide) c7 | (exfalso; grind)
      · first | exact absurd c7 (by decide) | exact absurd (by decide) c7 | (exfalso; grind)
      · first | exact absurd c7 (by decide) | exact absurd (by decide) c7 | (exfalso; grind)
      · first | exact absurd c7 (by decide) | exact absurd (by decide) c7 | (exfalso; grind)

theorem m_M_houseOf {d n : Nat} {D : SDt} {m : Mem} {K : Option Vv → Mem → Prop} (hS : SC n D m) {v x : Int32} {i w : Nat} (hv : v = nI i) (hi : i < n) (hw : x = nI w) (hw5 : w < 5) (h : K (some (vi (tr D i w))) m) : cW (d + 3) n_M_houseOf [vo 1 0 0, vi v, vi x] m K := by
  have hR := hS.ok
  have h8 := hS.le
  have q1 := hS.nA
  have q2 := hS.nB
  subst hv; subst hw
  have e0 : (nI i).toNatClampNeg = i := nI_clamp (by omega)
  have ko : 8 * 0 + (nI i).toNatClampNeg = i := by rw [e0]; omega
  have hh := hS.hs hi
  
  obtain rfl | rfl | rfl | rfl | rfl : w = 0 ∨ w = 1 ∨ w = 2 ∨ w = 3 ∨ w = 4 := by omega
  · refine w_M_houseOf (Go.runR (callT_mono MT _) [] 200 hR ?_)
    refine And.intro (fun c1 => ?_) (fun c1 => ?_)
    · try dsimp only at c1
      refine And.intro ⟨rfl, rfl, rfl⟩ ?_
      refine And.intro (vp_nI (k := i) (N := 16) (by omega) (by decide)) ?_
      refine And.intro trivial ?_
      exact kvi (by show gI m (1, 7, 0) (nI i).toNatClampNeg = _; rw [e0]; exact hh.2.2.2.2.2.2.2.2.2.1) h
    · first | exact absurd c1 (by decide) | exact absurd (by decide) c1 | (exfalso; grind)
  · refine w_M_houseOf (Go.runR (callT_mono MT _) [] 200 hR ?_)
    refine And.intro (fun c1 => ?_) (fun c1 => ?_)
    · first | exact absurd c1 (by decide) | exact absurd (by decide) c1 | (exfalso; grind)
    · try dsimp only at c1
      refine And.intro (fun c9 => ?_) (fun c9 => ?_)
      · try dsimp only at c9
        refine And.intro ⟨rfl, rfl, rfl⟩ ?_
        refine And.intro (vp_nI (k := i) (N := 16) (by omega) (by decide)) ?_
        refine And.intro trivial ?_
        exact kvi (by show gI m (1, 8, 0) (nI i).toNatClampNeg = _; rw [e0]; exact hh.2.2.2.2.2.2.2.2.2.2.1) h
      · first | exact absurd c9 (by decide) | exact absurd (by decide) c9 | (exfalso; grind)
  · refine w_M_houseOf (Go.runR (callT_mono MT _) [] 200 hR ?_)
    refine And.intro (fun c1 => ?_) (fun c1 => ?_)
    · first | exact absurd c1 (by decide) | exact absurd (by decide) c1 | (exfalso; grind)
    · try dsimp only at c1
      refine And.intro (fun c9 => ?_) (fun c9 => ?_)
      · first | exact absurd c9 (by decide) | exact absurd (by decide) c9 | (exfalso; grind)
      · try dsimp only at c9
        refine And.intro (fun c17 => ?_) (fun c17 => ?_)
        · try dsimp only at c17
          refine And.intro ⟨rfl, rfl, rfl⟩ ?_
          refine And.intro (vp_nI (k := i) (N := 16) (by omega) (by decide)) ?_
          refine And.intro trivial ?_
          exact kvi (by show gI m (1, 9, 0) (nI i).toNatClampNeg = _; rw [e0]; exact hh.2.2.2.2.2.2.2.2.2.2.2.1) h
        · first | exact absurd c17 (by decide) | exact absurd (by decide) c17 | (exfalso; grind)
  · refine w_M_houseOf (Go.runR (callT_mono MT _) [] 200 hR ?_)
    refine And.intro (fun c1 => ?_) (fun c1 => ?_)
    · first | exact absurd c1 (by decide) | exact absurd (by decide) c1 | (exfalso; grind)
    · try dsimp only at c1
      refine And.intro (fun c9 => ?_) (fun c9 => ?_)
      · first | exact absurd c9 (by decide) | exact absurd (by decide) c9 | (exfalso; grind)
      · try dsimp only at c9
        refine And.intro (fun c17 => ?_) (fun c17 => ?_)
        · first | exact absurd c17 (by decide) | exact absurd (by decide) c17 | (exfalso; grind)
        · try dsimp only at c17
          refine And.intro (fun c25 => ?_) (fun c25 => ?_)
          · try dsimp only at c25
            refine m_M_soundOf (by exact hS) rfl hi (And.intro (by repeat' (first | exact hR | apply OKR.pI | apply OKR.pL | apply OKR.cpI | apply OKR.wI)) ?_)
            refine And.intro trivial ?_
            exact h
          · first | exact absurd c25 (by decide) | exact absurd (by decide) c25 | (exfalso; grind)
  · refine w_M_houseOf (Go.runR (callT_mono MT _) [] 200 hR ?_)
    refine And.intro (fun c1 => ?_) (fun c1 => ?_)
    · first | exact absurd c1 (by decide) | exact absurd (by decide) c1 | (exfalso; grind)
    · try dsimp only at c1
      refine And.intro (fun c9 => ?_) (fun c9 => ?_)
      · first | exact absurd c9 (by decide) | exact absurd (by decide) c9 | (exfalso; grind)
      · try dsimp only at c9
        refine And.intro (fun c17 => ?_) (fun c17 => ?_)
        · first | exact absurd c17 (by decide) | exact absurd (by decide) c17 | (exfalso; grind)
        · try dsimp only at c17
          refine And.intro (fun c25 => ?_) (fun c25 => ?_)
          · first | exact absurd c25 (by decide) | exact absurd (by decide) c25 | (exfalso; grind)
          · try dsimp only at c25
            refine m_M_rippleOf (by exact hS) rfl hi (And.intro (by repeat' (first | exact hR | apply OKR.pI | apply OKR.pL | apply OKR.cpI | apply OKR.wI)) ?_)
            refine And.intro trivial ?_
            exact h

theorem p_house {d : Nat} {m : Mem} {K : Option Vv → Option Vv → Mem → Prop} (R : RelAB m) {i v : Int32} (h : ∀ v m', RelAB m' → K v v m') : cW (d + 4) n_X_house [vo 0 0 0, vi i, vi v] m (fun u m1 => cW (d + 4) n_M_house [vo 1 0 0, vi i, vi v] m1 (fun w m2 => K u w m2)) := by
  have hR := R.1
  obtain ⟨n, hc⟩ := R.2.2.2.2
  obtain ⟨D, hS⟩ := hc.sc hR
  have ht := R.2.2.2.1
  obtain ⟨q1, q2⟩ := hc.many
  have h8 := hc.le
  rcases RelAB.placeCase (n := n) (by omega) i with q | ⟨j, hj, rfl⟩
  · refine w_X_house (Go.runR (callT_mono MT _) [] 200 (by repeat' (first | exact hR | apply OKR.pI | apply OKR.pL | apply OKR.cpI | apply OKR.wI)) ?_)
    refine And.intro ⟨(by first | decide | assumption | omega), (by first | decide | assumption | omega)⟩ ?_
    refine m_St_hasHouse0 (by repeat' (first | exact hR | apply OKR.pI | apply OKR.pL | apply OKR.cpI | apply OKR.wI)) (n := n) q1 q (And.intro (by repeat' (first | exact hR | apply OKR.pI | apply OKR.pL | apply OKR.cpI | apply OKR.wI)) ?_)
    refine And.intro (fun c4 => ?_) (fun c4 => ?_)
    · try dsimp only at c4
      refine And.intro trivial ?_
      refine w_M_house (Go.runR (callT_mono MT _) [] 200 (by repeat' (first | exact hR | apply OKR.pI | apply OKR.pL | apply OKR.cpI | apply OKR.wI)) ?_)
      refine m_M_isHouse0 (by repeat' (first | exact hR | apply OKR.pI | apply OKR.pL | apply OKR.cpI | apply OKR.wI)) (n := n) (by exact q2) h8 q (And.intro (by repeat' (first | exact hR | apply OKR.pI | apply OKR.pL | apply OKR.cpI | apply OKR.wI)) ?_)
      refine And.intro (fun c3 => ?_) (fun c3 => ?_)
      · try dsimp only at c3
        refine And.intro trivial ?_
        exact h _ _ R
      · first | exact absurd c3 (by decide) | exact absurd (by decide) c3 | (exfalso; grind)
    · first | exact absurd c4 (by decide) | exact absurd (by decide) c4 | (exfalso; grind)
  · by_cases q : 0 ≤ v ∧ v ≤ 4
    · obtain ⟨w, hw, rfl⟩ := nI_of2 (x := v) (M := 4) (n := 4) rfl (by grind) q.2
      refine w_X_house (Go.runR (callT_mono MT _) [] 200 (by repeat' (first | exact hR | apply OKR.pI | apply OKR.pL | apply OKR.cpI | apply OKR.wI)) ?_)
      refine And.intro ⟨(by first | decide | assumption | omega), (by first | decide | assumption | omega)⟩ ?_
      refine m_St_hasHouse1 (by repeat' (first | exact hR | apply OKR.pI | apply OKR.pL | apply OKR.cpI | apply OKR.wI)) (n := n) q1 h8 hj (And.intro (by repeat' (first | exact hR | apply OKR.pI | apply OKR.pL | apply OKR.cpI | apply OKR.wI)) ?_)
      refine And.intro (fun c4 => ?_) (fun c4 => ?_)
      · first | exact absurd c4 (by decide) | exact absurd (by decide) c4 | (exfalso; grind)
      · try dsimp only at c4
        refine m_X_isWithin (by repeat' (first | exact hR | apply OKR.pI | apply OKR.pL | apply OKR.cpI | apply OKR.wI)) (And.intro (by repeat' (first | exact hR | apply OKR.pI | apply OKR.pL | apply OKR.cpI | apply OKR.wI)) ?_)
        rw [show b2 (0 ≤ nI w ∧ nI w ≤ 4) = 1 from if_pos q]
        refine And.intro (fun c9 => ?_) (fun c9 => ?_)
        · first | exact absurd c9 (by decide) | exact absurd (by decide) c9 | (exfalso; grind)
        · try dsimp only at c9
          refine And.intro ⟨(by first | decide | assumption | omega), (by first | decide | assumption | omega)⟩ ?_
          refine m_St_trait (by exact hS) rfl hj rfl (by omega) (And.intro (by repeat' (first | exact hR | apply OKR.pI | apply OKR.pL | apply OKR.cpI | apply OKR.wI)) ?_)
          refine m_X_tell (by repeat' (first | exact hR | apply OKR.pI | apply OKR.pL | apply OKR.cpI | apply OKR.wI))  (And.intro (by repeat' (first | exact hR | apply OKR.pI | apply OKR.pL | apply OKR.cpI | apply OKR.wI)) ?_)
          refine And.intro trivial ?_
          refine w_M_house (Go.runR (callT_mono MT _) [] 200 (by repeat' (first | exact hR | apply OKR.pI | apply OKR.pL | apply OKR.cpI | apply OKR.wI)) ?_)
          refine m_M_isHouse1 (by repeat' (first | exact hR | apply OKR.pI | apply OKR.pL | apply OKR.cpI | apply OKR.wI)) (n := n) (by exact q2) h8 hj (And.intro (by repeat' (first | exact hR | apply OKR.pI | apply OKR.pL | apply OKR.cpI | apply OKR.wI)) ?_)
          refine And.intro (fun c3 => ?_) (fun c3 => ?_)
          · first | exact absurd c3 (by decide) | exact absurd (by decide) c3 | (exfalso; grind)
          · try dsimp only at c3
            refine m_M_in (by repeat' (first | exact hR | apply OKR.pI | apply OKR.pL | apply OKR.cpI | apply OKR.wI)) (And.intro (by repeat' (first | exact hR | apply OKR.pI | apply OKR.pL | apply OKR.cpI | apply OKR.wI)) ?_)
            rw [show b2 (0 ≤ nI w ∧ nI w ≤ 4) = 1 from if_pos q]
            refine And.intro (fun c8 => ?_) (fun c8 => ?_)
            · first | exact absurd c8 (by decide) | exact absurd (by decide) c8 | (exfalso; grind)
            · try dsimp only at c8
              refine m_M_houseOf (by exact hS.tell) rfl hj rfl (by omega) (And.intro (by repeat' (first | exact hR | apply OKR.pI | apply OKR.pL | apply OKR.cpI | apply OKR.wI)) ?_)
              refine m_M_ask (by repeat' (first | exact hR | apply OKR.pI | apply OKR.pL | apply OKR.cpI | apply OKR.wI))  (And.intro (by repeat' (first | exact hR | apply OKR.pI | apply OKR.pL | apply OKR.cpI | apply OKR.wI)) ?_)
              refine And.intro trivial ?_
              exact h _ _ (R.tell _)
    · refine w_X_house (Go.runR (callT_mono MT _) [] 200 (by repeat' (first | exact hR | apply OKR.pI | apply OKR.pL | apply OKR.cpI | apply OKR.wI)) ?_)
      refine And.intro ⟨(by first | decide | assumption | omega), (by first | decide | assumption | omega)⟩ ?_
      refine m_St_hasHouse1 (by repeat' (first | exact hR | apply OKR.pI | apply OKR.pL | apply OKR.cpI | apply OKR.wI)) (n := n) q1 h8 hj (And.intro (by repeat' (first | exact hR | apply OKR.pI | apply OKR.pL | apply OKR.cpI | apply OKR.wI)) ?_)
      refine And.intro (fun c4 => ?_) (fun c4 => ?_)
      · first | exact absurd c4 (by decide) | exact absurd (by decide) c4 | (exfalso; grind)
      · try dsimp only at c4
        refine m_X_isWithin (by repeat' (first | exact hR | apply OKR.pI | apply OKR.pL | apply OKR.cpI | apply OKR.wI)) (And.intro (by repeat' (first | exact hR | apply OKR.pI | apply OKR.pL | apply OKR.cpI | apply OKR.wI)) ?_)
        rw [show b2 (0 ≤ v ∧ v ≤ 4) = 0 from if_neg q]
        refine And.intro (fun c9 => ?_) (fun c9 => ?_)
        · try dsimp only at c9
          refine And.intro trivial ?_
          refine w_M_house (Go.runR (callT_mono MT _) [] 200 (by repeat' (first | exact hR | apply OKR.pI | apply OKR.pL | apply OKR.cpI | apply OKR.wI)) ?_)
          refine m_M_isHouse1 (by repeat' (first | exact hR | apply OKR.pI | apply OKR.pL | apply OKR.cpI | apply OKR.wI)) (n := n) (by exact q2) h8 hj (And.intro (by repeat' (first | exact hR | apply OKR.pI | apply OKR.pL | apply OKR.cpI | apply OKR.wI)) ?_)
          refine And.intro (fun c3 => ?_) (fun c3 => ?_)
          · first | exact absurd c3 (by decide) | exact absurd (by decide) c3 | (exfalso; grind)
          · try dsimp only at c3
            refine m_M_in (by repeat' (first | exact hR | apply OKR.pI | apply OKR.pL | apply OKR.cpI | apply OKR.wI)) (And.intro (by repeat' (first | exact hR | apply OKR.pI | apply OKR.pL | apply OKR.cpI | apply OKR.wI)) ?_)
            rw [show b2 (0 ≤ v ∧ v ≤ 4) = 0 from if_neg q]
            refine And.intro (fun c8 => ?_) (fun c8 => ?_)
            · try dsimp only at c8
              refine And.intro trivial ?_
              exact h _ _ R
            · first | exact absurd c8 (by decide) | exact absurd (by decide) c8 | (exfalso; grind)
        · first | exact absurd c9 (by decide) | exact absurd (by decide) c9 | (exfalso; grind)

def dueF (n : Nat) (D : SDt) (k : Nat) (p : Int32 × Int32 × Int32) : Int32 × Int32 × Int32 := (p.1 + (if ti n D k < 0 then 0 else ti n D k), if p.2.1 < ti n D k then ti n D k else p.2.1, if p.2.1 < ti n D k then nI k else p.2.2)
def dueI (n : Nat) (D : SDt) (k : Nat) : Int32 × Int32 × Int32 := itr (dueF n D) (0, 0, -9) k
theorem dueI_s (n : Nat) (D : SDt) (k : Nat) : dueI n D (k + 1) = dueF n D k (dueI n D k) := rfl
theorem dueV (n : Nat) (D : SDt) (hn : n ≤ 8) : ∀ k, k ≤ n → ((dueI n D k).2.2 = -9 ∧ (dueI n D k).2.1 = 0) ∨ ∃ b, b < k ∧ (dueI n D k).2.2 = nI b ∧ (dueI n D k).2.1 = ti n D b ∧ 0 < ti n D b
  | 0, _ => Or.inl ⟨rfl, rfl⟩
  | k + 1, hk => by
    have ih := dueV n D hn k (by omega)
    rw [dueI_s]
    unfold dueF
    dsimp only
    by_cases c : (dueI n D k).2.1 < ti n D k
    · rw [if_pos c, if_pos c]
      refine Or.inr ⟨k, by omega, rfl, rfl, ?_⟩
      rcases ih with q | ⟨b, q1, q2, q3, q4⟩
      · rw [q.2] at c; exact c
      · rw [q3] at c; exact Int32.lt_trans q4 c
    · rw [if_neg c, if_neg c]
      rcases ih with q | ⟨b, q1, q2, q3, q4⟩
      · exact Or.inl q
      · exact Or.inr ⟨b, by omega, q2, q3, q4⟩

theorem l_X_due {d n : Nat} {D : SDt} {m : Mem} {K : Option Vv → Mem → Prop} (hS : SC n D m) {x : Vv} (h : K (some (vi (dueI n D n).1)) (tellM m (dueI n D n).2.2)) (k : Nat) (hk : k ≤ n) : Go (cW (d + 5)) i_X_due (0, 0) K 8 [vo 0 0 0, vi (dueI n D k).1, vi (dueI n D k).2.1, vi (dueI n D k).2.2, vi (nI k), x] [] m 0 0 := by
  have hR := hS.ok
  have h8 := hS.le
  have q1 := hS.nA
  have q2 := hS.nB
  refine Go.runR (callT_mono MT _) [8] 200 hR ?_
  refine And.intro ⟨(by first | decide | assumption | omega), (by first | decide | assumption | omega)⟩ ?_
  refine And.intro (fun c12 => ?_) (fun c12 => ?_)
  · try dsimp only at c12
    obtain rfl := lq_e c12 q1 rfl hk (by omega)
    refine m_X_tell (by repeat' (first | exact hR | apply OKR.pI | apply OKR.pL | apply OKR.cpI | apply OKR.wI))  (And.intro (by repeat' (first | exact hR | apply OKR.pI | apply OKR.pL | apply OKR.cpI | apply OKR.wI)) ?_)
    refine And.intro trivial ?_
    exact h
  · try dsimp only at c12
    have hk2 := lq_m c12 q1 rfl hk (by omega)
    refine And.intro ⟨(by first | decide | assumption | omega), (by first | decide | assumption | omega)⟩ ?_
    refine m_St_titheOf (by exact hS) rfl hk2 (And.intro (by repeat' (first | exact hR | apply OKR.pI | apply OKR.pL | apply OKR.cpI | apply OKR.wI)) ?_)
    refine And.intro (fun c26 => ?_) (fun c26 => ?_)
    · try dsimp only at c26
      refine go_eq (ls' := [vo 0 0 0, vi (dueI n D (k + 1)).1, vi (dueI n D (k + 1)).2.1, vi (dueI n D (k + 1)).2.2, vi (nI (k + 1)), vi (ti n D k)]) (by
      rw [nI_succ, dueI_s]
      unfold dueF
      dsimp only
      first | (rw [if_neg (Int32.not_lt.mpr c26), if_neg (Int32.not_lt.mpr c26)]; rfl) | (rw [if_pos (Int32.not_le.mp c26), if_pos (Int32.not_le.mp c26)]; rfl)) rfl (l_X_due hS h (k + 1) hk2)
    · try dsimp only at c26
      refine go_eq (ls' := [vo 0 0 0, vi (dueI n D (k + 1)).1, vi (dueI n D (k + 1)).2.1, vi (dueI n D (k + 1)).2.2, vi (nI (k + 1)), vi (ti n D k)]) (by
      rw [nI_succ, dueI_s]
      unfold dueF
      dsimp only
      first | (rw [if_neg (Int32.not_lt.mpr c26), if_neg (Int32.not_lt.mpr c26)]; rfl) | (rw [if_pos (Int32.not_le.mp c26), if_pos (Int32.not_le.mp c26)]; rfl)) rfl (l_X_due hS h (k + 1) hk2)
termination_by n - k
decreasing_by all_goals omega

theorem l_M_due {d n : Nat} {D : SDt} {m : Mem} {K : Option Vv → Mem → Prop} (hS : SC n D m) {x : Vv} (h : K (some (vi (dueI n D n).1)) (askM m (dueI n D n).2.2)) (k : Nat) (hk : k ≤ n) : Go (cW (d + 4)) i_M_due (0, 0) K 6 [vo 1 0 0, vi (dueI n D k).1, vi (dueI n D k).2.2, vi (nI k), x] [] m 0 0 := by
  have hR := hS.ok
  have h8 := hS.le
  have q1 := hS.nA
  have q2 := hS.nB
  refine Go.runR (callT_mono MT _) [6] 200 hR ?_
  refine And.intro (fun c9 => ?_) (fun c9 => ?_)
  · try dsimp only at c9
    obtain rfl := lq_e c9 q2 rfl hk (by omega)
    refine m_M_ask (by repeat' (first | exact hR | apply OKR.pI | apply OKR.pL | apply OKR.cpI | apply OKR.wI))  (And.intro (by repeat' (first | exact hR | apply OKR.pI | apply OKR.pL | apply OKR.cpI | apply OKR.wI)) ?_)
    refine And.intro trivial ?_
    exact h
  · try dsimp only at c9
    have hk2 := lq_m c9 q2 rfl hk (by omega)
    have hv := dueV n D h8 k hk
    have key : ∀ b1 b2 : Int32, b1 = (dueI n D (k + 1)).1 → b2 = (dueI n D (k + 1)).2.2 → Go (cW (d + 4)) i_M_due (0, 0) K 6 [vo 1 0 0, vi b1, vi b2, vi (nI k + 1), vi (ti n D k)] [] m 0 0 := fun b1 b2 z1 z2 => by
      subst z1; subst z2
      exact go_eq (by rw [← nI_succ]) rfl (l_M_due hS h (k + 1) hk2)
    rw [dueI_s] at key
    unfold dueF at key
    dsimp only at key
    refine m_M_titheOf (by exact hS) rfl hk2 (And.intro (by repeat' (first | exact hR | apply OKR.pI | apply OKR.pL | apply OKR.cpI | apply OKR.wI)) ?_)
    refine And.intro (fun c16 => ?_) (fun c16 => ?_)
    · try dsimp only at c16
      refine And.intro (fun c23 => ?_) (fun c23 => ?_)
      · try dsimp only at c23
        exact key _ _ (by grind) (by grind)
      · try dsimp only at c23
        refine And.intro (fun c26 => ?_) (fun c26 => ?_)
        · try dsimp only at c26
          obtain ⟨y1, y2⟩ := hv.resolve_right (fun ⟨b, b1, z, _⟩ => absurd (z.symm.trans c26) (m9 (by omega)))
          clear hv
          exact key _ _ (by grind) (by grind)
        · try dsimp only at c26
          obtain ⟨b, hb1, hb2, hb3, hb4⟩ := hv.resolve_left (fun z => c26 z.1)
          clear hv
          refine m_M_titheOf (by exact hS) (by exact hb2) (Nat.lt_trans hb1 hk2) (And.intro (by repeat' (first | exact hR | apply OKR.pI | apply OKR.pL | apply OKR.cpI | apply OKR.wI)) ?_)
          refine And.intro (fun c31 => ?_) (fun c31 => ?_)
          · try dsimp only at c31
            exact key _ _ (by grind) (by grind)
          · try dsimp only at c31
            exact key _ _ (by grind) (by grind)
    · try dsimp only at c16
      refine And.intro (fun c23 => ?_) (fun c23 => ?_)
      · try dsimp only at c23
        exact key _ _ (by grind) (by grind)
      · try dsimp only at c23
        refine And.intro (fun c26 => ?_) (fun c26 => ?_)
        · try dsimp only at c26
          obtain ⟨y1, y2⟩ := hv.resolve_right (fun ⟨b, b1, z, _⟩ => absurd (z.symm.trans c26) (m9 (by omega)))
          clear hv
          exact key _ _ (by grind) (by grind)
        · try dsimp only at c26
          obtain ⟨b, hb1, hb2, hb3, hb4⟩ := hv.resolve_left (fun z => c26 z.1)
          clear hv
          refine m_M_titheOf (by exact hS) (by exact hb2) (Nat.lt_trans hb1 hk2) (And.intro (by repeat' (first | exact hR | apply OKR.pI | apply OKR.pL | apply OKR.cpI | apply OKR.wI)) ?_)
          refine And.intro (fun c31 => ?_) (fun c31 => ?_)
          · try dsimp only at c31
            exact key _ _ (by grind) (by grind)
          · try dsimp only at c31
            exact key _ _ (by grind) (by grind)
termination_by n - k
decreasing_by all_goals omega

theorem p_due {d : Nat} {m : Mem} {K : Option Vv → Option Vv → Mem → Prop} (R : RelAB m) (h : ∀ v m', RelAB m' → K v v m') : cW (d + 6) n_X_due [vo 0 0 0] m (fun u m1 => cW (d + 6) n_M_due [vo 1 0 0] m1 (fun w m2 => K u w m2)) := by
  have hR := R.1
  obtain ⟨n, hc⟩ := R.2.2.2.2
  obtain ⟨D, hS⟩ := hc.sc hR
  have ht := R.2.2.2.1
  obtain ⟨q1, q2⟩ := hc.many
  have h8 := hc.le
  refine w_X_due (Go.runR (callT_mono MT _) [8] 200 (by repeat' (first | exact hR | apply OKR.pI | apply OKR.pL | apply OKR.cpI | apply OKR.wI)) ?_)
  refine l_X_due hS ?_ 0 (by omega)
  refine w_M_due (Go.runR (callT_mono MT _) [6] 200 hR.pI ?_)
  exact l_M_due hS.tell (h _ _ (R.tell _)) 0 (by omega)
