/-! Written by a program (wip/whole/p60.py): count, both sides. -/
def CnR (m0 m : Mem) : Prop := (∀ k, k < 3 → (gI m (1, 13, 0) (580 * k) = -9 ↔ gI m0 (0, 5, 1 + k) 3 = 0)) ∧ (∀ r, r < 6 → (gI m (1, 2, 0) r < 0 ↔ gI m0 (0, 1, r) 1 = -1)) ∧ ∀ t, t < 4 → (gI m (1, 5, 0) t < 0 ↔ gI m0 (0, 1, 6 + t) 1 = -1)
theorem CurR.kept {n : Nat} {m : Mem} (H : CurR n m) {k : Nat} (hk : k < 3) : gI m (1, 13, 0) (580 * k) = -9 ↔ gI m (0, 5, 1 + k) 3 = 0 := by
  obtain ⟨h8, -, h0, h1⟩ := H
  rcases Nat.eq_zero_or_pos n with z | z
  · have := (h0 z).2.2.2.2.2.2.2.2.2 k hk
    exact ⟨fun _ => this.1, fun _ => this.2⟩
  · rcases (h1 z).2.2 k hk with y | ⟨T, a, b, -⟩
    · exact ⟨fun _ => y.1, fun _ => y.2⟩
    · have hT := b.2.2.1
      exact ⟨fun e => absurd (a.symm.trans e) (m9 (by omega)), fun e => absurd (b.1.symm.trans e) (sz0 z (by omega))⟩
theorem RelAB.cnr {m : Mem} (R : RelAB m) : CnR m m := by
  obtain ⟨-, hr, ht, -, n, hc⟩ := R
  refine ⟨fun k hk => hc.kept hk, fun r h => ?_, fun t h => ?_⟩
  · rcases hr r h with ⟨a, b⟩ | ⟨s, s1, a, b, -⟩
    · rw [a, b]; decide
    · rw [a, b]; exact ⟨fun e => absurd e (szneg (by omega)).1, fun e => absurd e (szneg (by omega)).2.2⟩
  · rcases ht t h with ⟨a, b⟩ | ⟨s, s1, a, b, -⟩
    · rw [a, b]; decide
    · rw [a, b]; exact ⟨fun e => absurd e (szneg (by omega)).1, fun e => absurd e (szneg (by omega)).2.2⟩
theorem pk580 (a : Nat) : (580 : Int32) * nI a = nI (580 * a) := by rw [show (580 : Int32) = nI 580 from rfl, pk_mul]

theorem l_M_counts0 {d n T : Nat} {D : SDt} {m0 m : Mem} {K : Option Vv → Mem → Prop} (hS : SC n D m) (hT : gI m (1, 0, 0) 20 = nI T) (hC : CnR m0 m) (h : K (some (vi (cV n T D m0 0))) m) (k : Nat) (hk : k ≤ 8) : Go (cW (d + 3)) i_M_counts (0, 0) K 4 [vo 1 0 0, vi (nI 0), vi (nI (cnN (cP n D m0 0) k)), vi (nI k)] [] m 0 0 := by
  have hR := hS.ok
  have h8 := hS.le
  have q2 := hS.nB
  refine Go.runR (callT_mono MT _) [4] 200 hR ?_
  refine And.intro (fun c6 => ?_) (fun c6 => ?_)
  · try dsimp only at c6
    obtain rfl := lq_e (n := 8) c6 rfl rfl hk (by omega)
    refine And.intro (fun c87 => ?_) (fun c87 => ?_)
    · try dsimp only at c87
      refine And.intro trivial ?_
      exact kvi q2 h
    · first | exact absurd c87 (by decide) | exact absurd (by decide) c87 | (exfalso; grind)
  · try dsimp only at c6
    have hk2 := lq_m (n := 8) c6 rfl rfl hk (by omega)
    have i1 : nI n ≤ nI k ↔ n ≤ k := nI_leI (by omega) (by omega)
    have e0 : (nI k).toNatClampNeg = k := nI_clamp (by omega)
    have key : ∀ b, b = nI (cnN (cP n D m0 0) (k + 1)) → Go (cW (d + 3)) i_M_counts (0, 0) K 4 [vo 1 0 0, vi (nI 0), vi b, vi (nI k + 1)] [] m 0 0 := fun b z => go_eq (by rw [z, ← nI_succ]) rfl (l_M_counts0 hS hT hC h (k + 1) hk2)
    rw [cns] at key
    have pb : cP n D m0 0 k = false := rfl
    refine And.intro (fun c10 => ?_) (fun c10 => ?_)
    · first | exact absurd c10 (by decide) | exact absurd (by decide) c10 | (exfalso; grind)
    · try dsimp only at c10
      refine And.intro (fun c22 => ?_) (fun c22 => ?_)
      · first | exact absurd c22 (by decide) | exact absurd (by decide) c22 | (exfalso; grind)
      · try dsimp only at c22
        refine And.intro (fun c34 => ?_) (fun c34 => ?_)
        · first | exact absurd c34 (by decide) | exact absurd (by decide) c34 | (exfalso; grind)
        · try dsimp only at c34
          refine And.intro (fun c45 => ?_) (fun c45 => ?_)
          · first | exact absurd c45 (by decide) | exact absurd (by decide) c45 | (exfalso; grind)
          · try dsimp only at c45
            refine And.intro (fun c59 => ?_) (fun c59 => ?_)
            · first | exact absurd c59 (by decide) | exact absurd (by decide) c59 | (exfalso; grind)
            · try dsimp only at c59
              refine And.intro (fun c70 => ?_) (fun c70 => ?_)
              · first | exact absurd c70 (by decide) | exact absurd (by decide) c70 | (exfalso; grind)
              · try dsimp only at c70
                first
                | exact key _ (by rw [if_neg (by rw [pb]; decide)]; exact i_add0 _)
                | exact key _ (by rw [if_pos pb]; exact nI_1 _)
termination_by 8 - k
decreasing_by all_goals omega

theorem l_M_counts1 {d n T : Nat} {D : SDt} {m0 m : Mem} {K : Option Vv → Mem → Prop} (hS : SC n D m) (hT : gI m (1, 0, 0) 20 = nI T) (hC : CnR m0 m) (h : K (some (vi (cV n T D m0 1))) m) (k : Nat) (hk : k ≤ 8) : Go (cW (d + 3)) i_M_counts (0, 0) K 4 [vo 1 0 0, vi (nI 1), vi (nI (cnN (cP n D m0 1) k)), vi (nI k)] [] m 0 0 := by
  have hR := hS.ok
  have h8 := hS.le
  have q2 := hS.nB
  refine Go.runR (callT_mono MT _) [4] 200 hR ?_
  refine And.intro (fun c6 => ?_) (fun c6 => ?_)
  · try dsimp only at c6
    obtain rfl := lq_e (n := 8) c6 rfl rfl hk (by omega)
    refine And.intro (fun c87 => ?_) (fun c87 => ?_)
    · first | exact absurd c87 (by decide) | exact absurd (by decide) c87 | (exfalso; grind)
    · try dsimp only at c87
      refine And.intro (fun c93 => ?_) (fun c93 => ?_)
      · try dsimp only at c93
        refine And.intro trivial ?_
        exact kvi hT h
      · first | exact absurd c93 (by decide) | exact absurd (by decide) c93 | (exfalso; grind)
  · try dsimp only at c6
    have hk2 := lq_m (n := 8) c6 rfl rfl hk (by omega)
    have i1 : nI n ≤ nI k ↔ n ≤ k := nI_leI (by omega) (by omega)
    have e0 : (nI k).toNatClampNeg = k := nI_clamp (by omega)
    have key : ∀ b, b = nI (cnN (cP n D m0 1) (k + 1)) → Go (cW (d + 3)) i_M_counts (0, 0) K 4 [vo 1 0 0, vi (nI 1), vi b, vi (nI k + 1)] [] m 0 0 := fun b z => go_eq (by rw [z, ← nI_succ]) rfl (l_M_counts1 hS hT hC h (k + 1) hk2)
    rw [cns] at key
    have pb : cP n D m0 1 k = false := rfl
    refine And.intro (fun c10 => ?_) (fun c10 => ?_)
    · first | exact absurd c10 (by decide) | exact absurd (by decide) c10 | (exfalso; grind)
    · try dsimp only at c10
      refine And.intro (fun c22 => ?_) (fun c22 => ?_)
      · first | exact absurd c22 (by decide) | exact absurd (by decide) c22 | (exfalso; grind)
      · try dsimp only at c22
        refine And.intro (fun c34 => ?_) (fun c34 => ?_)
        · first | exact absurd c34 (by decide) | exact absurd (by decide) c34 | (exfalso; grind)
        · try dsimp only at c34
          refine And.intro (fun c45 => ?_) (fun c45 => ?_)
          · first | exact absurd c45 (by decide) | exact absurd (by decide) c45 | (exfalso; grind)
          · try dsimp only at c45
            refine And.intro (fun c59 => ?_) (fun c59 => ?_)
            · first | exact absurd c59 (by decide) | exact absurd (by decide) c59 | (exfalso; grind)
            · try dsimp only at c59
              refine And.intro (fun c70 => ?_) (fun c70 => ?_)
              · first | exact absurd c70 (by decide) | exact absurd (by decide) c70 | (exfalso; grind)
              · try dsimp only at c70
                first
                | exact key _ (by rw [if_neg (by rw [pb]; decide)]; exact i_add0 _)
                | exact key _ (by rw [if_pos pb]; exact nI_1 _)
termination_by 8 - k
decreasing_by all_goals omega

theorem l_M_counts2 {d n T : Nat} {D : SDt} {m0 m : Mem} {K : Option Vv → Mem → Prop} (hS : SC n D m) (hT : gI m (1, 0, 0) 20 = nI T) (hC : CnR m0 m) (h : K (some (vi (cV n T D m0 2))) m) (k : Nat) (hk : k ≤ 8) : Go (cW (d + 3)) i_M_counts (0, 0) K 4 [vo 1 0 0, vi (nI 2), vi (nI (cnN (cP n D m0 2) k)), vi (nI k)] [] m 0 0 := by
  have hR := hS.ok
  have h8 := hS.le
  have q2 := hS.nB
  refine Go.runR (callT_mono MT _) [4] 200 hR ?_
  refine And.intro (fun c6 => ?_) (fun c6 => ?_)
  · try dsimp only at c6
    obtain rfl := lq_e (n := 8) c6 rfl rfl hk (by omega)
    refine And.intro (fun c87 => ?_) (fun c87 => ?_)
    · first | exact absurd c87 (by decide) | exact absurd (by decide) c87 | (exfalso; grind)
    · try dsimp only at c87
      refine And.intro (fun c93 => ?_) (fun c93 => ?_)
      · first | exact absurd c93 (by decide) | exact absurd (by decide) c93 | (exfalso; grind)
      · try dsimp only at c93
        refine And.intro trivial ?_
        exact h
  · try dsimp only at c6
    have hk2 := lq_m (n := 8) c6 rfl rfl hk (by omega)
    have i1 : nI n ≤ nI k ↔ n ≤ k := nI_leI (by omega) (by omega)
    have e0 : (nI k).toNatClampNeg = k := nI_clamp (by omega)
    have key : ∀ b, b = nI (cnN (cP n D m0 2) (k + 1)) → Go (cW (d + 3)) i_M_counts (0, 0) K 4 [vo 1 0 0, vi (nI 2), vi b, vi (nI k + 1)] [] m 0 0 := fun b z => go_eq (by rw [z, ← nI_succ]) rfl (l_M_counts2 hS hT hC h (k + 1) hk2)
    rw [cns] at key
    refine And.intro (fun c10 => ?_) (fun c10 => ?_)
    · try dsimp only at c10
      refine And.intro (fun c14 => ?_) (fun c14 => ?_)
      · try dsimp only at c14
        rw [q2] at c14
        have hx : ¬ k < n := by have := i1.mp c14; omega
        have pb : cP n D m0 2 k = false := (by show (decide (k < n) && decide (isa (dK D k) 2)) = false; rw [decide_eq_false hx, Bool.false_and])
        refine And.intro (fun c22 => ?_) (fun c22 => ?_)
        · first | exact absurd c22 (by decide) | exact absurd (by decide) c22 | (exfalso; grind)
        · try dsimp only at c22
          refine And.intro (fun c34 => ?_) (fun c34 => ?_)
          · first | exact absurd c34 (by decide) | exact absurd (by decide) c34 | (exfalso; grind)
          · try dsimp only at c34
            refine And.intro (fun c45 => ?_) (fun c45 => ?_)
            · first | exact absurd c45 (by decide) | exact absurd (by decide) c45 | (exfalso; grind)
            · try dsimp only at c45
              refine And.intro (fun c59 => ?_) (fun c59 => ?_)
              · first | exact absurd c59 (by decide) | exact absurd (by decide) c59 | (exfalso; grind)
              · try dsimp only at c59
                refine And.intro (fun c70 => ?_) (fun c70 => ?_)
                · first | exact absurd c70 (by decide) | exact absurd (by decide) c70 | (exfalso; grind)
                · try dsimp only at c70
                  first
                  | exact key _ (by rw [if_neg (by rw [pb]; decide)]; exact i_add0 _)
                  | exact key _ (by rw [if_pos pb]; exact nI_1 _)
      · try dsimp only at c14
        rw [q2] at c14
        have hx : k < n := by have := mt i1.mpr c14; omega
        refine m_M_isA (by exact hS) (i := k) rfl hx rfl (c := 2) (by decide) (by decide) (And.intro (by repeat' (first | exact hR | apply OKR.pI | apply OKR.pL | apply OKR.cpI | apply OKR.wI)) ?_)
        refine And.intro (fun c19 => ?_) (fun c19 => ?_)
        · try dsimp only at c19
          have hy : ¬ (isa (dK D k) 2) := fun y => by rw [if_pos y] at c19; exact absurd c19 (by decide)
          have pb : cP n D m0 2 k = false := (by show (decide (k < n) && decide (isa (dK D k) 2)) = false; rw [decide_eq_false hy, Bool.and_false])
          refine And.intro (fun c22 => ?_) (fun c22 => ?_)
          · first | exact absurd c22 (by decide) | exact absurd (by decide) c22 | (exfalso; grind)
          · try dsimp only at c22
            refine And.intro (fun c34 => ?_) (fun c34 => ?_)
            · first | exact absurd c34 (by decide) | exact absurd (by decide) c34 | (exfalso; grind)
            · try dsimp only at c34
              refine And.intro (fun c45 => ?_) (fun c45 => ?_)
              · first | exact absurd c45 (by decide) | exact absurd (by decide) c45 | (exfalso; grind)
              · try dsimp only at c45
                refine And.intro (fun c59 => ?_) (fun c59 => ?_)
                · first | exact absurd c59 (by decide) | exact absurd (by decide) c59 | (exfalso; grind)
                · try dsimp only at c59
                  refine And.intro (fun c70 => ?_) (fun c70 => ?_)
                  · first | exact absurd c70 (by decide) | exact absurd (by decide) c70 | (exfalso; grind)
                  · try dsimp only at c70
                    first
                    | exact key _ (by rw [if_neg (by rw [pb]; decide)]; exact i_add0 _)
                    | exact key _ (by rw [if_pos pb]; exact nI_1 _)
        · try dsimp only at c19
          have hy : isa (dK D k) 2 := Classical.byContradiction fun y => c19 (if_neg y)
          have pb : cP n D m0 2 k = true := (by show (decide (k < n) && decide (isa (dK D k) 2)) = true; rw [decide_eq_true hx, decide_eq_true hy]; rfl)
          first
          | exact key _ (by rw [if_neg (by rw [pb]; decide)]; exact i_add0 _)
          | exact key _ (by rw [if_pos pb]; exact nI_1 _)
    · first | exact absurd c10 (by decide) | exact absurd (by decide) c10 | (exfalso; grind)
termination_by 8 - k
decreasing_by all_goals omega

theorem l_M_counts3 {d n T : Nat} {D : SDt} {m0 m : Mem} {K : Option Vv → Mem → Prop} (hS : SC n D m) (hT : gI m (1, 0, 0) 20 = nI T) (hC : CnR m0 m) (h : K (some (vi (cV n T D m0 3))) m) (k : Nat) (hk : k ≤ 8) : Go (cW (d + 3)) i_M_counts (0, 0) K 4 [vo 1 0 0, vi (nI 3), vi (nI (cnN (cP n D m0 3) k)), vi (nI k)] [] m 0 0 := by
  have hR := hS.ok
  have h8 := hS.le
  have q2 := hS.nB
  refine Go.runR (callT_mono MT _) [4] 200 hR ?_
  refine And.intro (fun c6 => ?_) (fun c6 => ?_)
  · try dsimp only at c6
    obtain rfl := lq_e (n := 8) c6 rfl rfl hk (by omega)
    refine And.intro (fun c87 => ?_) (fun c87 => ?_)
    · first | exact absurd c87 (by decide) | exact absurd (by decide) c87 | (exfalso; grind)
    · try dsimp only at c87
      refine And.intro (fun c93 => ?_) (fun c93 => ?_)
      · first | exact absurd c93 (by decide) | exact absurd (by decide) c93 | (exfalso; grind)
      · try dsimp only at c93
        refine And.intro trivial ?_
        exact h
  · try dsimp only at c6
    have hk2 := lq_m (n := 8) c6 rfl rfl hk (by omega)
    have i1 : nI n ≤ nI k ↔ n ≤ k := nI_leI (by omega) (by omega)
    have e0 : (nI k).toNatClampNeg = k := nI_clamp (by omega)
    have key : ∀ b, b = nI (cnN (cP n D m0 3) (k + 1)) → Go (cW (d + 3)) i_M_counts (0, 0) K 4 [vo 1 0 0, vi (nI 3), vi b, vi (nI k + 1)] [] m 0 0 := fun b z => go_eq (by rw [z, ← nI_succ]) rfl (l_M_counts3 hS hT hC h (k + 1) hk2)
    rw [cns] at key
    refine And.intro (fun c10 => ?_) (fun c10 => ?_)
    · first | exact absurd c10 (by decide) | exact absurd (by decide) c10 | (exfalso; grind)
    · try dsimp only at c10
      refine And.intro (fun c22 => ?_) (fun c22 => ?_)
      · try dsimp only at c22
        refine And.intro (fun c26 => ?_) (fun c26 => ?_)
        · try dsimp only at c26
          rw [q2] at c26
          have hx : ¬ k < n := by have := i1.mp c26; omega
          have pb : cP n D m0 3 k = false := (by show (decide (k < n) && decide (isa (dK D k) 3)) = false; rw [decide_eq_false hx, Bool.false_and])
          refine And.intro (fun c34 => ?_) (fun c34 => ?_)
          · first | exact absurd c34 (by decide) | exact absurd (by decide) c34 | (exfalso; grind)
          · try dsimp only at c34
            refine And.intro (fun c45 => ?_) (fun c45 => ?_)
            · first | exact absurd c45 (by decide) | exact absurd (by decide) c45 | (exfalso; grind)
            · try dsimp only at c45
              refine And.intro (fun c59 => ?_) (fun c59 => ?_)
              · first | exact absurd c59 (by decide) | exact absurd (by decide) c59 | (exfalso; grind)
              · try dsimp only at c59
                refine And.intro (fun c70 => ?_) (fun c70 => ?_)
                · first | exact absurd c70 (by decide) | exact absurd (by decide) c70 | (exfalso; grind)
                · try dsimp only at c70
                  first
                  | exact key _ (by rw [if_neg (by rw [pb]; decide)]; exact i_add0 _)
                  | exact key _ (by rw [if_pos pb]; exact nI_1 _)
        · try dsimp only at c26
          rw [q2] at c26
          have hx : k < n := by have := mt i1.mpr c26; omega
          refine m_M_isA (by exact hS) (i := k) rfl hx rfl (c := 3) (by decide) (by decide) (And.intro (by repeat' (first | exact hR | apply OKR.pI | apply OKR.pL | apply OKR.cpI | apply OKR.wI)) ?_)
          refine And.intro (fun c31 => ?_) (fun c31 => ?_)
          · try dsimp only at c31
            have hy : ¬ (isa (dK D k) 3) := fun y => by rw [if_pos y] at c31; exact absurd c31 (by decide)
            have pb : cP n D m0 3 k = false := (by show (decide (k < n) && decide (isa (dK D k) 3)) = false; rw [decide_eq_false hy, Bool.and_false])
            refine And.intro (fun c34 => ?_) (fun c34 => ?_)
            · first | exact absurd c34 (by decide) | exact absurd (by decide) c34 | (exfalso; grind)
            · try dsimp only at c34
              refine And.intro (fun c45 => ?_) (fun c45 => ?_)
              · first | exact absurd c45 (by decide) | exact absurd (by decide) c45 | (exfalso; grind)
              · try dsimp only at c45
                refine And.intro (fun c59 => ?_) (fun c59 => ?_)
                · first | exact absurd c59 (by decide) | exact absurd (by decide) c59 | (exfalso; grind)
                · try dsimp only at c59
                  refine And.intro (fun c70 => ?_) (fun c70 => ?_)
                  · first | exact absurd c70 (by decide) | exact absurd (by decide) c70 | (exfalso; grind)
                  · try dsimp only at c70
                    first
                    | exact key _ (by rw [if_neg (by rw [pb]; decide)]; exact i_add0 _)
                    | exact key _ (by rw [if_pos pb]; exact nI_1 _)
          · try dsimp only at c31
            have hy : isa (dK D k) 3 := Classical.byContradiction fun y => c31 (if_neg y)
            have pb : cP n D m0 3 k = true := (by show (decide (k < n) && decide (isa (dK D k) 3)) = true; rw [decide_eq_true hx, decide_eq_true hy]; rfl)
            first
            | exact key _ (by rw [if_neg (by rw [pb]; decide)]; exact i_add0 _)
            | exact key _ (by rw [if_pos pb]; exact nI_1 _)
      · first | exact absurd c22 (by decide) | exact absurd (by decide) c22 | (exfalso; grind)
termination_by 8 - k
decreasing_by all_goals omega

theorem l_M_counts4 {d n T : Nat} {D : SDt} {m0 m : Mem} {K : Option Vv → Mem → Prop} (hS : SC n D m) (hT : gI m (1, 0, 0) 20 = nI T) (hC : CnR m0 m) (h : K (some (vi (cV n T D m0 4))) m) (k : Nat) (hk : k ≤ 8) : Go (cW (d + 3)) i_M_counts (0, 0) K 4 [vo 1 0 0, vi (nI 4), vi (nI (cnN (cP n D m0 4) k)), vi (nI k)] [] m 0 0 := by
  have hR := hS.ok
  have h8 := hS.le
  have q2 := hS.nB
  refine Go.runR (callT_mono MT _) [4] 200 hR ?_
  refine And.intro (fun c6 => ?_) (fun c6 => ?_)
  · try dsimp only at c6
    obtain rfl := lq_e (n := 8) c6 rfl rfl hk (by omega)
    refine And.intro (fun c87 => ?_) (fun c87 => ?_)
    · first | exact absurd c87 (by decide) | exact absurd (by decide) c87 | (exfalso; grind)
    · try dsimp only at c87
      refine And.intro (fun c93 => ?_) (fun c93 => ?_)
      · first | exact absurd c93 (by decide) | exact absurd (by decide) c93 | (exfalso; grind)
      · try dsimp only at c93
        refine And.intro trivial ?_
        exact h
  · try dsimp only at c6
    have hk2 := lq_m (n := 8) c6 rfl rfl hk (by omega)
    have i1 : nI n ≤ nI k ↔ n ≤ k := nI_leI (by omega) (by omega)
    have e0 : (nI k).toNatClampNeg = k := nI_clamp (by omega)
    have key : ∀ b, b = nI (cnN (cP n D m0 4) (k + 1)) → Go (cW (d + 3)) i_M_counts (0, 0) K 4 [vo 1 0 0, vi (nI 4), vi b, vi (nI k + 1)] [] m 0 0 := fun b z => go_eq (by rw [z, ← nI_succ]) rfl (l_M_counts4 hS hT hC h (k + 1) hk2)
    rw [cns] at key
    refine And.intro (fun c10 => ?_) (fun c10 => ?_)
    · first | exact absurd c10 (by decide) | exact absurd (by decide) c10 | (exfalso; grind)
    · try dsimp only at c10
      refine And.intro (fun c22 => ?_) (fun c22 => ?_)
      · first | exact absurd c22 (by decide) | exact absurd (by decide) c22 | (exfalso; grind)
      · try dsimp only at c22
        refine And.intro (fun c34 => ?_) (fun c34 => ?_)
        · try dsimp only at c34
          refine And.intro (fun c38 => ?_) (fun c38 => ?_)
          · try dsimp only at c38
            rw [q2] at c38
            have hx : ¬ k < n := by have := i1.mp c38; omega
            have pb : cP n D m0 4 k = false := (by show (decide (k < n) && decide (dK D k = 3 ∨ (dK D k = 5 ∧ ow n D k = 0))) = false; rw [decide_eq_false hx, Bool.false_and])
            refine And.intro (fun c45 => ?_) (fun c45 => ?_)
            · first | exact absurd c45 (by decide) | exact absurd (by decide) c45 | (exfalso; grind)
            · try dsimp only at c45
              refine And.intro (fun c59 => ?_) (fun c59 => ?_)
              · first | exact absurd c59 (by decide) | exact absurd (by decide) c59 | (exfalso; grind)
              · try dsimp only at c59
                refine And.intro (fun c70 => ?_) (fun c70 => ?_)
                · first | exact absurd c70 (by decide) | exact absurd (by decide) c70 | (exfalso; grind)
                · try dsimp only at c70
                  first
                  | exact key _ (by rw [if_neg (by rw [pb]; decide)]; exact i_add0 _)
                  | exact key _ (by rw [if_pos pb]; exact nI_1 _)
          · try dsimp only at c38
            rw [q2] at c38
            have hx : k < n := by have := mt i1.mpr c38; omega
            refine m_M_isExempt (by exact hS) (i := k) rfl hx (And.intro (by repeat' (first | exact hR | apply OKR.pI | apply OKR.pL | apply OKR.cpI | apply OKR.wI)) ?_)
            refine And.intro (fun c42 => ?_) (fun c42 => ?_)
            · try dsimp only at c42
              have hy : ¬ (dK D k = 3 ∨ (dK D k = 5 ∧ ow n D k = 0)) := fun y => by rw [if_pos y] at c42; exact absurd c42 (by decide)
              have pb : cP n D m0 4 k = false := (by show (decide (k < n) && decide (dK D k = 3 ∨ (dK D k = 5 ∧ ow n D k = 0))) = false; rw [decide_eq_false hy, Bool.and_false])
              refine And.intro (fun c45 => ?_) (fun c45 => ?_)
              · first | exact absurd c45 (by decide) | exact absurd (by decide) c45 | (exfalso; grind)
              · try dsimp only at c45
                refine And.intro (fun c59 => ?_) (fun c59 => ?_)
                · first | exact absurd c59 (by decide) | exact absurd (by decide) c59 | (exfalso; grind)
                · try dsimp only at c59
                  refine And.intro (fun c70 => ?_) (fun c70 => ?_)
                  · first | exact absurd c70 (by decide) | exact absurd (by decide) c70 | (exfalso; grind)
                  · try dsimp only at c70
                    first
                    | exact key _ (by rw [if_neg (by rw [pb]; decide)]; exact i_add0 _)
                    | exact key _ (by rw [if_pos pb]; exact nI_1 _)
            · try dsimp only at c42
              have hy : dK D k = 3 ∨ (dK D k = 5 ∧ ow n D k = 0) := Classical.byContradiction fun y => c42 (if_neg y)
              have pb : cP n D m0 4 k = true := (by show (decide (k < n) && decide (dK D k = 3 ∨ (dK D k = 5 ∧ ow n D k = 0))) = true; rw [decide_eq_true hx, decide_eq_true hy]; rfl)
              first
              | exact key _ (by rw [if_neg (by rw [pb]; decide)]; exact i_add0 _)
              | exact key _ (by rw [if_pos pb]; exact nI_1 _)
        · first | exact absurd c34 (by decide) | exact absurd (by decide) c34 | (exfalso; grind)
termination_by 8 - k
decreasing_by all_goals omega

theorem l_M_counts5 {d n T : Nat} {D : SDt} {m0 m : Mem} {K : Option Vv → Mem → Prop} (hS : SC n D m) (hT : gI m (1, 0, 0) 20 = nI T) (hC : CnR m0 m) (h : K (some (vi (cV n T D m0 5))) m) (k : Nat) (hk : k ≤ 8) : Go (cW (d + 3)) i_M_counts (0, 0) K 4 [vo 1 0 0, vi (nI 5), vi (nI (cnN (cP n D m0 5) k)), vi (nI k)] [] m 0 0 := by
  have hR := hS.ok
  have h8 := hS.le
  have q2 := hS.nB
  refine Go.runR (callT_mono MT _) [4] 200 hR ?_
  refine And.intro (fun c6 => ?_) (fun c6 => ?_)
  · try dsimp only at c6
    obtain rfl := lq_e (n := 8) c6 rfl rfl hk (by omega)
    refine And.intro (fun c87 => ?_) (fun c87 => ?_)
    · first | exact absurd c87 (by decide) | exact absurd (by decide) c87 | (exfalso; grind)
    · try dsimp only at c87
      refine And.intro (fun c93 => ?_) (fun c93 => ?_)
      · first | exact absurd c93 (by decide) | exact absurd (by decide) c93 | (exfalso; grind)
      · try dsimp only at c93
        refine And.intro trivial ?_
        exact h
  · try dsimp only at c6
    have hk2 := lq_m (n := 8) c6 rfl rfl hk (by omega)
    have i1 : nI n ≤ nI k ↔ n ≤ k := nI_leI (by omega) (by omega)
    have e0 : (nI k).toNatClampNeg = k := nI_clamp (by omega)
    have key : ∀ b, b = nI (cnN (cP n D m0 5) (k + 1)) → Go (cW (d + 3)) i_M_counts (0, 0) K 4 [vo 1 0 0, vi (nI 5), vi b, vi (nI k + 1)] [] m 0 0 := fun b z => go_eq (by rw [z, ← nI_succ]) rfl (l_M_counts5 hS hT hC h (k + 1) hk2)
    rw [cns] at key
    refine And.intro (fun c10 => ?_) (fun c10 => ?_)
    · first | exact absurd c10 (by decide) | exact absurd (by decide) c10 | (exfalso; grind)
    · try dsimp only at c10
      refine And.intro (fun c22 => ?_) (fun c22 => ?_)
      · first | exact absurd c22 (by decide) | exact absurd (by decide) c22 | (exfalso; grind)
      · try dsimp only at c22
        refine And.intro (fun c34 => ?_) (fun c34 => ?_)
        · first | exact absurd c34 (by decide) | exact absurd (by decide) c34 | (exfalso; grind)
        · try dsimp only at c34
          refine And.intro (fun c45 => ?_) (fun c45 => ?_)
          · try dsimp only at c45
            refine And.intro (fun c48 => ?_) (fun c48 => ?_)
            · try dsimp only at c48
              have i2 : nI 3 ≤ nI k ↔ 3 ≤ k := nI_leI (by omega) (by omega)
              have hx : ¬ k < 3 := by have := i2.mp c48; omega
              have pb : cP n D m0 5 k = false := (by show (decide (k < 3) && !decide (gI m0 (0, 5, 1 + k) 3 = 0)) = false; rw [decide_eq_false hx, Bool.false_and])
              refine And.intro (fun c59 => ?_) (fun c59 => ?_)
              · first | exact absurd c59 (by decide) | exact absurd (by decide) c59 | (exfalso; grind)
              · try dsimp only at c59
                refine And.intro (fun c70 => ?_) (fun c70 => ?_)
                · first | exact absurd c70 (by decide) | exact absurd (by decide) c70 | (exfalso; grind)
                · try dsimp only at c70
                  first
                  | exact key _ (by rw [if_neg (by rw [pb]; decide)]; exact i_add0 _)
                  | exact key _ (by rw [if_pos pb]; exact nI_1 _)
            · try dsimp only at c48
              have i2 : nI 3 ≤ nI k ↔ 3 ≤ k := nI_leI (by omega) (by omega)
              have hx : k < 3 := by have := mt i2.mpr c48; omega
              refine And.intro ⟨rfl, rfl, rfl⟩ ?_
              refine And.intro (by show vp_in (580 * nI k) 1740; rw [pk580]; exact vp_nI (by omega) (by decide)) ?_
              refine And.intro (fun c56 => ?_) (fun c56 => ?_)
              · try dsimp only at c56
                rw [pk580, nI_clamp (by omega)] at c56
                have hy : gI m0 (0, 5, 1 + k) 3 = 0 := (hC.1 k hx).mp c56
                have pb : cP n D m0 5 k = false := (by show (decide (k < 3) && !decide (gI m0 (0, 5, 1 + k) 3 = 0)) = false; rw [decide_eq_true hx, decide_eq_true hy]; rfl)
                refine And.intro (fun c59 => ?_) (fun c59 => ?_)
                · first | exact absurd c59 (by decide) | exact absurd (by decide) c59 | (exfalso; grind)
                · try dsimp only at c59
                  refine And.intro (fun c70 => ?_) (fun c70 => ?_)
                  · first | exact absurd c70 (by decide) | exact absurd (by decide) c70 | (exfalso; grind)
                  · try dsimp only at c70
                    first
                    | exact key _ (by rw [if_neg (by rw [pb]; decide)]; exact i_add0 _)
                    | exact key _ (by rw [if_pos pb]; exact nI_1 _)
              · try dsimp only at c56
                rw [pk580, nI_clamp (by omega)] at c56
                have hy : ¬ gI m0 (0, 5, 1 + k) 3 = 0 := fun y => c56 ((hC.1 k hx).mpr y)
                have pb : cP n D m0 5 k = true := (by show (decide (k < 3) && !decide (gI m0 (0, 5, 1 + k) 3 = 0)) = true; rw [decide_eq_true hx, decide_eq_false hy]; rfl)
                first
                | exact key _ (by rw [if_neg (by rw [pb]; decide)]; exact i_add0 _)
                | exact key _ (by rw [if_pos pb]; exact nI_1 _)
          · first | exact absurd c45 (by decide) | exact absurd (by decide) c45 | (exfalso; grind)
termination_by 8 - k
decreasing_by all_goals omega

theorem l_M_counts6 {d n T : Nat} {D : SDt} {m0 m : Mem} {K : Option Vv → Mem → Prop} (hS : SC n D m) (hT : gI m (1, 0, 0) 20 = nI T) (hC : CnR m0 m) (h : K (some (vi (cV n T D m0 6))) m) (k : Nat) (hk : k ≤ 8) : Go (cW (d + 3)) i_M_counts (0, 0) K 4 [vo 1 0 0, vi (nI 6), vi (nI (cnN (cP n D m0 6) k)), vi (nI k)] [] m 0 0 := by
  have hR := hS.ok
  have h8 := hS.le
  have q2 := hS.nB
  refine Go.runR (callT_mono MT _) [4] 200 hR ?_
  refine And.intro (fun c6 => ?_) (fun c6 => ?_)
  · try dsimp only at c6
    obtain rfl := lq_e (n := 8) c6 rfl rfl hk (by omega)
    refine And.intro (fun c87 => ?_) (fun c87 => ?_)
    · first | exact absurd c87 (by decide) | exact absurd (by decide) c87 | (exfalso; grind)
    · try dsimp only at c87
      refine And.intro (fun c93 => ?_) (fun c93 => ?_)
      · first | exact absurd c93 (by decide) | exact absurd (by decide) c93 | (exfalso; grind)
      · try dsimp only at c93
        refine And.intro trivial ?_
        exact h
  · try dsimp only at c6
    have hk2 := lq_m (n := 8) c6 rfl rfl hk (by omega)
    have i1 : nI n ≤ nI k ↔ n ≤ k := nI_leI (by omega) (by omega)
    have e0 : (nI k).toNatClampNeg = k := nI_clamp (by omega)
    have key : ∀ b, b = nI (cnN (cP n D m0 6) (k + 1)) → Go (cW (d + 3)) i_M_counts (0, 0) K 4 [vo 1 0 0, vi (nI 6), vi b, vi (nI k + 1)] [] m 0 0 := fun b z => go_eq (by rw [z, ← nI_succ]) rfl (l_M_counts6 hS hT hC h (k + 1) hk2)
    rw [cns] at key
    refine And.intro (fun c10 => ?_) (fun c10 => ?_)
    · first | exact absurd c10 (by decide) | exact absurd (by decide) c10 | (exfalso; grind)
    · try dsimp only at c10
      refine And.intro (fun c22 => ?_) (fun c22 => ?_)
      · first | exact absurd c22 (by decide) | exact absurd (by decide) c22 | (exfalso; grind)
      · try dsimp only at c22
        refine And.intro (fun c34 => ?_) (fun c34 => ?_)
        · first | exact absurd c34 (by decide) | exact absurd (by decide) c34 | (exfalso; grind)
        · try dsimp only at c34
          refine And.intro (fun c45 => ?_) (fun c45 => ?_)
          · first | exact absurd c45 (by decide) | exact absurd (by decide) c45 | (exfalso; grind)
          · try dsimp only at c45
            refine And.intro (fun c59 => ?_) (fun c59 => ?_)
            · try dsimp only at c59
              refine And.intro (fun c62 => ?_) (fun c62 => ?_)
              · try dsimp only at c62
                have i2 : nI 6 ≤ nI k ↔ 6 ≤ k := nI_leI (by omega) (by omega)
                have hx : ¬ k < 6 := by have := i2.mp c62; omega
                have pb : cP n D m0 6 k = false := (by show (decide (k < 6) && !decide (gI m0 (0, 1, k) 1 = -1)) = false; rw [decide_eq_false hx, Bool.false_and])
                refine And.intro (fun c70 => ?_) (fun c70 => ?_)
                · first | exact absurd c70 (by decide) | exact absurd (by decide) c70 | (exfalso; grind)
                · try dsimp only at c70
                  first
                  | exact key _ (by rw [if_neg (by rw [pb]; decide)]; exact i_add0 _)
                  | exact key _ (by rw [if_pos pb]; exact nI_1 _)
              · try dsimp only at c62
                have i2 : nI 6 ≤ nI k ↔ 6 ≤ k := nI_leI (by omega) (by omega)
                have hx : k < 6 := by have := mt i2.mpr c62; omega
                refine And.intro ⟨rfl, rfl, rfl⟩ ?_
                refine And.intro (vp_nI (k := k) (N := 6) (by omega) (by decide)) ?_
                refine And.intro (fun c67 => ?_) (fun c67 => ?_)
                · try dsimp only at c67
                  rw [e0] at c67
                  have hy : ¬ gI m0 (0, 1, k) 1 = -1 := fun y => Int32.not_le.mpr ((hC.2.1 k hx).mpr y) c67
                  have pb : cP n D m0 6 k = true := (by show (decide (k < 6) && !decide (gI m0 (0, 1, k) 1 = -1)) = true; rw [decide_eq_true hx, decide_eq_false hy]; rfl)
                  first
                  | exact key _ (by rw [if_neg (by rw [pb]; decide)]; exact i_add0 _)
                  | exact key _ (by rw [if_pos pb]; exact nI_1 _)
                · try dsimp only at c67
                  rw [e0] at c67
                  have hy : gI m0 (0, 1, k) 1 = -1 := (hC.2.1 k hx).mp (Int32.not_le.mp c67)
                  have pb : cP n D m0 6 k = false := (by show (decide (k < 6) && !decide (gI m0 (0, 1, k) 1 = -1)) = false; rw [decide_eq_true hx, decide_eq_true hy]; rfl)
                  refine And.intro (fun c70 => ?_) (fun c70 => ?_)
                  · first | exact absurd c70 (by decide) | exact absurd (by decide) c70 | (exfalso; grind)
                  · try dsimp only at c70
                    first
                    | exact key _ (by rw [if_neg (by rw [pb]; decide)]; exact i_add0 _)
                    | exact key _ (by rw [if_pos pb]; exact nI_1 _)
            · first | exact absurd c59 (by decide) | exact absurd (by decide) c59 | (exfalso; grind)
termination_by 8 - k
decreasing_by all_goals omega

theorem l_M_counts7 {d n T : Nat} {D : SDt} {m0 m : Mem} {K : Option Vv → Mem → Prop} (hS : SC n D m) (hT : gI m (1, 0, 0) 20 = nI T) (hC : CnR m0 m) (h : K (some (vi (cV n T D m0 7))) m) (k : Nat) (hk : k ≤ 8) : Go (cW (d + 3)) i_M_counts (0, 0) K 4 [vo 1 0 0, vi (nI 7), vi (nI (cnN (cP n D m0 7) k)), vi (nI k)] [] m 0 0 := by
  have hR := hS.ok
  have h8 := hS.le
  have q2 := hS.nB
  refine Go.runR (callT_mono MT _) [4] 200 hR ?_
  refine And.intro (fun c6 => ?_) (fun c6 => ?_)
  · try dsimp only at c6
    obtain rfl := lq_e (n := 8) c6 rfl rfl hk (by omega)
    refine And.intro (fun c87 => ?_) (fun c87 => ?_)
    · first | exact absurd c87 (by decide) | exact absurd (by decide) c87 | (exfalso; grind)
    · try dsimp only at c87
      refine And.intro (fun c93 => ?_) (fun c93 => ?_)
      · first | exact absurd c93 (by decide) | exact absurd (by decide) c93 | (exfalso; grind)
      · try dsimp only at c93
        refine And.intro trivial ?_
        exact h
  · try dsimp only at c6
    have hk2 := lq_m (n := 8) c6 rfl rfl hk (by omega)
    have i1 : nI n ≤ nI k ↔ n ≤ k := nI_leI (by omega) (by omega)
    have e0 : (nI k).toNatClampNeg = k := nI_clamp (by omega)
    have key : ∀ b, b = nI (cnN (cP n D m0 7) (k + 1)) → Go (cW (d + 3)) i_M_counts (0, 0) K 4 [vo 1 0 0, vi (nI 7), vi b, vi (nI k + 1)] [] m 0 0 := fun b z => go_eq (by rw [z, ← nI_succ]) rfl (l_M_counts7 hS hT hC h (k + 1) hk2)
    rw [cns] at key
    refine And.intro (fun c10 => ?_) (fun c10 => ?_)
    · first | exact absurd c10 (by decide) | exact absurd (by decide) c10 | (exfalso; grind)
    · try dsimp only at c10
      refine And.intro (fun c22 => ?_) (fun c22 => ?_)
      · first | exact absurd c22 (by decide) | exact absurd (by decide) c22 | (exfalso; grind)
      · try dsimp only at c22
        refine And.intro (fun c34 => ?_) (fun c34 => ?_)
        · first | exact absurd c34 (by decide) | exact absurd (by decide) c34 | (exfalso; grind)
        · try dsimp only at c34
          refine And.intro (fun c45 => ?_) (fun c45 => ?_)
          · first | exact absurd c45 (by decide) | exact absurd (by decide) c45 | (exfalso; grind)
          · try dsimp only at c45
            refine And.intro (fun c59 => ?_) (fun c59 => ?_)
            · first | exact absurd c59 (by decide) | exact absurd (by decide) c59 | (exfalso; grind)
            · try dsimp only at c59
              refine And.intro (fun c70 => ?_) (fun c70 => ?_)
              · try dsimp only at c70
                refine And.intro (fun c73 => ?_) (fun c73 => ?_)
                · try dsimp only at c73
                  have i2 : nI 4 ≤ nI k ↔ 4 ≤ k := nI_leI (by omega) (by omega)
                  have hx : ¬ k < 4 := by have := i2.mp c73; omega
                  have pb : cP n D m0 7 k = false := (by show (decide (k < 4) && !decide (gI m0 (0, 1, 6 + k) 1 = -1)) = false; rw [decide_eq_false hx, Bool.false_and])
                  first
                  | exact key _ (by rw [if_neg (by rw [pb]; decide)]; exact i_add0 _)
                  | exact key _ (by rw [if_pos pb]; exact nI_1 _)
                · try dsimp only at c73
                  have i2 : nI 4 ≤ nI k ↔ 4 ≤ k := nI_leI (by omega) (by omega)
                  have hx : k < 4 := by have := mt i2.mpr c73; omega
                  refine And.intro ⟨rfl, rfl, rfl⟩ ?_
                  refine And.intro (vp_nI (k := k) (N := 4) (by omega) (by decide)) ?_
                  refine And.intro (fun c78 => ?_) (fun c78 => ?_)
                  · try dsimp only at c78
                    rw [e0] at c78
                    have hy : gI m0 (0, 1, 6 + k) 1 = -1 := (hC.2.2 k hx).mp c78
                    have pb : cP n D m0 7 k = false := (by show (decide (k < 4) && !decide (gI m0 (0, 1, 6 + k) 1 = -1)) = false; rw [decide_eq_true hx, decide_eq_true hy]; rfl)
                    first
                    | exact key _ (by rw [if_neg (by rw [pb]; decide)]; exact i_add0 _)
                    | exact key _ (by rw [if_pos pb]; exact nI_1 _)
                  · try dsimp only at c78
                    rw [e0] at c78
                    have hy : ¬ gI m0 (0, 1, 6 + k) 1 = -1 := fun y => c78 ((hC.2.2 k hx).mpr y)
                    have pb : cP n D m0 7 k = true := (by show (decide (k < 4) && !decide (gI m0 (0, 1, 6 + k) 1 = -1)) = true; rw [decide_eq_true hx, decide_eq_false hy]; rfl)
                    first
                    | exact key _ (by rw [if_neg (by rw [pb]; decide)]; exact i_add0 _)
                    | exact key _ (by rw [if_pos pb]; exact nI_1 _)
              · first | exact absurd c70 (by decide) | exact absurd (by decide) c70 | (exfalso; grind)
termination_by 8 - k
decreasing_by all_goals omega

theorem m_M_counts {d n T : Nat} {D : SDt} {m0 m : Mem} {K : Option Vv → Mem → Prop} (hS : SC n D m) (hT : gI m (1, 0, 0) 20 = nI T) (hC : CnR m0 m) {x : Int32} {w : Nat} (hx : x = nI w) (hw : w < 8) (h : K (some (vi (cV n T D m0 w))) m) : cW (d + 4) n_M_counts [vo 1 0 0, vi x] m K := by
  subst hx
  have hR := hS.ok
  obtain rfl | rfl | rfl | rfl | rfl | rfl | rfl | rfl : w = 0 ∨ w = 1 ∨ w = 2 ∨ w = 3 ∨ w = 4 ∨ w = 5 ∨ w = 6 ∨ w = 7 := by omega
  · refine w_M_counts (Go.runR (callT_mono MT _) [4] 200 hR ?_)
    exact l_M_counts0 hS hT hC h 0 (Nat.zero_le _)
  · refine w_M_counts (Go.runR (callT_mono MT _) [4] 200 hR ?_)
    exact l_M_counts1 hS hT hC h 0 (Nat.zero_le _)
  · refine w_M_counts (Go.runR (callT_mono MT _) [4] 200 hR ?_)
    exact l_M_counts2 hS hT hC h 0 (Nat.zero_le _)
  · refine w_M_counts (Go.runR (callT_mono MT _) [4] 200 hR ?_)
    exact l_M_counts3 hS hT hC h 0 (Nat.zero_le _)
  · refine w_M_counts (Go.runR (callT_mono MT _) [4] 200 hR ?_)
    exact l_M_counts4 hS hT hC h 0 (Nat.zero_le _)
  · refine w_M_counts (Go.runR (callT_mono MT _) [4] 200 hR ?_)
    exact l_M_counts5 hS hT hC h 0 (Nat.zero_le _)
  · refine w_M_counts (Go.runR (callT_mono MT _) [4] 200 hR ?_)
    exact l_M_counts6 hS hT hC h 0 (Nat.zero_le _)
  · refine w_M_counts (Go.runR (callT_mono MT _) [4] 200 hR ?_)
    exact l_M_counts7 hS hT hC h 0 (Nat.zero_le _)


theorem p_count {d : Nat} {m : Mem} {K : Option Vv → Option Vv → Mem → Prop} (R : RelAB m) {v : Int32} (h : ∀ v m', RelAB m' → K v v m') : cW (d + 6) n_X_count [vo 0 0 0, vi v] m (fun u m1 => cW (d + 6) n_M_count [vo 1 0 0, vi v] m1 (fun w m2 => K u w m2)) := by
  have hR := R.1
  obtain ⟨n, hc⟩ := R.2.2.2.2
  obtain ⟨D, hS⟩ := hc.sc hR
  have ht := R.2.2.2.1
  obtain ⟨q1, q2⟩ := hc.many
  have h8 := hc.le
  obtain ⟨T, hT, t1, t2, t3⟩ := hc.hrs
  by_cases q : 0 ≤ v ∧ v ≤ 7
  · obtain ⟨w, hw, rfl⟩ := nI_of2 (x := v) (M := 7) (n := 7) rfl (by grind) q.2
    refine m_X_count hS t1 rfl (by omega) ?_
    refine w_M_count (Go.runR (callT_mono MT _) [] 200 hR ?_)
    refine m_M_in (by repeat' (first | exact hR | exact g1.ok | exact g2.ok | exact g3.ok | exact g1.ok | exact g2.ok | exact g3.ok | apply OKR.pI | apply OKR.pL | apply OKR.cpI | apply OKR.wI)) (And.intro (by repeat' (first | exact hR | exact g1.ok | exact g2.ok | exact g3.ok | exact g1.ok | exact g2.ok | exact g3.ok | apply OKR.pI | apply OKR.pL | apply OKR.cpI | apply OKR.wI)) ?_)
    rw [show b2 (0 ≤ nI w ∧ nI w ≤ 7) = 1 from if_pos q]
    refine And.intro (fun c4 => ?_) (fun c4 => ?_)
    · first | exact absurd c4 (by decide) | exact absurd (by decide) c4 | (exfalso; grind)
    · try dsimp only at c4
      refine m_M_counts (m0 := m) (by exact hS) t2 R.cnr rfl (by omega) (And.intro (by repeat' (first | exact hR | exact g1.ok | exact g2.ok | exact g3.ok | exact g1.ok | exact g2.ok | exact g3.ok | apply OKR.pI | apply OKR.pL | apply OKR.cpI | apply OKR.wI)) ?_)
      refine And.intro trivial ?_
      exact h _ _ R
  · refine w_X_count (Go.runR (callT_mono MT _) [] 200 (by repeat' (first | exact hR | exact g1.ok | exact g2.ok | exact g3.ok | apply OKR.pI | apply OKR.pL | apply OKR.cpI | apply OKR.wI)) ?_)
    refine And.intro (fun c1 => ?_) (And.intro (fun c1 => ?_) (And.intro (fun c1 => ?_) (And.intro (fun c1 => ?_) (And.intro (fun c1 => ?_) (And.intro (fun c1 => ?_) (And.intro (fun c1 => ?_) (And.intro (fun c1 => ?_) (And.intro (fun c1 => ?_) (trivial)))))))))
    · try dsimp only at c1
      refine And.intro trivial ?_
      refine w_M_count (Go.runR (callT_mono MT _) [] 200 (by repeat' (first | exact hR | exact g1.ok | exact g2.ok | exact g3.ok | apply OKR.pI | apply OKR.pL | apply OKR.cpI | apply OKR.wI)) ?_)
      refine m_M_in (by repeat' (first | exact hR | exact g1.ok | exact g2.ok | exact g3.ok | apply OKR.pI | apply OKR.pL | apply OKR.cpI | apply OKR.wI)) (And.intro (by repeat' (first | exact hR | exact g1.ok | exact g2.ok | exact g3.ok | apply OKR.pI | apply OKR.pL | apply OKR.cpI | apply OKR.wI)) ?_)
      rw [show b2 (0 ≤ v ∧ v ≤ 7) = 0 from if_neg q]
      refine And.intro (fun c4 => ?_) (fun c4 => ?_)
      · try dsimp only at c4
        refine And.intro trivial ?_
        exact h _ _ R
      · first | exact absurd c4 (by decide) | exact absurd (by decide) c4 | (exfalso; grind)
    · exact absurd (by rw [c1]; decide) q
    · exact absurd (by rw [c1]; decide) q
    · exact absurd (by rw [c1]; decide) q
    · exact absurd (by rw [c1]; decide) q
    · exact absurd (by rw [c1]; decide) q
    · exact absurd (by rw [c1]; decide) q
    · exact absurd (by rw [c1]; decide) q
    · exact absurd (by rw [c1]; decide) q
