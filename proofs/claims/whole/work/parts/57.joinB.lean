/-! Written by a program (wip/whole/p57.py): joined, the reference's side; both sides. -/
def AtR (n : Nat) (D : SDt) (f : Nat → Int32) (s k : Nat) (at_ : Int32) : Prop := (unN n D f s k = 0 ∧ at_ = -9) ∨ ∃ t, t < k ∧ at_ = nI t ∧ jls n D f s k = f t - nI (rs n D s) ∧ 0 < unN n D f s k
theorem add_c {x y z : Int32} : x = y + z ↔ z = x - y := by
  constructor
  · intro h; grind
  · intro h; grind

theorem l_M_joinedBy10 {d n : Nat} {D : SDt} {m : Mem} {K : Option Vv → Mem → Prop} {f : Nat → Int32} {a r s : Nat} {o : Vv} (hS : SC n D m) (ha : a < 6) (hr : r ≤ 40) (q : gI m (1, 2, 0) a = nI r) (hf : ∀ t, t < r → gI m (1, 3, 0) (40 * a + t) = f t) (h : ∀ y x, AtR n D f s r y → Go (cW (d + 1)) i_M_joinedBy (0, 0) K 42 [vo 1 0 0, vi (nI a), vi (nI s), o, vi (nI (rs n D s)), vi (nI (unN n D f s r)), vi y, vi (nI r), x, vu, vu, vu] [] m 0 0) (k : Nat) (y : Int32) (x : Vv) (hk : k ≤ r) (H : AtR n D f s k y) : Go (cW (d + 1)) i_M_joinedBy (0, 0) K 10 [vo 1 0 0, vi (nI a), vi (nI s), o, vi (nI (rs n D s)), vi (nI (unN n D f s k)), vi y, vi (nI k), x, vu, vu, vu] [] m 0 0 := by
  have hR := hS.ok
  have h8 := hS.le
  have ea : (nI a).toNatClampNeg = a := nI_clamp (by omega)
  have qa : gI m (1, 2, 0) (nI a).toNatClampNeg = nI r := by rw [ea]; exact q
  refine Go.runR (callT_mono MT _) [10, 42] 200 hR ?_
  refine And.intro ⟨rfl, rfl, rfl⟩ ?_
  refine And.intro (by exact vp_nI (k := a) (N := 6) (by omega) (by decide)) ?_
  refine And.intro (fun c15 => ?_) (fun c15 => ?_)
  · try dsimp only at c15
    have hk2 := lq_e c15 qa rfl hk (by omega)
    subst hk2
    exact h _ _ H
  · try dsimp only at c15
    have hk2 := lq_m c15 qa rfl hk (by omega)
    have key : ∀ b1 b2 y, b1 = nI (unN n D f s (k + 1)) → AtR n D f s (k + 1) b2 → Go (cW (d + 1)) i_M_joinedBy (0, 0) K 10 [vo 1 0 0, vi (nI a), vi (nI s), o, vi (nI (rs n D s)), vi b1, vi b2, vi (nI k + 1), y, vu, vu, vu] [] m 0 0 := fun b1 b2 y z1 z2 => go_eq (by rw [z1, ← nI_succ]) rfl (l_M_joinedBy10 hS ha hr q hf h (k + 1) b2 y hk2 z2)
    have key := key
    unfold AtR at key
    rw [uns, jlss, ← nI_add] at key
    refine m_M_rowAt (by repeat' (first | exact hR | apply OKR.pI | apply OKR.pL | apply OKR.cpI | apply OKR.wI)) ha (show k < 40 by omega) (And.intro (by repeat' (first | exact hR | apply OKR.pI | apply OKR.pL | apply OKR.cpI | apply OKR.wI)) ?_)
    rw [hf k hk2]
    refine And.intro (fun c21 => ?_) (fun c21 => ?_)
    · try dsimp only at c21
      rw [if_pos c21, if_pos c21] at key
      refine And.intro (fun c28 => ?_) (fun c28 => ?_)
      · try dsimp only at c28
        refine And.intro (fun c35 => ?_) (fun c35 => ?_)
        · try dsimp only at c35
          first
          | exact absurd c28 (by decide)
          | exact absurd rfl c28
          | exact absurd c35 (by decide)
          | exact absurd rfl c35
          | exact key _ _ _ rfl (by
              rcases H with z | ⟨t, z1, z2, z3, z4⟩
              · exact Or.inl ⟨by have := z.1; omega, z.2⟩
              · exact Or.inr ⟨t, by omega, z2, z3, by omega⟩)
          | exact key _ _ _ rfl (Or.inr ⟨k, by omega, rfl, rfl, by omega⟩)
        · try dsimp only at c35
          first
          | exact absurd c28 (by decide)
          | exact absurd rfl c28
          | exact absurd c35 (by decide)
          | exact absurd rfl c35
          | exact key _ _ _ rfl (by
              rcases H with z | ⟨t, z1, z2, z3, z4⟩
              · exact Or.inl ⟨by have := z.1; omega, z.2⟩
              · exact Or.inr ⟨t, by omega, z2, z3, by omega⟩)
          | exact key _ _ _ rfl (Or.inr ⟨k, by omega, rfl, rfl, by omega⟩)
      · try dsimp only at c28
        refine And.intro (fun c35 => ?_) (fun c35 => ?_)
        · try dsimp only at c35
          first
          | exact absurd c28 (by decide)
          | exact absurd rfl c28
          | exact absurd c35 (by decide)
          | exact absurd rfl c35
          | exact key _ _ _ rfl (by
              rcases H with z | ⟨t, z1, z2, z3, z4⟩
              · exact Or.inl ⟨by have := z.1; omega, z.2⟩
              · exact Or.inr ⟨t, by omega, z2, z3, by omega⟩)
          | exact key _ _ _ rfl (Or.inr ⟨k, by omega, rfl, rfl, by omega⟩)
        · try dsimp only at c35
          first
          | exact absurd c28 (by decide)
          | exact absurd rfl c28
          | exact absurd c35 (by decide)
          | exact absurd rfl c35
          | exact key _ _ _ rfl (by
              rcases H with z | ⟨t, z1, z2, z3, z4⟩
              · exact Or.inl ⟨by have := z.1; omega, z.2⟩
              · exact Or.inr ⟨t, by omega, z2, z3, by omega⟩)
          | exact key _ _ _ rfl (Or.inr ⟨k, by omega, rfl, rfl, by omega⟩)
    · try dsimp only at c21
      rw [if_neg c21, if_neg c21] at key
      refine And.intro (fun c28 => ?_) (fun c28 => ?_)
      · try dsimp only at c28
        refine And.intro (fun c35 => ?_) (fun c35 => ?_)
        · try dsimp only at c35
          first
          | exact absurd c28 (by decide)
          | exact absurd rfl c28
          | exact absurd c35 (by decide)
          | exact absurd rfl c35
          | exact key _ _ _ rfl (by
              rcases H with z | ⟨t, z1, z2, z3, z4⟩
              · exact Or.inl ⟨by have := z.1; omega, z.2⟩
              · exact Or.inr ⟨t, by omega, z2, z3, by omega⟩)
          | exact key _ _ _ rfl (Or.inr ⟨k, by omega, rfl, rfl, by omega⟩)
        · try dsimp only at c35
          first
          | exact absurd c28 (by decide)
          | exact absurd rfl c28
          | exact absurd c35 (by decide)
          | exact absurd rfl c35
          | exact key _ _ _ rfl (by
              rcases H with z | ⟨t, z1, z2, z3, z4⟩
              · exact Or.inl ⟨by have := z.1; omega, z.2⟩
              · exact Or.inr ⟨t, by omega, z2, z3, by omega⟩)
          | exact key _ _ _ rfl (Or.inr ⟨k, by omega, rfl, rfl, by omega⟩)
      · try dsimp only at c28
        refine And.intro (fun c35 => ?_) (fun c35 => ?_)
        · try dsimp only at c35
          first
          | exact absurd c28 (by decide)
          | exact absurd rfl c28
          | exact absurd c35 (by decide)
          | exact absurd rfl c35
          | exact key _ _ _ rfl (by
              rcases H with z | ⟨t, z1, z2, z3, z4⟩
              · exact Or.inl ⟨by have := z.1; omega, z.2⟩
              · exact Or.inr ⟨t, by omega, z2, z3, by omega⟩)
          | exact key _ _ _ rfl (Or.inr ⟨k, by omega, rfl, rfl, by omega⟩)
        · try dsimp only at c35
          first
          | exact absurd c28 (by decide)
          | exact absurd rfl c28
          | exact absurd c35 (by decide)
          | exact absurd rfl c35
          | exact key _ _ _ rfl (by
              rcases H with z | ⟨t, z1, z2, z3, z4⟩
              · exact Or.inl ⟨by have := z.1; omega, z.2⟩
              · exact Or.inr ⟨t, by omega, z2, z3, by omega⟩)
          | exact key _ _ _ rfl (Or.inr ⟨k, by omega, rfl, rfl, by omega⟩)
termination_by r - k
decreasing_by all_goals omega

theorem l_M_joinedBy50 {d n : Nat} {D : SDt} {m : Mem} {K : Option Vv → Mem → Prop} {f : Nat → Int32} {a r s o : Nat} {y : Int32} (hS : SC n D m) (ha : a < 6) (hr : r ≤ 40) (q : gI m (1, 2, 0) a = nI r) (hf : ∀ t, t < r → gI m (1, 3, 0) (40 * a + t) = f t) (ho : o < 256) (hob : ∀ i, i < n → o.testBit i = ob D s i) (H : AtR n D f s r y) (h : K (some (vi (nI (jwK n D f r s n)))) m) (k : Nat) (x1 x2 x3 : Vv) (hk : k ≤ n) : Go (cW (d + 2)) i_M_joinedBy (0, 0) K 50 [vo 1 0 0, vi (nI a), vi (nI s), vi (nI o), vi (nI (rs n D s)), vi (nI (unN n D f s r)), vi y, vi (nI (jwK n D f r s k)), vi (nI k), x1, x2, x3] [] m 0 0 := by
  have hR := hS.ok
  have h8 := hS.le
  have q2 := hS.nB
  have ea : (nI a).toNatClampNeg = a := nI_clamp (by omega)
  have qa : gI m (1, 2, 0) (nI a).toNatClampNeg = nI r := by rw [ea]; exact q
  have uL := unL n D f s r
  have u0 : nI (unN n D f s r) = 0 ↔ unN n D f s r = 0 := nI_z (by omega)
  have u1 : nI (unN n D f s r) = 1 ↔ unN n D f s r = 1 := nI_eq (b := 1) (by omega) (by omega)
  refine Go.runR (callT_mono MT _) [50] 200 hR ?_
  refine And.intro (fun c53 => ?_) (fun c53 => ?_)
  · try dsimp only at c53
    obtain rfl := lq_e c53 q2 rfl hk (by omega)
    refine And.intro trivial ?_
    exact h
  · have hk2 := lq_m c53 q2 rfl hk (by omega)
    have bo := hob k hk2
    have r9 := rpL hS hk2
    have key : ∀ b y1 y2 y3, b = nI (jwK n D f r s (k + 1)) → Go (cW (d + 2)) i_M_joinedBy (0, 0) K 50 [vo 1 0 0, vi (nI a), vi (nI s), vi (nI o), vi (nI (rs n D s)), vi (nI (unN n D f s r)), vi y, vi b, vi (nI k + 1), y1, y2, y3] [] m 0 0 := fun b y1 y2 y3 z1 => go_eq (by rw [z1, ← nI_succ]) rfl (l_M_joinedBy50 hS ha hr q hf ho hob H h (k + 1) y1 y2 y3 hk2)
    unfold jwK at key
    unfold jwK
    by_cases tz : tb o k = 0
    · have ot := tb_e0 tz
      rw [bo] at ot
      rw [bsds, bsds, if_neg (fun z => ot z.1 : ¬ (ob D s k = true ∧ nI (rp D k) = 0)), if_neg (fun z => ot z.1 : ¬ (ob D s k = true ∧ nI (rp D k) = jls n D f s r))] at key
      refine m_M_rippleOf (by exact hS) (i := k) rfl hk2 (And.intro (by repeat' (first | exact hR | apply OKR.pI | apply OKR.pL | apply OKR.cpI | apply OKR.wI)) ?_)
      refine m_M_has (by repeat' (first | exact hR | apply OKR.pI | apply OKR.pL | apply OKR.cpI | apply OKR.wI)) (s := o) (i := k) rfl rfl ho (by omega) (And.intro (by repeat' (first | exact hR | apply OKR.pI | apply OKR.pL | apply OKR.cpI | apply OKR.wI)) ?_)
      refine And.intro (fun c61 => ?_) (fun c61 => ?_)
      · try dsimp only at c61
        refine m_M_has (by repeat' (first | exact hR | apply OKR.pI | apply OKR.pL | apply OKR.cpI | apply OKR.wI)) (s := o) (i := k) rfl rfl ho (by omega) (And.intro (by repeat' (first | exact hR | apply OKR.pI | apply OKR.pL | apply OKR.cpI | apply OKR.wI)) ?_)
        refine And.intro (fun c73 => ?_) (fun c73 => ?_)
        · try dsimp only at c73
          refine And.intro (fun c96 => ?_) (fun c96 => ?_)
          · try dsimp only at c96
            refine And.intro (fun c103 => ?_) (fun c103 => ?_)
            · try dsimp only at c103
              exact key _ _ _ _ (i_add0 _)
            · exact absurd rfl c103
          · exact absurd rfl c96
        · exact absurd tz c73
      · exact absurd tz c61
    · have ot := tb_n0 tz
      rw [bo] at ot
      by_cases e0 : unN n D f s r = 0
      · have ne1 : ¬ nI (unN n D f s r) = 1 := fun z => by have := u1.mp z; omega
        rw [if_pos e0] at key ⊢
        by_cases rz : nI (rp D k) = 0
        · rw [bsds, if_pos ⟨ot, rz⟩] at key
          refine m_M_rippleOf (by exact hS) (i := k) rfl hk2 (And.intro (by repeat' (first | exact hR | apply OKR.pI | apply OKR.pL | apply OKR.cpI | apply OKR.wI)) ?_)
          refine m_M_has (by repeat' (first | exact hR | apply OKR.pI | apply OKR.pL | apply OKR.cpI | apply OKR.wI)) (s := o) (i := k) rfl rfl ho (by omega) (And.intro (by repeat' (first | exact hR | apply OKR.pI | apply OKR.pL | apply OKR.cpI | apply OKR.wI)) ?_)
          refine And.intro (fun c61 => ?_) (fun c61 => ?_)
          · exact absurd c61 tz
          · try dsimp only at c61
            refine And.intro (fun c63 => ?_) (fun c63 => ?_)
            · try dsimp only at c63
              refine And.intro (fun c65 => ?_) (fun c65 => ?_)
              · try dsimp only at c65
                refine m_M_has (by repeat' (first | exact hR | apply OKR.pI | apply OKR.pL | apply OKR.cpI | apply OKR.wI)) (s := o) (i := k) rfl rfl ho (by omega) (And.intro (by repeat' (first | exact hR | apply OKR.pI | apply OKR.pL | apply OKR.cpI | apply OKR.wI)) ?_)
                refine And.intro (fun c73 => ?_) (fun c73 => ?_)
                · exact absurd c73 tz
                · try dsimp only at c73
                  refine And.intro (fun c76 => ?_) (fun c76 => ?_)
                  · exact absurd c76 ne1
                  · try dsimp only at c76
                    refine And.intro (fun c96 => ?_) (fun c96 => ?_)
                    · exact absurd c96 (by decide)
                    · try dsimp only at c96
                      refine And.intro ⟨rfl, rfl, rfl⟩ ?_
                      refine And.intro (by exact vp_nI (k := a) (N := 6) (by omega) (by decide)) ?_
                      exact key _ _ _ _ (by rw [qa]; show nI (1 + r * bsd D s 0 k) + nI r = _; rw [nI_add, Nat.mul_add, Nat.mul_one, Nat.add_assoc])
              · exact absurd rz c65
            · exact absurd (u0.mpr e0) c63
        · rw [bsds, if_neg (fun z => rz z.2)] at key
          refine m_M_rippleOf (by exact hS) (i := k) rfl hk2 (And.intro (by repeat' (first | exact hR | apply OKR.pI | apply OKR.pL | apply OKR.cpI | apply OKR.wI)) ?_)
          refine m_M_has (by repeat' (first | exact hR | apply OKR.pI | apply OKR.pL | apply OKR.cpI | apply OKR.wI)) (s := o) (i := k) rfl rfl ho (by omega) (And.intro (by repeat' (first | exact hR | apply OKR.pI | apply OKR.pL | apply OKR.cpI | apply OKR.wI)) ?_)
          refine And.intro (fun c61 => ?_) (fun c61 => ?_)
          · exact absurd c61 tz
          · try dsimp only at c61
            refine And.intro (fun c63 => ?_) (fun c63 => ?_)
            · try dsimp only at c63
              refine And.intro (fun c65 => ?_) (fun c65 => ?_)
              · exact absurd c65 rz
              · try dsimp only at c65
                refine m_M_has (by repeat' (first | exact hR | apply OKR.pI | apply OKR.pL | apply OKR.cpI | apply OKR.wI)) (s := o) (i := k) rfl rfl ho (by omega) (And.intro (by repeat' (first | exact hR | apply OKR.pI | apply OKR.pL | apply OKR.cpI | apply OKR.wI)) ?_)
                refine And.intro (fun c73 => ?_) (fun c73 => ?_)
                · exact absurd c73 tz
                · try dsimp only at c73
                  refine And.intro (fun c76 => ?_) (fun c76 => ?_)
                  · exact absurd c76 ne1
                  · try dsimp only at c76
                    refine And.intro (fun c96 => ?_) (fun c96 => ?_)
                    · try dsimp only at c96
                      refine And.intro (fun c103 => ?_) (fun c103 => ?_)
                      · try dsimp only at c103
                        exact key _ _ _ _ (i_add0 _)
                      · exact absurd rfl c103
                    · exact absurd rfl c96
            · exact absurd (u0.mpr e0) c63
      · rw [if_neg e0] at key ⊢
        by_cases e1 : unN n D f s r = 1
        · rw [if_pos e1] at key ⊢
          obtain ⟨t, t1, rfl, t3, t4⟩ := H.resolve_left (fun z => by have := z.1; omega)
          by_cases fz : f t = nI (rs n D s) + nI (rp D k)
          · rw [bsds, if_pos ⟨ot, by rw [t3]; exact add_c.mp fz⟩] at key
            refine m_M_rippleOf (by exact hS) (i := k) rfl hk2 (And.intro (by repeat' (first | exact hR | apply OKR.pI | apply OKR.pL | apply OKR.cpI | apply OKR.wI)) ?_)
            refine m_M_has (by repeat' (first | exact hR | apply OKR.pI | apply OKR.pL | apply OKR.cpI | apply OKR.wI)) (s := o) (i := k) rfl rfl ho (by omega) (And.intro (by repeat' (first | exact hR | apply OKR.pI | apply OKR.pL | apply OKR.cpI | apply OKR.wI)) ?_)
            refine And.intro (fun c61 => ?_) (fun c61 => ?_)
            · exact absurd c61 tz
            · try dsimp only at c61
              refine And.intro (fun c63 => ?_) (fun c63 => ?_)
              · exact absurd (u0.mp c63) e0
              · try dsimp only at c63
                refine m_M_has (by repeat' (first | exact hR | apply OKR.pI | apply OKR.pL | apply OKR.cpI | apply OKR.wI)) (s := o) (i := k) rfl rfl ho (by omega) (And.intro (by repeat' (first | exact hR | apply OKR.pI | apply OKR.pL | apply OKR.cpI | apply OKR.wI)) ?_)
                refine And.intro (fun c73 => ?_) (fun c73 => ?_)
                · exact absurd c73 tz
                · try dsimp only at c73
                  refine And.intro (fun c76 => ?_) (fun c76 => ?_)
                  · try dsimp only at c76
                    refine And.intro (fun c81 => ?_) (fun c81 => ?_)
                    · exact absurd c81 (m9 (by omega))
                    · try dsimp only at c81
                      refine m_M_rowAt (by repeat' (first | exact hR | apply OKR.pI | apply OKR.pL | apply OKR.cpI | apply OKR.wI)) ha (show t < 40 by omega) (And.intro (by repeat' (first | exact hR | apply OKR.pI | apply OKR.pL | apply OKR.cpI | apply OKR.wI)) ?_)
                      rw [hf t t1]
                      refine And.intro (fun c89 => ?_) (fun c89 => ?_)
                      · try dsimp only at c89
                        refine And.intro (fun c96 => ?_) (fun c96 => ?_)
                        · try dsimp only at c96
                          refine And.intro (fun c103 => ?_) (fun c103 => ?_)
                          · exact absurd c103 (by decide)
                          · try dsimp only at c103
                            exact key _ _ _ _ (nI_1 _)
                        · exact absurd rfl c96
                      · exact absurd fz c89
                  · exact absurd (u1.mpr e1) c76
          · rw [bsds, if_neg (fun z => fz (add_c.mpr (by rw [← t3]; exact z.2)))] at key
            refine m_M_rippleOf (by exact hS) (i := k) rfl hk2 (And.intro (by repeat' (first | exact hR | apply OKR.pI | apply OKR.pL | apply OKR.cpI | apply OKR.wI)) ?_)
            refine m_M_has (by repeat' (first | exact hR | apply OKR.pI | apply OKR.pL | apply OKR.cpI | apply OKR.wI)) (s := o) (i := k) rfl rfl ho (by omega) (And.intro (by repeat' (first | exact hR | apply OKR.pI | apply OKR.pL | apply OKR.cpI | apply OKR.wI)) ?_)
            refine And.intro (fun c61 => ?_) (fun c61 => ?_)
            · exact absurd c61 tz
            · try dsimp only at c61
              refine And.intro (fun c63 => ?_) (fun c63 => ?_)
              · exact absurd (u0.mp c63) e0
              · try dsimp only at c63
                refine m_M_has (by repeat' (first | exact hR | apply OKR.pI | apply OKR.pL | apply OKR.cpI | apply OKR.wI)) (s := o) (i := k) rfl rfl ho (by omega) (And.intro (by repeat' (first | exact hR | apply OKR.pI | apply OKR.pL | apply OKR.cpI | apply OKR.wI)) ?_)
                refine And.intro (fun c73 => ?_) (fun c73 => ?_)
                · exact absurd c73 tz
                · try dsimp only at c73
                  refine And.intro (fun c76 => ?_) (fun c76 => ?_)
                  · try dsimp only at c76
                    refine And.intro (fun c81 => ?_) (fun c81 => ?_)
                    · exact absurd c81 (m9 (by omega))
                    · try dsimp only at c81
                      refine m_M_rowAt (by repeat' (first | exact hR | apply OKR.pI | apply OKR.pL | apply OKR.cpI | apply OKR.wI)) ha (show t < 40 by omega) (And.intro (by repeat' (first | exact hR | apply OKR.pI | apply OKR.pL | apply OKR.cpI | apply OKR.wI)) ?_)
                      rw [hf t t1]
                      refine And.intro (fun c89 => ?_) (fun c89 => ?_)
                      · exact absurd c89 fz
                      · try dsimp only at c89
                        refine And.intro (fun c96 => ?_) (fun c96 => ?_)
                        · try dsimp only at c96
                          refine And.intro (fun c103 => ?_) (fun c103 => ?_)
                          · try dsimp only at c103
                            exact key _ _ _ _ (i_add0 _)
                          · exact absurd rfl c103
                        · exact absurd rfl c96
                  · exact absurd (u1.mpr e1) c76
        · rw [if_neg e1] at key ⊢
          refine m_M_rippleOf (by exact hS) (i := k) rfl hk2 (And.intro (by repeat' (first | exact hR | apply OKR.pI | apply OKR.pL | apply OKR.cpI | apply OKR.wI)) ?_)
          refine m_M_has (by repeat' (first | exact hR | apply OKR.pI | apply OKR.pL | apply OKR.cpI | apply OKR.wI)) (s := o) (i := k) rfl rfl ho (by omega) (And.intro (by repeat' (first | exact hR | apply OKR.pI | apply OKR.pL | apply OKR.cpI | apply OKR.wI)) ?_)
          refine And.intro (fun c61 => ?_) (fun c61 => ?_)
          · exact absurd c61 tz
          · try dsimp only at c61
            refine And.intro (fun c63 => ?_) (fun c63 => ?_)
            · exact absurd (u0.mp c63) e0
            · try dsimp only at c63
              refine m_M_has (by repeat' (first | exact hR | apply OKR.pI | apply OKR.pL | apply OKR.cpI | apply OKR.wI)) (s := o) (i := k) rfl rfl ho (by omega) (And.intro (by repeat' (first | exact hR | apply OKR.pI | apply OKR.pL | apply OKR.cpI | apply OKR.wI)) ?_)
              refine And.intro (fun c73 => ?_) (fun c73 => ?_)
              · exact absurd c73 tz
              · try dsimp only at c73
                refine And.intro (fun c76 => ?_) (fun c76 => ?_)
                · exact absurd (u1.mp c76) e1
                · try dsimp only at c76
                  refine And.intro (fun c96 => ?_) (fun c96 => ?_)
                  · try dsimp only at c96
                    refine And.intro (fun c103 => ?_) (fun c103 => ?_)
                    · try dsimp only at c103
                      exact key _ _ _ _ (i_add0 _)
                    · exact absurd rfl c103
                  · exact absurd rfl c96
termination_by n - k
decreasing_by all_goals omega

theorem m_M_joinedBy {d n : Nat} {D : SDt} {m : Mem} {K : Option Vv → Mem → Prop} {f : Nat → Int32} {a r s o : Nat} {u v w : Int32} (hS : SC n D m) (ha : a < 6) (hr : r ≤ 40) (q : gI m (1, 2, 0) a = nI r) (hf : ∀ t, t < r → gI m (1, 3, 0) (40 * a + t) = f t) (hu : u = nI a) (hv : v = nI s) (hw : w = nI o) (hs : s < 256) (ho : o < 256) (hob : ∀ i, i < n → o.testBit i = ob D s i) (h : K (some (vi (nI (jwK n D f r s n)))) m) : cW (d + 4) n_M_joinedBy [vo 1 0 0, vi u, vi v, vi w] m K := by
  subst hu; subst hv; subst hw
  have hR := hS.ok
  have h8 := hS.le
  have uL := unL n D f s r
  have u0 : nI (unN n D f s r) = 0 ↔ unN n D f s r = 0 := nI_z (by omega)
  have j0 : jwK n D f r s 0 = if unN n D f s r = 0 then 1 else 0 := by
    unfold jwK
    by_cases z : unN n D f s r = 0
    · rw [if_pos z, if_pos z]; rfl
    · rw [if_neg z, if_neg z]
      split <;> rfl
  refine w_M_joinedBy (Go.runR (callT_mono MT _) [10] 200 hR ?_)
  refine m_M_ripples (by exact hS) (s := s) rfl hs (And.intro (by repeat' (first | exact hR | apply OKR.pI | apply OKR.pL | apply OKR.cpI | apply OKR.wI)) ?_)
  refine go_eq (ls' := [vo 1 0 0, vi (nI a), vi (nI s), vi (nI o), vi (nI (rs n D s)), vi (nI (unN n D f s 0)), vi (-9), vi (nI 0), vu, vu, vu, vu]) rfl rfl (l_M_joinedBy10 (d := d + 2) hS ha hr q hf (fun y x H => ?_) 0 _ _ (Nat.zero_le _) (Or.inl ⟨rfl, rfl⟩))
  refine Go.runR (callT_mono MT _) [50] 200 hR ?_
  refine And.intro (fun c43 => ?_) (fun c43 => ?_)
  · try dsimp only at c43
    rw [if_pos (u0.mp c43)] at j0
    exact go_eq (ls' := [vo 1 0 0, vi (nI a), vi (nI s), vi (nI o), vi (nI (rs n D s)), vi (nI (unN n D f s r)), vi y, vi (nI (jwK n D f r s 0)), vi (nI 0), vu, vu, vu]) (by rw [j0]; rfl) rfl (l_M_joinedBy50 (d := d + 1) hS ha hr q hf ho hob H h 0 vu vu vu (Nat.zero_le _))
  · try dsimp only at c43
    rw [if_neg (mt u0.mpr c43)] at j0
    exact go_eq (ls' := [vo 1 0 0, vi (nI a), vi (nI s), vi (nI o), vi (nI (rs n D s)), vi (nI (unN n D f s r)), vi y, vi (nI (jwK n D f r s 0)), vi (nI 0), vu, vu, vu]) (by rw [j0]; rfl) rfl (l_M_joinedBy50 (d := d + 1) hS ha hr q hf ho hob H h 0 vu vu vu (Nat.zero_le _))

theorem l_M_joined43 {d n : Nat} {D : SDt} {m : Mem} {K : Option Vv → Mem → Prop} {f : Nat → Int32} {a r : Nat} {b c : Vv} (hS : SC n D m) (ha : a < 6) (hr : r ≤ 40) (q : gI m (1, 2, 0) a = nI r) (hf : ∀ t, t < r → gI m (1, 3, 0) (40 * a + t) = f t) (h : K (some (vi (nI (jT n D f r (2 ^ n))))) m) (k : Nat) (hk : k ≤ 2 ^ n) : Go (cW (d + 4)) i_M_joined (0, 0) K 43 [vo 1 0 0, vi (nI a), b, c, vi (mu n D), vi (nI (jT n D f r k)), vi (nI k)] [] m 0 0 := by
  have hR := hS.ok
  have h8 := hS.le
  have bb2 := two_l n (by omega)
  have bb3 := two_p n
  refine Go.runR (callT_mono MT _) [43] 200 hR ?_
  refine m_M_all (by exact hS)  (And.intro (by repeat' (first | exact hR | apply OKR.pI | apply OKR.pL | apply OKR.cpI | apply OKR.wI)) ?_)
  refine And.intro (fun c46 => ?_) (fun c46 => ?_)
  · try dsimp only at c46
    have hk2 := lq0 c46 rfl rfl bb3 hk (by omega)
    refine And.intro trivial ?_
    rw [hk2]; exact h
  · try dsimp only at c46
    have hk2 := lq1 c46 rfl rfl bb3 hk (by omega)
    have key : ∀ b1, b1 = nI (jT n D f r (k + 1)) → Go (cW (d + 4)) i_M_joined (0, 0) K 43 [vo 1 0 0, vi (nI a), b, c, vi (mu n D), vi b1, vi (nI k + 1)] [] m 0 0 := fun b1 z => go_eq (ls' := [vo 1 0 0, vi (nI a), b, c, vi (mu n D), vi (nI (jT n D f r (k + 1))), vi (nI (k + 1))]) (by rw [z, ← nI_succ]) rfl (l_M_joined43 hS ha hr q hf h (k + 1) hk2)
    rw [jTs, ← nI_add] at key
    refine And.intro (fun c50 => ?_) (fun c50 => ?_)
    · try dsimp only at c50
      rw [if_pos c50] at key
      refine m_M_all (by exact hS)  (And.intro (by repeat' (first | exact hR | apply OKR.pI | apply OKR.pL | apply OKR.cpI | apply OKR.wI)) ?_)
      refine m_M_joinedBy (s := k) (by exact hS) ha hr q hf rfl rfl (oth_e h8 D (by omega)) (by omega) (and_lt256 (and_lt256 (by omega))) (fun i hi => ob_n h8 D hi) (And.intro (by repeat' (first | exact hR | apply OKR.pI | apply OKR.pL | apply OKR.cpI | apply OKR.wI)) ?_)
      first | exact key _ rfl | exact key _ (i_add0 _).symm
    · try dsimp only at c50
      rw [if_neg c50] at key
      first | exact key _ rfl | exact key _ (i_add0 _).symm
termination_by 2 ^ n - k
decreasing_by all_goals omega

theorem l_M_joined21 {d n : Nat} {D : SDt} {m : Mem} {K : Option Vv → Mem → Prop} {f : Nat → Int32} {a r : Nat} {b : Vv} (hS : SC n D m) (ha : a < 6) (hr : r ≤ 40) (q : gI m (1, 2, 0) a = nI r) (hf : ∀ t, t < r → gI m (1, 3, 0) (40 * a + t) = f t) (h3 : (¬ ∀ t, t < r → 0 ≤ f t ∧ f t ≤ 200) → K (some (vi (-3))) (meetM m 3)) (h : (∀ t, t < r → 0 ≤ f t ∧ f t ≤ 200) → K (some (vi (nI (jT n D f r (2 ^ n))))) m) (k : Nat) (hk : k ≤ r) (hg : ∀ t, t < k → 0 ≤ f t ∧ f t ≤ 200) : Go (cW (d + 4)) i_M_joined (0, 0) K 21 [vo 1 0 0, vi (nI a), b, vi (nI r), vi (nI k), vu, vu] [] m 0 0 := by
  have hR := hS.ok
  have h8 := hS.le
  refine Go.runR (callT_mono MT _) [21, 43] 200 hR ?_
  refine And.intro (fun c23 => ?_) (fun c23 => ?_)
  · try dsimp only at c23
    have hk2 := lq_e c23 rfl rfl hk (by omega)
    subst hk2
    refine m_M_mutes (by exact hS)  (And.intro (by repeat' (first | exact hR | apply OKR.pI | apply OKR.pL | apply OKR.cpI | apply OKR.wI)) ?_)
    exact go_eq (ls' := [vo 1 0 0, vi (nI a), b, vi (nI k), vi (mu n D), vi (nI (jT n D f k 0)), vi (nI 0)]) rfl rfl (l_M_joined43 hS ha hr q hf (h hg) 0 (Nat.zero_le _))
  · try dsimp only at c23
    have hk2 := lq_m c23 rfl rfl hk (by omega)
    refine m_M_rowAt (by repeat' (first | exact hR | apply OKR.pI | apply OKR.pL | apply OKR.cpI | apply OKR.wI)) ha (show k < 40 by omega) (And.intro (by repeat' (first | exact hR | apply OKR.pI | apply OKR.pL | apply OKR.cpI | apply OKR.wI)) ?_)
    rw [hf k hk2]
    refine m_M_isRise (by repeat' (first | exact hR | apply OKR.pI | apply OKR.pL | apply OKR.cpI | apply OKR.wI))  (And.intro (by repeat' (first | exact hR | apply OKR.pI | apply OKR.pL | apply OKR.cpI | apply OKR.wI)) ?_)
    refine And.intro (fun c29 => ?_) (fun c29 => ?_)
    · try dsimp only at c29
      refine m_M_meet3 (by repeat' (first | exact hR | apply OKR.pI | apply OKR.pL | apply OKR.cpI | apply OKR.wI))  (And.intro (by repeat' (first | exact hR | apply OKR.pI | apply OKR.pL | apply OKR.cpI | apply OKR.wI)) ?_)
      refine And.intro trivial ?_
      exact h3 (fun z => by have y : b2 (0 ≤ f k ∧ f k ≤ 200) = 1 := if_pos (z k hk2); rw [y] at c29; exact absurd c29 (by decide))
    · try dsimp only at c29
      refine go_eq (ls' := [vo 1 0 0, vi (nI a), b, vi (nI r), vi (nI (k + 1)), vu, vu]) (by rw [nI_succ]; rfl) rfl (l_M_joined21 hS ha hr q hf h3 h (k + 1) hk2 (fun t ht => ?_))
      rcases Nat.lt_or_ge t k with z | z
      · exact hg t z
      · rw [show t = k by omega]
        exact Classical.byContradiction (fun y => c29 (if_neg y))
termination_by r - k
decreasing_by all_goals omega

theorem l_X_joined27 {d : Nat} {m : Mem} {K : Option Vv → Mem → Prop} {f : Nat → Int32} {a r : Nat} {b : Vv} (hR : OKR m) (ha : a < 6) (hr : r ≤ 40) (q : gI m (0, 1, a) 1 = nI r) (hf : ∀ t, t < r → gI m (0, 2, a) t = f t) (h3 : (¬ ∀ t, t < r → 0 ≤ f t ∧ f t ≤ 200) → K (some (vi (-3))) (foundM m 3)) (h : (∀ t, t < r → 0 ≤ f t ∧ f t ≤ 200) → Go (cW (d + 2)) i_X_joined (0, 0) K 42 [vo 0 0 0, b, vo 0 1 a, vi (nI r)] [] m 0 0) (k : Nat) (hk : k ≤ r) (hg : ∀ t, t < k → 0 ≤ f t ∧ f t ≤ 200) : Go (cW (d + 2)) i_X_joined (0, 0) K 27 [vo 0 0 0, b, vo 0 1 a, vi (nI k)] [] m 0 0 := by
  have hl : r ≤ ln (0, 2, a) := by rw [show ln (0, 2, a) = 40 from if_pos ha]; exact hr
  refine Go.runR (callT_mono MT _) [27, 42] 200 hR ?_
  refine And.intro (fun c30 => ?_) (fun c30 => ?_)
  · try dsimp only at c30
    have hk2 := lq_e c30 q rfl hk (by omega)
    subst hk2
    exact h hg
  · try dsimp only at c30
    have hk2 := lq_m c30 q rfl hk (by omega)
    refine m_Ce_get1 (by repeat' (first | exact hR | apply OKR.pI | apply OKR.pL | apply OKR.cpI | apply OKR.wI)) (n := r) (j := k) (by omega) hl q hk2 (And.intro (by repeat' (first | exact hR | apply OKR.pI | apply OKR.pL | apply OKR.cpI | apply OKR.wI)) ?_)
    rw [hf k hk2]
    refine m_X_isRise (by repeat' (first | exact hR | apply OKR.pI | apply OKR.pL | apply OKR.cpI | apply OKR.wI))  (And.intro (by repeat' (first | exact hR | apply OKR.pI | apply OKR.pL | apply OKR.cpI | apply OKR.wI)) ?_)
    refine And.intro (fun c35 => ?_) (fun c35 => ?_)
    · try dsimp only at c35
      refine m_X_found3 (by repeat' (first | exact hR | apply OKR.pI | apply OKR.pL | apply OKR.cpI | apply OKR.wI))  (And.intro (by repeat' (first | exact hR | apply OKR.pI | apply OKR.pL | apply OKR.cpI | apply OKR.wI)) ?_)
      refine And.intro trivial ?_
      exact h3 (fun z => by have y : b2 (0 ≤ f k ∧ f k ≤ 200) = 1 := if_pos (z k hk2); rw [y] at c35; exact absurd c35 (by decide))
    · try dsimp only at c35
      refine go_eq (ls' := [vo 0 0 0, b, vo 0 1 a, vi (nI (k + 1))]) (by rw [nI_succ]; rfl) rfl (l_X_joined27 hR ha hr q hf h3 h (k + 1) hk2 (fun t ht => ?_))
      rcases Nat.lt_or_ge t k with z | z
      · exact hg t z
      · rw [show t = k by omega]
        exact Classical.byContradiction (fun y => c35 (if_neg y))
termination_by r - k
decreasing_by all_goals omega

theorem p_joined {d : Nat} {m : Mem} {K : Option Vv → Option Vv → Mem → Prop} (R : RelAB m) {r0 : Int32} (h : ∀ v m', RelAB m' → K v v m') : cW (d + 7) n_X_joined [vo 0 0 0, vi r0] m (fun u m1 => cW (d + 7) n_M_joined [vo 1 0 0, vi r0] m1 (fun w m2 => K u w m2)) := by
  have hR := R.1
  obtain ⟨n, hc⟩ := R.2.2.2.2
  obtain ⟨D, hS⟩ := hc.sc hR
  have ht := R.2.2.2.1
  obtain ⟨q1, q2⟩ := hc.many
  have h8 := hc.le
  have hz : gI m (0, 15, 0) 0 = 0 ∧ gI m (0, 16, 0) 0 = 0 := ht.2.2.2.2.2
  rcases R.rowCase r0 with q | ⟨a, ha, rfl, s1, s2⟩ | ⟨a, r, ha, rfl, hr, s1, s2, s3⟩
  · refine w_X_joined (Go.runR (callT_mono MT _) [27] 200 (by repeat' (first | exact hR | exact g1.ok | exact g2.ok | exact g3.ok | apply OKR.pI | apply OKR.pL | apply OKR.cpI | apply OKR.wI)) ?_)
    refine m_X_isRow0 (by repeat' (first | exact hR | exact g1.ok | exact g2.ok | exact g3.ok | apply OKR.pI | apply OKR.pL | apply OKR.cpI | apply OKR.wI)) q (And.intro (by repeat' (first | exact hR | exact g1.ok | exact g2.ok | exact g3.ok | apply OKR.pI | apply OKR.pL | apply OKR.cpI | apply OKR.wI)) ?_)
    refine And.intro (fun c3 => ?_) (fun c3 => ?_)
    · try dsimp only at c3
      refine And.intro trivial ?_
      refine w_M_joined (Go.runR (callT_mono MT _) [21] 200 (by repeat' (first | exact hR | exact g1.ok | exact g2.ok | exact g3.ok | apply OKR.pI | apply OKR.pL | apply OKR.cpI | apply OKR.wI)) ?_)
      refine m_M_askedRow0 (by repeat' (first | exact hR | exact g1.ok | exact g2.ok | exact g3.ok | apply OKR.pI | apply OKR.pL | apply OKR.cpI | apply OKR.wI)) q (And.intro (by repeat' (first | exact hR | exact g1.ok | exact g2.ok | exact g3.ok | apply OKR.pI | apply OKR.pL | apply OKR.cpI | apply OKR.wI)) ?_)
      refine And.intro (fun c5 => ?_) (fun c5 => ?_)
      · first | exact absurd c5 (by decide) | exact absurd (by decide) c5 | (exfalso; grind)
      · try dsimp only at c5
        refine And.intro trivial ?_
        exact h _ _ R
    · first | exact absurd c3 (by decide) | exact absurd (by decide) c3 | (exfalso; grind)
  · have e0 : (nI a).toNatClampNeg = a := nI_clamp (by omega)
    refine w_X_joined (Go.runR (callT_mono MT _) [27] 200 (by repeat' (first | exact hR | exact g1.ok | exact g2.ok | exact g3.ok | apply OKR.pI | apply OKR.pL | apply OKR.cpI | apply OKR.wI)) ?_)
    refine m_X_isRow1 (by repeat' (first | exact hR | exact g1.ok | exact g2.ok | exact g3.ok | apply OKR.pI | apply OKR.pL | apply OKR.cpI | apply OKR.wI)) ha (And.intro (by repeat' (first | exact hR | exact g1.ok | exact g2.ok | exact g3.ok | apply OKR.pI | apply OKR.pL | apply OKR.cpI | apply OKR.wI)) ?_)
    refine And.intro (fun c3 => ?_) (fun c3 => ?_)
    · first | exact absurd c3 (by decide) | exact absurd (by decide) c3 | (exfalso; grind)
    · try dsimp only at c3
      refine And.intro ⟨(by first | decide | assumption | omega), (by first | decide | assumption | omega)⟩ ?_
      refine And.intro ⟨(vp_nI (N := 6) ha (by decide)), ⟨rfl, by rw [e0]; exact ha⟩⟩ ?_
      rw [show (nI a).toNatClampNeg = a from e0]
      refine m_Ce_isMissing1 (by repeat' (first | exact hR | exact g1.ok | exact g2.ok | exact g3.ok | apply OKR.pI | apply OKR.pL | apply OKR.cpI | apply OKR.wI)) s1 (And.intro (by repeat' (first | exact hR | exact g1.ok | exact g2.ok | exact g3.ok | apply OKR.pI | apply OKR.pL | apply OKR.cpI | apply OKR.wI)) ?_)
      refine And.intro (fun c13 => ?_) (fun c13 => ?_)
      · first | exact absurd c13 (by decide) | exact absurd (by decide) c13 | (exfalso; grind)
      · try dsimp only at c13
        refine m_X_found1 (by repeat' (first | exact hR | exact g1.ok | exact g2.ok | exact g3.ok | apply OKR.pI | apply OKR.pL | apply OKR.cpI | apply OKR.wI))  (And.intro (by repeat' (first | exact hR | exact g1.ok | exact g2.ok | exact g3.ok | apply OKR.pI | apply OKR.pL | apply OKR.cpI | apply OKR.wI)) ?_)
        refine And.intro trivial ?_
        refine w_M_joined (Go.runR (callT_mono MT _) [21] 200 (by repeat' (first | exact hR | exact g1.ok | exact g2.ok | exact g3.ok | apply OKR.pI | apply OKR.pL | apply OKR.cpI | apply OKR.wI)) ?_)
        refine m_M_askedRow1 (by repeat' (first | exact hR | exact g1.ok | exact g2.ok | exact g3.ok | apply OKR.pI | apply OKR.pL | apply OKR.cpI | apply OKR.wI)) ha (by exact s2) (And.intro (by repeat' (first | exact hR | exact g1.ok | exact g2.ok | exact g3.ok | apply OKR.pI | apply OKR.pL | apply OKR.cpI | apply OKR.wI)) ?_)
        refine And.intro (fun c5 => ?_) (fun c5 => ?_)
        · first | exact absurd c5 (by decide) | exact absurd (by decide) c5 | (exfalso; grind)
        · try dsimp only at c5
          refine And.intro trivial ?_
          exact h _ _ (R.meet (by omega) (by omega))
  · have e0 : (nI a).toNatClampNeg = a := nI_clamp (by omega)
    rcases Nat.eq_zero_or_pos r with y | y
    · subst y
      refine w_X_joined (Go.runR (callT_mono MT _) [27] 200 (by repeat' (first | exact hR | exact g1.ok | exact g2.ok | exact g3.ok | apply OKR.pI | apply OKR.pL | apply OKR.cpI | apply OKR.wI)) ?_)
      refine m_X_isRow1 (by repeat' (first | exact hR | exact g1.ok | exact g2.ok | exact g3.ok | apply OKR.pI | apply OKR.pL | apply OKR.cpI | apply OKR.wI)) ha (And.intro (by repeat' (first | exact hR | exact g1.ok | exact g2.ok | exact g3.ok | apply OKR.pI | apply OKR.pL | apply OKR.cpI | apply OKR.wI)) ?_)
      refine And.intro (fun c3 => ?_) (fun c3 => ?_)
      · first | exact absurd c3 (by decide) | exact absurd (by decide) c3 | (exfalso; grind)
      · try dsimp only at c3
        refine And.intro ⟨(by first | decide | assumption | omega), (by first | decide | assumption | omega)⟩ ?_
        refine And.intro ⟨(vp_nI (N := 6) ha (by decide)), ⟨rfl, by rw [e0]; exact ha⟩⟩ ?_
        rw [show (nI a).toNatClampNeg = a from e0]
        refine m_Ce_isMissing0 (by repeat' (first | exact hR | exact g1.ok | exact g2.ok | exact g3.ok | apply OKR.pI | apply OKR.pL | apply OKR.cpI | apply OKR.wI)) (n := 0) (by omega) s1 (And.intro (by repeat' (first | exact hR | exact g1.ok | exact g2.ok | exact g3.ok | apply OKR.pI | apply OKR.pL | apply OKR.cpI | apply OKR.wI)) ?_)
        refine And.intro (fun c13 => ?_) (fun c13 => ?_)
        · try dsimp only at c13
          refine And.intro (fun c20 => ?_) (fun c20 => ?_)
          · try dsimp only at c20
            refine m_X_found5 (by repeat' (first | exact hR | exact g1.ok | exact g2.ok | exact g3.ok | apply OKR.pI | apply OKR.pL | apply OKR.cpI | apply OKR.wI))  (And.intro (by repeat' (first | exact hR | exact g1.ok | exact g2.ok | exact g3.ok | apply OKR.pI | apply OKR.pL | apply OKR.cpI | apply OKR.wI)) ?_)
            refine And.intro trivial ?_
            refine w_M_joined (Go.runR (callT_mono MT _) [21] 200 (by repeat' (first | exact hR | exact g1.ok | exact g2.ok | exact g3.ok | apply OKR.pI | apply OKR.pL | apply OKR.cpI | apply OKR.wI)) ?_)
            refine m_M_askedRow2 (by repeat' (first | exact hR | exact g1.ok | exact g2.ok | exact g3.ok | apply OKR.pI | apply OKR.pL | apply OKR.cpI | apply OKR.wI)) (n := 0) ha (by omega) (by exact s2) (And.intro (by repeat' (first | exact hR | exact g1.ok | exact g2.ok | exact g3.ok | apply OKR.pI | apply OKR.pL | apply OKR.cpI | apply OKR.wI)) ?_)
            refine And.intro (fun c5 => ?_) (fun c5 => ?_)
            · try dsimp only at c5
              refine And.intro ⟨rfl, rfl, rfl⟩ ?_
              refine And.intro (vp_nI (N := 6) ha (by decide)) ?_
              refine And.intro (fun c14 => ?_) (fun c14 => ?_)
              · try dsimp only at c14
                refine m_M_meet5 (by repeat' (first | exact hR | exact g1.ok | exact g2.ok | exact g3.ok | apply OKR.pI | apply OKR.pL | apply OKR.cpI | apply OKR.wI))  (And.intro (by repeat' (first | exact hR | exact g1.ok | exact g2.ok | exact g3.ok | apply OKR.pI | apply OKR.pL | apply OKR.cpI | apply OKR.wI)) ?_)
                refine And.intro trivial ?_
                exact h _ _ (R.meet (by omega) (by omega))
              · exact absurd (by show gI m (1, 2, 0) (nI a).toNatClampNeg = 0; rw [e0]; exact s2) c14
            · first | exact absurd c5 (by decide) | exact absurd (by decide) c5 | (exfalso; grind)
          · exact absurd (show gI m (0, 1, a) 1 = 0 from s1) c20
        · first | exact absurd c13 (by decide) | exact absurd (by decide) c13 | (exfalso; grind)
    · obtain ⟨f, hf⟩ : ∃ f : Nat → Int32, f = gI m (0, 2, a) := ⟨_, rfl⟩
      refine w_X_joined (Go.runR (callT_mono MT _) [27] 200 (by repeat' (first | exact hR | exact g1.ok | exact g2.ok | exact g3.ok | apply OKR.pI | apply OKR.pL | apply OKR.cpI | apply OKR.wI)) ?_)
      refine m_X_isRow1 (by repeat' (first | exact hR | exact g1.ok | exact g2.ok | exact g3.ok | apply OKR.pI | apply OKR.pL | apply OKR.cpI | apply OKR.wI)) ha (And.intro (by repeat' (first | exact hR | exact g1.ok | exact g2.ok | exact g3.ok | apply OKR.pI | apply OKR.pL | apply OKR.cpI | apply OKR.wI)) ?_)
      refine And.intro (fun c3 => ?_) (fun c3 => ?_)
      · first | exact absurd c3 (by decide) | exact absurd (by decide) c3 | (exfalso; grind)
      · try dsimp only at c3
        refine And.intro ⟨(by first | decide | assumption | omega), (by first | decide | assumption | omega)⟩ ?_
        refine And.intro ⟨(vp_nI (N := 6) ha (by decide)), ⟨rfl, by rw [e0]; exact ha⟩⟩ ?_
        rw [show (nI a).toNatClampNeg = a from e0]
        refine m_Ce_isMissing0 (by repeat' (first | exact hR | exact g1.ok | exact g2.ok | exact g3.ok | apply OKR.pI | apply OKR.pL | apply OKR.cpI | apply OKR.wI)) (n := r) (by omega) s1 (And.intro (by repeat' (first | exact hR | exact g1.ok | exact g2.ok | exact g3.ok | apply OKR.pI | apply OKR.pL | apply OKR.cpI | apply OKR.wI)) ?_)
        refine And.intro (fun c13 => ?_) (fun c13 => ?_)
        · try dsimp only at c13
          refine And.intro (fun c20 => ?_) (fun c20 => ?_)
          · exact absurd (s1.symm.trans c20) (sz0 y (by omega))
          · try dsimp only at c20
            refine go_eq (ls' := [vo 0 0 0, vi (nI a), vo 0 1 a, vi (nI 0)]) rfl rfl (l_X_joined27 (f := f) (r := r) hR ha hr s1 (fun t _ => by rw [hf]) (fun nz => ?_) (fun az => ?_) 0 (Nat.zero_le _) (fun t ht => absurd ht (by omega)))
            · have t2 : gI (foundM m 3) (1, 2, 0) a = nI r := s2
              refine w_M_joined (Go.runR (callT_mono MT _) [21] 200 (by repeat' (first | exact hR | exact g1.ok | exact g2.ok | exact g3.ok | apply OKR.pI | apply OKR.pL | apply OKR.cpI | apply OKR.wI)) ?_)
              refine m_M_askedRow2 (by repeat' (first | exact hR | exact g1.ok | exact g2.ok | exact g3.ok | apply OKR.pI | apply OKR.pL | apply OKR.cpI | apply OKR.wI)) (n := r) ha (by omega) (by exact t2) (And.intro (by repeat' (first | exact hR | exact g1.ok | exact g2.ok | exact g3.ok | apply OKR.pI | apply OKR.pL | apply OKR.cpI | apply OKR.wI)) ?_)
              refine And.intro (fun c5 => ?_) (fun c5 => ?_)
              · try dsimp only at c5
                refine And.intro ⟨rfl, rfl, rfl⟩ ?_
                refine And.intro (by exact vp_nI (k := a) (N := 6) (by omega) (by decide)) ?_
                refine And.intro (fun c14 => ?_) (fun c14 => ?_)
                · exact absurd ((show gI m (1, 2, 0) (nI a).toNatClampNeg = nI r by rw [e0]; exact s2).symm.trans c14) (sz0 y (by omega))
                · try dsimp only at c14
                  refine go_eq (ls' := [vo 1 0 0, vi (nI a), vi 0, vi (nI r), vi (nI 0), vu, vu]) ?_ rfl (l_M_joined21 (f := f) (by exact hS.found) ha hr (by exact t2) (fun t ht => ?_) (fun z => h _ _ (R.meet (by omega) (by omega))) (fun z => absurd z nz) 0 (Nat.zero_le _) (fun t ht => absurd ht (by omega)))
                  · show [vo 1 0 0, vi (nI a), vi 0, vi (gI _ (1, 2, 0) (nI a).toNatClampNeg), vi 0, vu, vu] = _
                    rw [e0, t2]
                    rfl
                  · rw [show gI (foundM m 3) (1, 3, 0) (40 * a + t) = gI m (1, 3, 0) (40 * a + t) from rfl, hf]
                    exact (s3 t ht).symm
              · first | exact absurd c5 (by decide) | exact absurd (by decide) c5 | (exfalso; grind)
            · refine Go.runR (callT_mono MT _) [] 200 hR ?_
              refine And.intro ⟨(by first | decide | assumption | omega), (by first | decide | assumption | omega)⟩ ?_
              refine And.intro ⟨(by first | decide | assumption | omega), (by first | decide | assumption | omega)⟩ ?_
              refine m_Se_lookAt (by exact hS) hz (fun m1 g1 hE => And.intro g1.ok ?_)
              refine And.intro ⟨(by first | decide | assumption | omega), (by first | decide | assumption | omega)⟩ ?_
              have k1 : gI m1 (0, 1, a) 1 = nI r := (g1.2.2.2.2.1 1 a 1 (by omega)).trans s1
              refine m_Se_waysToJoin (f := f) hE ha hr k1 (fun t _ => ?_) (And.intro (by repeat' (first | exact hR | exact g1.ok | exact g2.ok | exact g3.ok | apply OKR.pI | apply OKR.pL | apply OKR.cpI | apply OKR.wI)) ?_)
              · rw [hf]; exact g1.2.2.2.2.1 2 a t (by omega)
              refine And.intro trivial ?_
              have t2 : gI m1 (1, 2, 0) a = nI r := (g1.2.2.2.2.2.2 2 a (by omega) (by omega) (by omega)).trans s2
              refine w_M_joined (Go.runR (callT_mono MT _) [21] 200 (by repeat' (first | exact hR | exact g1.ok | exact g2.ok | exact g3.ok | apply OKR.pI | apply OKR.pL | apply OKR.cpI | apply OKR.wI)) ?_)
              refine m_M_askedRow2 (by repeat' (first | exact hR | exact g1.ok | exact g2.ok | exact g3.ok | apply OKR.pI | apply OKR.pL | apply OKR.cpI | apply OKR.wI)) (n := r) ha (by omega) (by exact t2) (And.intro (by repeat' (first | exact hR | exact g1.ok | exact g2.ok | exact g3.ok | apply OKR.pI | apply OKR.pL | apply OKR.cpI | apply OKR.wI)) ?_)
              refine And.intro (fun c5 => ?_) (fun c5 => ?_)
              · try dsimp only at c5
                refine And.intro ⟨rfl, rfl, rfl⟩ ?_
                refine And.intro (by exact vp_nI (k := a) (N := 6) (by omega) (by decide)) ?_
                refine And.intro (fun c14 => ?_) (fun c14 => ?_)
                · exact absurd ((show gI m1 (1, 2, 0) (nI a).toNatClampNeg = nI r by rw [e0]; exact t2).symm.trans c14) (sz0 y (by omega))
                · try dsimp only at c14
                  refine go_eq (ls' := [vo 1 0 0, vi (nI a), vi 0, vi (nI r), vi (nI 0), vu, vu]) ?_ rfl (l_M_joined21 (f := f) (by exact hE.1) ha hr (by exact t2) (fun t ht => ?_) (fun z => absurd az z) (fun z => h _ _ (g1.rel R)) 0 (Nat.zero_le _) (fun t ht => absurd ht (by omega)))
                  · show [vo 1 0 0, vi (nI a), vi 0, vi (gI _ (1, 2, 0) (nI a).toNatClampNeg), vi 0, vu, vu] = _
                    rw [e0, t2]
                    rfl
                  · rw [g1.2.2.2.2.2.2 3 (40 * a + t) (by omega) (by omega) (by omega), hf]
                    exact (s3 t ht).symm
              · first | exact absurd c5 (by decide) | exact absurd (by decide) c5 | (exfalso; grind)
        · first | exact absurd c13 (by decide) | exact absurd (by decide) c13 | (exfalso; grind)
