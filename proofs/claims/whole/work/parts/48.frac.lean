/-! Written by a program (wip/whole/p48.py): fractions; odds. -/
abbrev frA (m : Mem) (u w : Nat) : Mem := pL (pL m (0, 18, 0) 0 (lN (u / Nat.gcd w u))) (0, 18, 0) 1 (lN (w / Nat.gcd w u))
abbrev frB (m : Mem) (u w : Nat) : Mem := pL (pL m (1, 0, 0) 3 (lN (u / Nat.gcd w u))) (1, 0, 0) 4 (lN (w / Nat.gcd w u))
theorem rL00 (m : Mem) (t i k : Nat) (v : Int64) (t' i' k' : Nat) : gL (pL m (0, t, i) k v) (0, t', i') k' = if t' = t ∧ i' = i ∧ k' = k then v else gL m (0, t', i') k' := rfl
theorem rL11 (m : Mem) (t i k : Nat) (v : Int64) (t' i' k' : Nat) : gL (pL m (1, t, i) k v) (1, t', i') k' = if t' = t ∧ i' = i ∧ k' = k then v else gL m (1, t', i') k' := rfl
theorem gR_pL' (m : Mem) (o : Id3) (k : Nat) (v : Int64) (o' : Id3) (k' : Nat) : gR (pL m o k v) o' k' = gR m o' k' := by
  obtain ⟨a, t, i⟩ := o
  obtain ⟨a', t', i'⟩ := o'
  rcases a with _ | _ | a <;> rcases a' with _ | _ | a' <;> rfl
theorem SC.frA {n : Nat} {D : SDt} {m : Mem} (H : SC n D m) {u w : Nat} : SC n D (frA m u w) := SC.cg (m := m) H.ok.pL.pL (fun i => kn_rw (fun _ => rfl) i) (fun _ _ _ _ => rfl) (fun _ _ => rfl) (fun _ _ _ => rfl) H
theorem Fr.frB {a b : Mem} (h : Fr a b) {u w : Nat} : Fr (frB a u w) (frB b u w) :=
  ⟨h.1.pL.pL, fun o k => by rw [gR_pL', gR_pL', gR_pL', gR_pL']; exact h.2.1 o k, h.2.2.1, fun k q => by
    rw [rL11, rL11, rL11, rL11]
    split
    · rfl
    · split
      · rfl
      · exact h.2.2.2.1 k q, fun t i k q => h.2.2.2.2.1 t i k q, fun k q => h.2.2.2.2.2.1 k q, fun t k q1 q2 q3 => h.2.2.2.2.2.2 t k q1 q2 q3⟩
theorem RelAB.frac {m : Mem} (R : RelAB m) (u w : Nat) : RelAB (frB (frA m u w) u w) := by
  obtain ⟨a, b, c, d, n, e⟩ := R
  refine ⟨a.pL.pL.pL.pL, b.cg (fun _ _ => rfl) (fun _ _ _ => rfl) (fun _ => rfl) (fun _ => rfl), c.cg (fun _ => rfl) (fun _ _ => rfl) (fun _ => rfl) (fun _ => rfl), ⟨d.1, d.2.1, d.2.2.1, rfl, rfl, d.2.2.2.2.2⟩, n, e.cg (fun i => kn_rw (fun _ => rfl) i) (fun t i k ht => rfl) (fun k hk => rfl) (fun t k ht => rfl)⟩
theorem RelAB.frac2 {m m1 m2 : Mem} (R : RelAB m) (g : Fr m m1) {u w : Nat} (g2 : Fr (frA m1 u w) m2) : RelAB (frB m2 u w) := g2.frB.rel ((g.rel R).frac u w)
theorem mod_half {x y : Nat} (h : y ≤ x) (h0 : 0 < y) : 2 * (x % y) < x := by
  have a := Nat.div_add_mod x y
  have b := Nat.mod_lt x h0
  have c : 1 ≤ x / y := (Nat.one_le_div_iff h0).mpr h
  have e := Nat.mul_le_mul_left y c
  omega
theorem gcd_st (x y : Nat) : Nat.gcd y (x % y) = Nat.gcd x y := by rw [Nat.gcd_comm x y, Nat.gcd_rec y x, Nat.gcd_comm]
theorem lz {k : Nat} (hk : k < 2 ^ 63) : lg_cmp (lN k) 0 = 0 ↔ k = 0 := by rw [lg_cmp_eq, show (0 : Int64) = lN 0 from rfl]; exact pk_lEQ hk (by omega)
theorem lnz {k : Nat} (h0 : 0 < k) (hk : k < 2 ^ 63) : ¬ lN k = 0 := by rw [show (0 : Int64) = lN 0 from rfl, pk_lEQ hk (by omega)]; omega

theorem l_Fr_become {d : Nat} {m : Mem} {K : Option Vv → Mem → Prop} {u w : Nat} (hR : OKR m) (hu : u ≤ w) (hw : 0 < w) (hw2 : w < 2 ^ 30) (h : K none (frA m u w)) : ∀ (t s x y : Nat) (z : Vv), y ≤ x → 0 < x → x < 2 ^ 30 → x * y < 2 ^ t → s + t ≤ 199 → Nat.gcd x y = Nat.gcd w u → Go (cW d) i_Fr_become (0, 0) K 6 [vo 0 18 0, vl (lN u), vu, vl (lN w), vu, vl (lN x), vu, vl (lN y), vu, vi (nI s), z, vu] [] m 0 0 := by
  intro t s x y z hyx hx hx2 hxy hs hg
  refine Go.runR (callT_mono MT _) [6] 200 hR ?_
  refine And.intro (fun c8 => ?_) (fun c8 => ?_)
  · exact absurd c8 (nI_ge (b := 200) (by omega) (by decide))
  · try dsimp only at c8
    refine And.intro (fun c12 => ?_) (fun c12 => ?_)
    · try dsimp only at c12
      have hy := (lz (by omega)).mp c12
      refine And.intro (fun c26 => ?_) (fun c26 => ?_)
      · exact absurd ((lz (by omega)).mp c26) (by omega)
      · try dsimp only at c26
        refine And.intro (lnz hx (by omega)) ?_
        refine And.intro (lnz hx (by omega)) ?_
        refine And.intro trivial ?_
        show K none (pL (pL m (0, 18, 0) 0 (lN u / lN x)) (0, 18, 0) 1 (lN w / lN x))
        rw [pk_lDiv (by omega) hx (by omega), pk_lDiv (by omega) hx (by omega)]
        rw [hy, Nat.gcd_zero_right] at hg
        rw [hg]
        exact h
    · try dsimp only at c12
      have hy : ¬ y = 0 := fun z => c12 ((lz (k := y) (by omega)).mpr z)
      refine And.intro (lnz (by omega) (by omega)) ?_
      have hy0 : 0 < y := by omega
      have hm := Nat.mod_lt x hy0
      have hh := mod_half hyx hy0
      have hp : y * (x % y) * 2 < x * y := by
        have := Nat.mul_lt_mul_of_pos_left hh hy0
        rw [Nat.mul_comm x y, Nat.mul_assoc, Nat.mul_comm (x % y) 2]
        exact this
      match t, hxy, hs with
      | 0, hxy, _ => exact absurd (Nat.mul_pos hx hy0) (by omega)
      | t + 1, hxy, hs =>
        refine go_eq (ls' := [vo 0 18 0, vl (lN u), vu, vl (lN w), vu, vl (lN y), vu, vl (lN (x % y)), vu, vi (nI (s + 1)), vl (lN (x % y)), vu]) ?_ rfl (l_Fr_become hR hu hw hw2 h t (s + 1) y (x % y) _ (by omega) hy0 (by omega) (by rw [Nat.pow_succ] at hxy; omega) (by omega) ((gcd_st x y).trans hg))
        rw [nI_succ, ← pk_lRem (a := x) (b := y) (by omega) hy0 (by omega)]
        rfl
termination_by t => t
decreasing_by all_goals omega

theorem m_Fr_become {d : Nat} {m : Mem} {K : Option Vv → Mem → Prop} {U W : Int64} {u w : Nat} (hR : OKR m) (hU : U = lN u) (hW : W = lN w) (hu : u ≤ w) (hw : 0 < w) (hw2 : w < 2 ^ 30) (h : K none (frA m u w)) : cW (d + 1) n_Fr_become [vo 0 18 0, vl U, vl W] m K := by
  subst hU; subst hW
  refine w_Fr_become (Go.runR (callT_mono MT _) [6] 200 hR ?_)
  refine go_eq (ls' := [vo 0 18 0, vl (lN u), vu, vl (lN w), vu, vl (lN w), vu, vl (lN u), vu, vi (nI 0), vu, vu]) rfl rfl (l_Fr_become hR hu hw hw2 h 60 0 w u vu hu hw (by omega) ?_ (by omega) rfl)
  have := Nat.mul_lt_mul'' hw2 (Nat.lt_of_le_of_lt hu hw2)
  exact this

theorem l_M_part {d : Nat} {m : Mem} {K : Option Vv → Mem → Prop} {u w : Nat} {a : Int32} (hR : OKR m) (hu : u ≤ w) (hw : 0 < w) (hw2 : w < 2 ^ 30) (h : K (some (vi a)) (frB m u w)) : ∀ (y x : Nat) (z : Vv), y < 2 ^ 30 → x < 2 ^ 30 → Nat.gcd x y = Nat.gcd w u → Go (cW d) i_M_part (0, 0) K 4 [vo 1 0 0, vl (lN u), vu, vl (lN w), vu, vi a, vl (lN x), vu, vl (lN y), vu, z, vu] [] m 0 0 := by
  intro y x z hy2 hx2 hg
  have hG : 0 < Nat.gcd w u := Nat.gcd_pos_of_pos_left _ hw
  refine Go.runR (callT_mono MT _) [4] 200 hR ?_
  refine And.intro (fun c7 => ?_) (fun c7 => ?_)
  · try dsimp only at c7
    have hy := (lz (by omega)).mp c7
    rw [hy, Nat.gcd_zero_right] at hg
    have hx : 0 < x := by omega
    refine And.intro (lnz hx (by omega)) ?_
    refine And.intro (lnz hx (by omega)) ?_
    refine And.intro trivial ?_
    show K (some (vi a)) (pL (pL m (1, 0, 0) 3 (lN u / lN x)) (1, 0, 0) 4 (lN w / lN x))
    rw [pk_lDiv (by omega) hx (by omega), pk_lDiv (by omega) hx (by omega), hg]
    exact h
  · try dsimp only at c7
    have hy : ¬ y = 0 := fun z => c7 ((lz (k := y) (by omega)).mpr z)
    have hy0 : 0 < y := by omega
    have hm := Nat.mod_lt x hy0
    refine And.intro (lnz (by omega) (by omega)) ?_
    refine go_eq (ls' := [vo 1 0 0, vl (lN u), vu, vl (lN w), vu, vi a, vl (lN y), vu, vl (lN (x % y)), vu, vl (lN (x % y)), vu]) ?_ rfl (l_M_part hR hu hw hw2 h (x % y) y _ (by omega) hy2 ((gcd_st x y).trans hg))
    rw [← pk_lRem (a := x) (b := y) (by omega) hy0 (by omega)]
    rfl
termination_by y => y
decreasing_by all_goals omega

theorem m_M_part {d : Nat} {m : Mem} {K : Option Vv → Mem → Prop} {U W : Int64} {u w : Nat} {a : Int32} (hR : OKR m) (hU : U = lN u) (hW : W = lN w) (hu : u ≤ w) (hw : 0 < w) (hw2 : w < 2 ^ 30) (h : K (some (vi a)) (frB m u w)) : cW (d + 1) n_M_part [vo 1 0 0, vl U, vl W, vi a] m K := by
  subst hU; subst hW
  refine w_M_part (Go.runR (callT_mono MT _) [4] 200 hR ?_)
  exact go_eq (ls' := [vo 1 0 0, vl (lN u), vu, vl (lN w), vu, vi a, vl (lN u), vu, vl (lN w), vu, vu, vu]) rfl rfl (l_M_part hR hu hw hw2 h w u vu hw2 (by omega) (Nat.gcd_comm u w))

theorem p_odds {d : Nat} {m : Mem} {K : Option Vv → Option Vv → Mem → Prop} (R : RelAB m) {i v : Int32} (h : ∀ v m', RelAB m' → K v v m') : cW (d + 6) n_X_odds [vo 0 0 0, vi i, vi v] m (fun u m1 => cW (d + 6) n_M_odds [vo 1 0 0, vi i, vi v] m1 (fun w m2 => K u w m2)) := by
  have hR := R.1
  obtain ⟨n, hc⟩ := R.2.2.2.2
  obtain ⟨D, hS⟩ := hc.sc hR
  have ht := R.2.2.2.1
  obtain ⟨q1, q2⟩ := hc.many
  have h8 := hc.le
  have hz : gI m (0, 15, 0) 0 = 0 ∧ gI m (0, 16, 0) 0 = 0 := ht.2.2.2.2.2
  have mL := fM_lt hS v
  rcases RelAB.placeCase (n := n) (by omega) i with q | ⟨j, hj, rfl⟩
  · refine w_X_odds (Go.runR (callT_mono MT _) [] 200 (by repeat' (first | exact hR | exact g1.ok | exact g2.ok | exact g3.ok | apply OKR.pI | apply OKR.pL | apply OKR.cpI | apply OKR.wI)) ?_)
    refine And.intro ⟨(by first | decide | assumption | omega), (by first | decide | assumption | omega)⟩ ?_
    refine m_St_hasHouse0 (by repeat' (first | exact hR | exact g1.ok | exact g2.ok | exact g3.ok | apply OKR.pI | apply OKR.pL | apply OKR.cpI | apply OKR.wI)) (n := n) q1 q (And.intro (by repeat' (first | exact hR | exact g1.ok | exact g2.ok | exact g3.ok | apply OKR.pI | apply OKR.pL | apply OKR.cpI | apply OKR.wI)) ?_)
    refine And.intro (fun c4 => ?_) (fun c4 => ?_)
    · try dsimp only at c4
      refine And.intro trivial ?_
      refine w_M_odds (Go.runR (callT_mono MT _) [] 200 (by repeat' (first | exact hR | exact g1.ok | exact g2.ok | exact g3.ok | apply OKR.pI | apply OKR.pL | apply OKR.cpI | apply OKR.wI)) ?_)
      refine m_M_isHouse0 (by repeat' (first | exact hR | exact g1.ok | exact g2.ok | exact g3.ok | apply OKR.pI | apply OKR.pL | apply OKR.cpI | apply OKR.wI)) (n := n) (by exact q2) h8 q (And.intro (by repeat' (first | exact hR | exact g1.ok | exact g2.ok | exact g3.ok | apply OKR.pI | apply OKR.pL | apply OKR.cpI | apply OKR.wI)) ?_)
      refine And.intro (fun c3 => ?_) (fun c3 => ?_)
      · try dsimp only at c3
        refine And.intro trivial ?_
        exact h _ _ R
      · first | exact absurd c3 (by decide) | exact absurd (by decide) c3 | (exfalso; grind)
    · first | exact absurd c4 (by decide) | exact absurd (by decide) c4 | (exfalso; grind)
  · have e0 : (nI j).toNatClampNeg = j := nI_clamp (by omega)
    by_cases q : 0 ≤ v ∧ v ≤ 200
    · by_cases z : fM n D v (2 ^ n) = 0
      · refine w_X_odds (Go.runR (callT_mono MT _) [] 200 (by repeat' (first | exact hR | exact g1.ok | exact g2.ok | exact g3.ok | apply OKR.pI | apply OKR.pL | apply OKR.cpI | apply OKR.wI)) ?_)
        refine And.intro ⟨(by first | decide | assumption | omega), (by first | decide | assumption | omega)⟩ ?_
        refine m_St_hasHouse1 (by repeat' (first | exact hR | exact g1.ok | exact g2.ok | exact g3.ok | apply OKR.pI | apply OKR.pL | apply OKR.cpI | apply OKR.wI)) (n := n) q1 h8 hj (And.intro (by repeat' (first | exact hR | exact g1.ok | exact g2.ok | exact g3.ok | apply OKR.pI | apply OKR.pL | apply OKR.cpI | apply OKR.wI)) ?_)
        refine And.intro (fun c4 => ?_) (fun c4 => ?_)
        · first | exact absurd c4 (by decide) | exact absurd (by decide) c4 | (exfalso; grind)
        · try dsimp only at c4
          refine m_X_isRise (by repeat' (first | exact hR | exact g1.ok | exact g2.ok | exact g3.ok | apply OKR.pI | apply OKR.pL | apply OKR.cpI | apply OKR.wI)) (And.intro (by repeat' (first | exact hR | exact g1.ok | exact g2.ok | exact g3.ok | apply OKR.pI | apply OKR.pL | apply OKR.cpI | apply OKR.wI)) ?_)
          rw [show b2 (0 ≤ v ∧ v ≤ 200) = 1 from if_pos q]
          refine And.intro (fun c7 => ?_) (fun c7 => ?_)
          · first | exact absurd c7 (by decide) | exact absurd (by decide) c7 | (exfalso; grind)
          · try dsimp only at c7
            refine And.intro ⟨(by first | decide | assumption | omega), (by first | decide | assumption | omega)⟩ ?_
            refine And.intro ⟨(by first | decide | assumption | omega), (by first | decide | assumption | omega)⟩ ?_
            refine m_Se_lookAt (by exact hS) hz (fun m1 g1 hE => And.intro g1.ok ?_)
            refine And.intro ⟨(by first | decide | assumption | omega), (by first | decide | assumption | omega)⟩ ?_
            refine m_Se_howManyFit hE  (And.intro (by repeat' (first | exact hR | exact g1.ok | exact g2.ok | exact g3.ok | apply OKR.pI | apply OKR.pL | apply OKR.cpI | apply OKR.wI)) ?_)
            refine And.intro (fun c21 => ?_) (fun c21 => ?_)
            · try dsimp only at c21
              refine m_X_found4 (by repeat' (first | exact hR | exact g1.ok | exact g2.ok | exact g3.ok | apply OKR.pI | apply OKR.pL | apply OKR.cpI | apply OKR.wI))  (And.intro (by repeat' (first | exact hR | exact g1.ok | exact g2.ok | exact g3.ok | apply OKR.pI | apply OKR.pL | apply OKR.cpI | apply OKR.wI)) ?_)
              refine And.intro trivial ?_
              refine w_M_odds (Go.runR (callT_mono MT _) [] 200 (by repeat' (first | exact hR | exact g1.ok | exact g2.ok | exact g3.ok | apply OKR.pI | apply OKR.pL | apply OKR.cpI | apply OKR.wI)) ?_)
              refine m_M_isHouse1 (by repeat' (first | exact hR | exact g1.ok | exact g2.ok | exact g3.ok | apply OKR.pI | apply OKR.pL | apply OKR.cpI | apply OKR.wI)) (n := n) (by first | exact q2 | exact hE.1.nB | exact hE.1.found.nB | exact hE.1.tell.nB | exact hE.1.frA.nB) h8 hj (And.intro (by repeat' (first | exact hR | exact g1.ok | exact g2.ok | exact g3.ok | apply OKR.pI | apply OKR.pL | apply OKR.cpI | apply OKR.wI)) ?_)
              refine And.intro (fun c3 => ?_) (fun c3 => ?_)
              · first | exact absurd c3 (by decide) | exact absurd (by decide) c3 | (exfalso; grind)
              · try dsimp only at c3
                refine m_M_isRise (by repeat' (first | exact hR | exact g1.ok | exact g2.ok | exact g3.ok | apply OKR.pI | apply OKR.pL | apply OKR.cpI | apply OKR.wI)) (And.intro (by repeat' (first | exact hR | exact g1.ok | exact g2.ok | exact g3.ok | apply OKR.pI | apply OKR.pL | apply OKR.cpI | apply OKR.wI)) ?_)
                rw [show b2 (0 ≤ v ∧ v ≤ 200) = 1 from if_pos q]
                refine And.intro (fun c6 => ?_) (fun c6 => ?_)
                · first | exact absurd c6 (by decide) | exact absurd (by decide) c6 | (exfalso; grind)
                · try dsimp only at c6
                  refine m_M_setFits (by exact hE.1.found) (fun m2 F => And.intro F.1.ok ?_)
                  have g2 := F.1
                  refine And.intro (fun c14 => ?_) (fun c14 => ?_)
                  · try dsimp only at c14
                    refine m_M_meet4 (by repeat' (first | exact hR | exact g1.ok | exact g2.ok | exact g3.ok | apply OKR.pI | apply OKR.pL | apply OKR.cpI | apply OKR.wI))  (And.intro (by repeat' (first | exact hR | exact g1.ok | exact g2.ok | exact g3.ok | apply OKR.pI | apply OKR.pL | apply OKR.cpI | apply OKR.wI)) ?_)
                    refine And.intro trivial ?_
                    exact h _ _ (R.meet2 g1 (by omega) (by omega) g2)
                  · exact absurd (F.2.1.trans ((nI_z mL).mpr z)) c14
            · exact absurd ((nI_z mL).mpr z) c21
      · have hW := fWL n D v j (2 ^ n)
        have bb2 := fML n D v (2 ^ n)
        have bb3 := two_l n (by omega)
        refine w_X_odds (Go.runR (callT_mono MT _) [] 200 (by repeat' (first | exact hR | exact g1.ok | exact g2.ok | exact g3.ok | apply OKR.pI | apply OKR.pL | apply OKR.cpI | apply OKR.wI)) ?_)
        refine And.intro ⟨(by first | decide | assumption | omega), (by first | decide | assumption | omega)⟩ ?_
        refine m_St_hasHouse1 (by repeat' (first | exact hR | exact g1.ok | exact g2.ok | exact g3.ok | apply OKR.pI | apply OKR.pL | apply OKR.cpI | apply OKR.wI)) (n := n) q1 h8 hj (And.intro (by repeat' (first | exact hR | exact g1.ok | exact g2.ok | exact g3.ok | apply OKR.pI | apply OKR.pL | apply OKR.cpI | apply OKR.wI)) ?_)
        refine And.intro (fun c4 => ?_) (fun c4 => ?_)
        · first | exact absurd c4 (by decide) | exact absurd (by decide) c4 | (exfalso; grind)
        · try dsimp only at c4
          refine m_X_isRise (by repeat' (first | exact hR | exact g1.ok | exact g2.ok | exact g3.ok | apply OKR.pI | apply OKR.pL | apply OKR.cpI | apply OKR.wI)) (And.intro (by repeat' (first | exact hR | exact g1.ok | exact g2.ok | exact g3.ok | apply OKR.pI | apply OKR.pL | apply OKR.cpI | apply OKR.wI)) ?_)
          rw [show b2 (0 ≤ v ∧ v ≤ 200) = 1 from if_pos q]
          refine And.intro (fun c7 => ?_) (fun c7 => ?_)
          · first | exact absurd c7 (by decide) | exact absurd (by decide) c7 | (exfalso; grind)
          · try dsimp only at c7
            refine And.intro ⟨(by first | decide | assumption | omega), (by first | decide | assumption | omega)⟩ ?_
            refine And.intro ⟨(by first | decide | assumption | omega), (by first | decide | assumption | omega)⟩ ?_
            refine m_Se_lookAt (by exact hS) hz (fun m1 g1 hE => And.intro g1.ok ?_)
            refine And.intro ⟨(by first | decide | assumption | omega), (by first | decide | assumption | omega)⟩ ?_
            refine m_Se_howManyFit hE  (And.intro (by repeat' (first | exact hR | exact g1.ok | exact g2.ok | exact g3.ok | apply OKR.pI | apply OKR.pL | apply OKR.cpI | apply OKR.wI)) ?_)
            refine And.intro (fun c21 => ?_) (fun c21 => ?_)
            · exact absurd ((nI_z mL).mp c21) z
            · try dsimp only at c21
              refine And.intro ⟨(by first | decide | assumption | omega), (by first | decide | assumption | omega)⟩ ?_
              refine m_Se_howManyFitWith hE rfl (by omega) (And.intro (by repeat' (first | exact hR | exact g1.ok | exact g2.ok | exact g3.ok | apply OKR.pI | apply OKR.pL | apply OKR.cpI | apply OKR.wI)) ?_)
              refine And.intro ⟨(by first | decide | assumption | omega), (by first | decide | assumption | omega)⟩ ?_
              refine m_Fr_become (by repeat' (first | exact hR | exact g1.ok | exact g2.ok | exact g3.ok | apply OKR.pI | apply OKR.pL | apply OKR.cpI | apply OKR.wI)) (u := fW n D v j (2 ^ n)) (w := fM n D v (2 ^ n)) (nI_l (by omega)) (nI_l (by omega)) hW (by omega) (by omega) (And.intro (by repeat' (first | exact hR | exact g1.ok | exact g2.ok | exact g3.ok | apply OKR.pI | apply OKR.pL | apply OKR.cpI | apply OKR.wI)) ?_)
              refine And.intro trivial ?_
              refine w_M_odds (Go.runR (callT_mono MT _) [] 200 (by repeat' (first | exact hR | exact g1.ok | exact g2.ok | exact g3.ok | apply OKR.pI | apply OKR.pL | apply OKR.cpI | apply OKR.wI)) ?_)
              refine m_M_isHouse1 (by repeat' (first | exact hR | exact g1.ok | exact g2.ok | exact g3.ok | apply OKR.pI | apply OKR.pL | apply OKR.cpI | apply OKR.wI)) (n := n) (by first | exact q2 | exact hE.1.nB | exact hE.1.found.nB | exact hE.1.tell.nB | exact hE.1.frA.nB) h8 hj (And.intro (by repeat' (first | exact hR | exact g1.ok | exact g2.ok | exact g3.ok | apply OKR.pI | apply OKR.pL | apply OKR.cpI | apply OKR.wI)) ?_)
              refine And.intro (fun c3 => ?_) (fun c3 => ?_)
              · first | exact absurd c3 (by decide) | exact absurd (by decide) c3 | (exfalso; grind)
              · try dsimp only at c3
                refine m_M_isRise (by repeat' (first | exact hR | exact g1.ok | exact g2.ok | exact g3.ok | apply OKR.pI | apply OKR.pL | apply OKR.cpI | apply OKR.wI)) (And.intro (by repeat' (first | exact hR | exact g1.ok | exact g2.ok | exact g3.ok | apply OKR.pI | apply OKR.pL | apply OKR.cpI | apply OKR.wI)) ?_)
                rw [show b2 (0 ≤ v ∧ v ≤ 200) = 1 from if_pos q]
                refine And.intro (fun c6 => ?_) (fun c6 => ?_)
                · first | exact absurd c6 (by decide) | exact absurd (by decide) c6 | (exfalso; grind)
                · try dsimp only at c6
                  refine m_M_setFits (by exact hE.1.frA) (fun m2 F => And.intro F.1.ok ?_)
                  have g2 := F.1
                  have hj2 : gI m2 (1, 14, 0) (nI j).toNatClampNeg = nI (fW n D v j (2 ^ n)) := by rw [e0]; exact F.2.2.2.2.2 j hj
                  refine And.intro (fun c14 => ?_) (fun c14 => ?_)
                  · exact absurd ((nI_z mL).mp (F.2.1.symm.trans c14)) z
                  · try dsimp only at c14
                    refine And.intro ⟨rfl, rfl, rfl⟩ ?_
                    refine And.intro (by exact vp_nI (k := j) (N := 8) (by omega) (by decide)) ?_
                    refine And.intro ⟨rfl, rfl, rfl⟩ ?_
                    refine And.intro (by exact vp_nI (k := j) (N := 8) (by omega) (by decide)) ?_
                    refine m_M_part (by repeat' (first | exact hR | exact g1.ok | exact g2.ok | exact g3.ok | apply OKR.pI | apply OKR.pL | apply OKR.cpI | apply OKR.wI)) (u := fW n D v j (2 ^ n)) (w := fM n D v (2 ^ n)) (by rw [hj2]; exact nI_l (by omega)) (by rw [show gI m2 (1, 0, 0) 27 = _ from F.2.1]; exact nI_l (by omega)) hW (by omega) (by omega) (And.intro (by repeat' (first | exact hR | exact g1.ok | exact g2.ok | exact g3.ok | apply OKR.pI | apply OKR.pL | apply OKR.cpI | apply OKR.wI)) ?_)
                    refine And.intro trivial ?_
                    rw [hj2]
                    exact h _ _ (R.frac2 g1 g2)
    · refine w_X_odds (Go.runR (callT_mono MT _) [] 200 (by repeat' (first | exact hR | exact g1.ok | exact g2.ok | exact g3.ok | apply OKR.pI | apply OKR.pL | apply OKR.cpI | apply OKR.wI)) ?_)
      refine And.intro ⟨(by first | decide | assumption | omega), (by first | decide | assumption | omega)⟩ ?_
      refine m_St_hasHouse1 (by repeat' (first | exact hR | exact g1.ok | exact g2.ok | exact g3.ok | apply OKR.pI | apply OKR.pL | apply OKR.cpI | apply OKR.wI)) (n := n) q1 h8 hj (And.intro (by repeat' (first | exact hR | exact g1.ok | exact g2.ok | exact g3.ok | apply OKR.pI | apply OKR.pL | apply OKR.cpI | apply OKR.wI)) ?_)
      refine And.intro (fun c4 => ?_) (fun c4 => ?_)
      · first | exact absurd c4 (by decide) | exact absurd (by decide) c4 | (exfalso; grind)
      · try dsimp only at c4
        refine m_X_isRise (by repeat' (first | exact hR | exact g1.ok | exact g2.ok | exact g3.ok | apply OKR.pI | apply OKR.pL | apply OKR.cpI | apply OKR.wI)) (And.intro (by repeat' (first | exact hR | exact g1.ok | exact g2.ok | exact g3.ok | apply OKR.pI | apply OKR.pL | apply OKR.cpI | apply OKR.wI)) ?_)
        rw [show b2 (0 ≤ v ∧ v ≤ 200) = 0 from if_neg q]
        refine And.intro (fun c7 => ?_) (fun c7 => ?_)
        · try dsimp only at c7
          refine And.intro trivial ?_
          refine w_M_odds (Go.runR (callT_mono MT _) [] 200 (by repeat' (first | exact hR | exact g1.ok | exact g2.ok | exact g3.ok | apply OKR.pI | apply OKR.pL | apply OKR.cpI | apply OKR.wI)) ?_)
          refine m_M_isHouse1 (by repeat' (first | exact hR | exact g1.ok | exact g2.ok | exact g3.ok | apply OKR.pI | apply OKR.pL | apply OKR.cpI | apply OKR.wI)) (n := n) (by first | exact q2 | exact hE.1.nB | exact hE.1.found.nB | exact hE.1.tell.nB | exact hE.1.frA.nB) h8 hj (And.intro (by repeat' (first | exact hR | exact g1.ok | exact g2.ok | exact g3.ok | apply OKR.pI | apply OKR.pL | apply OKR.cpI | apply OKR.wI)) ?_)
          refine And.intro (fun c3 => ?_) (fun c3 => ?_)
          · first | exact absurd c3 (by decide) | exact absurd (by decide) c3 | (exfalso; grind)
          · try dsimp only at c3
            refine m_M_isRise (by repeat' (first | exact hR | exact g1.ok | exact g2.ok | exact g3.ok | apply OKR.pI | apply OKR.pL | apply OKR.cpI | apply OKR.wI)) (And.intro (by repeat' (first | exact hR | exact g1.ok | exact g2.ok | exact g3.ok | apply OKR.pI | apply OKR.pL | apply OKR.cpI | apply OKR.wI)) ?_)
            rw [show b2 (0 ≤ v ∧ v ≤ 200) = 0 from if_neg q]
            refine And.intro (fun c6 => ?_) (fun c6 => ?_)
            · try dsimp only at c6
              refine And.intro trivial ?_
              exact h _ _ R
            · first | exact absurd c6 (by decide) | exact absurd (by decide) c6 | (exfalso; grind)
        · first | exact absurd c7 (by decide) | exact absurd (by decide) c7 | (exfalso; grind)
