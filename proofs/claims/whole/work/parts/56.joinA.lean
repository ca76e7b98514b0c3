/-! Written by a program (wip/whole/p56.py): joined. -/
def ob (D : SDt) (s i : Nat) : Bool := !s.testBit i && !decide (dK D i = 4)
def bsd (D : SDt) (s : Nat) (x : Int32) (k : Nat) : Nat := itr (fun i a => a + if ob D s i = true ∧ nI (rp D i) = x then 1 else 0) 0 k
theorem bsds (D : SDt) (s : Nat) (x : Int32) (k : Nat) : bsd D s x (k + 1) = bsd D s x k + if ob D s k = true ∧ nI (rp D k) = x then 1 else 0 := rfl
theorem bsdL (D : SDt) (s : Nat) (x : Int32) : ∀ k, bsd D s x k ≤ k
  | 0 => Nat.le_refl _
  | k + 1 => by
    have := bsdL D s x k
    rw [bsds]
    split <;> omega
def unN (n : Nat) (D : SDt) (f : Nat → Int32) (s k : Nat) : Nat := itr (fun t a => a + if f t = nI (rs n D s) then 0 else 1) 0 k
theorem uns (n : Nat) (D : SDt) (f : Nat → Int32) (s k : Nat) : unN n D f s (k + 1) = unN n D f s k + if f k = nI (rs n D s) then 0 else 1 := rfl
theorem unL (n : Nat) (D : SDt) (f : Nat → Int32) (s : Nat) : ∀ k, unN n D f s k ≤ k
  | 0 => Nat.le_refl _
  | k + 1 => by
    have := unL n D f s k
    rw [uns]
    split <;> omega
def jls (n : Nat) (D : SDt) (f : Nat → Int32) (s k : Nat) : Int32 := itr (fun t a => if f t = nI (rs n D s) then a else f t - nI (rs n D s)) 0 k
theorem jlss (n : Nat) (D : SDt) (f : Nat → Int32) (s k : Nat) : jls n D f s (k + 1) = if f k = nI (rs n D s) then jls n D f s k else f k - nI (rs n D s) := rfl
def jwK (n : Nat) (D : SDt) (f : Nat → Int32) (r s k : Nat) : Nat := if unN n D f s r = 0 then 1 + r * bsd D s 0 k else if unN n D f s r = 1 then bsd D s (jls n D f s r) k else 0
def jT (n : Nat) (D : SDt) (f : Nat → Int32) (r k : Nat) : Nat := itr (fun s a => a + if (nI s &&& mu n D) = 0 then jwK n D f r s n else 0) 0 k
theorem jTs (n : Nat) (D : SDt) (f : Nat → Int32) (r k : Nat) : jT n D f r (k + 1) = jT n D f r k + if (nI k &&& mu n D) = 0 then jwK n D f r k n else 0 := rfl
theorem sub_z {x y : Int32} : x - y = 0 ↔ x = y := by
  constructor
  · intro h; grind
  · intro h; grind
theorem or_lt {a b : Nat} (ha : a < 256) (hb : b < 256) : a ||| b < 256 := Nat.or_lt_two_pow (n := 8) ha hb
theorem ob_or {n : Nat} (D : SDt) {s i : Nat} (hi : i < n) : (s ||| mN D n).testBit i = !(ob D s i) := by
  rw [Nat.testBit_or, mN_b D n i hi]
  unfold ob
  cases s.testBit i <;> simp
theorem ob_n {n : Nat} (h8 : n ≤ 8) (D : SDt) {s i : Nat} (hi : i < n) : (((2 ^ n - 1) &&& (255 ^^^ mN D n)) &&& (255 ^^^ s)).testBit i = ob D s i := by
  rw [Nat.testBit_and, Nat.testBit_and, Nat.testBit_two_pow_sub_one, Nat.testBit_xor, Nat.testBit_xor, nt_b i (by omega), mN_b D n i hi]
  unfold ob
  simp [hi]
  cases s.testBit i <;> simp
theorem oth_e {n : Nat} (h8 : n ≤ 8) (D : SDt) {s : Nat} (hs : s < 256) : (nI (2 ^ n - 1) &&& (mu n D ^^^ (-1))) &&& (nI s ^^^ (-1)) = nI (((2 ^ n - 1) &&& (255 ^^^ mN D n)) &&& (255 ^^^ s)) := by
  have b2 := two_l n (by omega)
  have b3 := two_p n
  rw [muE D n h8, andnot (by omega) (Nat.lt_of_lt_of_le (mN_lt D n) b2), andnot (and_lt256 (by omega)) hs]

theorem l_Se_beside {d n : Nat} {D : SDt} {m : Mem} {K : Option Vv → Mem → Prop} {s : Nat} {x : Int32} (hE : SeR n D m) (hs : s < 2 ^ n) (h : K (some (vi (nI (bsd D s x n)))) m) (k : Nat) (hk : k ≤ n) : Go (cW (d + 1)) i_Se_howManyBeside (0, 0) K 4 [vo 0 14 0, vi (nI s), vi x, vi (nI (bsd D s x k)), vi (nI k)] [] m 0 0 := by
  have hR := hE.1.ok
  have h8 := hE.1.le
  have q1 : gI m (0, 14, 0) 4 = nI n := hE.2.2.1
  have bb2 := two_l n (by omega)
  have eor : nI s ||| gI m (0, 14, 0) 5 = nI (s ||| mN D n) := by rw [hE.2.2.2.1, muE D n h8, nI_or]
  have ml := Nat.lt_of_lt_of_le (mN_lt D n) bb2
  refine Go.runR (callT_mono MT _) [4] 200 hR ?_
  refine And.intro (fun c7 => ?_) (fun c7 => ?_)
  · try dsimp only at c7
    obtain rfl := lq_e c7 q1 rfl hk (by omega)
    refine And.intro trivial ?_
    exact h
  · try dsimp only at c7
    have hk2 := lq_m c7 q1 rfl hk (by omega)
    have te := two_e k (by omega)
    have tl := two_l k (by omega)
    have pk : 2 ^ k < 2 ^ n := Nat.pow_lt_pow_right (by decide) hk2
    have rr : gI m (0, 15, 0) ((1 : Int32) <<< (nI k &&& 31)).toNatClampNeg = nI (rp D k) := by rw [te, nI_clamp (by omega), ← rs_one hk2]; exact hE.2.2.2.2.1 _ pk
    have bo := ob_or (n := n) D (s := s) hk2
    have key : ∀ b, b = nI (bsd D s x (k + 1)) → Go (cW (d + 1)) i_Se_howManyBeside (0, 0) K 4 [vo 0 14 0, vi (nI s), vi x, vi b, vi (nI k + 1)] [] m 0 0 := fun b z => go_eq (by rw [z, ← nI_succ]) rfl (l_Se_beside hE hs h (k + 1) hk2)
    rw [bsds, ← nI_add] at key
    refine m_X_contains (by repeat' (first | exact hR | apply OKR.pI | apply OKR.pL | apply OKR.cpI | apply OKR.wI)) (s := s ||| mN D n) (i := k) eor rfl (or_lt (by omega) ml) (by omega) (And.intro (by repeat' (first | exact hR | apply OKR.pI | apply OKR.pL | apply OKR.cpI | apply OKR.wI)) ?_)
    refine And.intro (fun c15 => ?_) (fun c15 => ?_)
    · try dsimp only at c15
      have ot : ob D s k = true := by have := tb_e0 c15; rw [bo] at this; simpa using this
      refine And.intro ⟨(by first | decide | assumption | omega), (by first | decide | assumption | omega)⟩ ?_
      refine And.intro (by show vp_in ((1 : Int32) <<< (nI k &&& 31)) 256; rw [te]; exact vp_nI (by omega) (by decide)) ?_
      refine And.intro (fun c23 => ?_) (fun c23 => ?_)
      · try dsimp only at c23
        rw [rr] at c23
        first
        | exact key _ (by rw [if_pos ⟨ot, c23⟩]; rfl)
        | exact key _ (by rw [if_neg (fun z => c23 z.2)]; rfl)
        | exact key _ (by rw [if_neg (fun z => ot z.1)]; rfl)
      · try dsimp only at c23
        rw [rr] at c23
        first
        | exact key _ (by rw [if_pos ⟨ot, c23⟩]; rfl)
        | exact key _ (by rw [if_neg (fun z => c23 z.2)]; rfl)
        | exact key _ (by rw [if_neg (fun z => ot z.1)]; rfl)
    · try dsimp only at c15
      have ot : ¬ ob D s k = true := by have := tb_n0 c15; rw [bo] at this; simpa using this
      first
      | exact key _ (by rw [if_pos ⟨ot, c23⟩]; rfl)
      | exact key _ (by rw [if_neg (fun z => c23 z.2)]; rfl)
      | exact key _ (by rw [if_neg (fun z => ot z.1)]; rfl)
termination_by n - k
decreasing_by all_goals omega

theorem m_Se_beside {d n : Nat} {D : SDt} {m : Mem} {K : Option Vv → Mem → Prop} {s : Nat} {u x y : Int32} (hE : SeR n D m) (hu : u = nI s) (hx : y = x) (hs : s < 2 ^ n) (h : K (some (vi (nI (bsd D s x n)))) m) : cW (d + 2) n_Se_howManyBeside [vo 0 14 0, vi u, vi y] m K := by
  subst hu; subst hx
  have hR := hE.1.ok
  refine w_Se_howManyBeside (Go.runR (callT_mono MT _) [4] 200 hR ?_)
  exact l_Se_beside hE hs h 0 (Nat.zero_le _)

theorem l_Se_ways20 {d n : Nat} {D : SDt} {m : Mem} {K : Option Vv → Mem → Prop} {f : Nat → Int32} {a r s : Nat} {b : Vv} (hE : SeR n D m) (ha : a < 6) (hr : r ≤ 40) (q : gI m (0, 1, a) 1 = nI r) (hf : ∀ t, t < r → gI m (0, 2, a) t = f t) (hs : s < 2 ^ n) (h : ∀ y, Go (cW (d + 2)) i_Se_waysToJoin (0, 0) K 40 [vo 0 14 0, vo 0 1 a, b, vi (nI s), vi (nI (unN n D f s r)), vi (jls n D f s r), vi (nI r), y] [] m 0 0) (k : Nat) (x : Vv) (hk : k ≤ r) : Go (cW (d + 2)) i_Se_waysToJoin (0, 0) K 20 [vo 0 14 0, vo 0 1 a, b, vi (nI s), vi (nI (unN n D f s k)), vi (jls n D f s k), vi (nI k), x] [] m 0 0 := by
  have hR := hE.1.ok
  have h8 := hE.1.le
  have bb2 := two_l n (by omega)
  have hl : r ≤ ln (0, 2, a) := by rw [show ln (0, 2, a) = 40 from if_pos ha]; exact hr
  have rr : gI m (0, 15, 0) (nI s).toNatClampNeg = nI (rs n D s) := by rw [nI_clamp (by omega)]; exact hE.2.2.2.2.1 s hs
  refine Go.runR (callT_mono MT _) [20, 40] 200 hR ?_
  refine And.intro (fun c23 => ?_) (fun c23 => ?_)
  · try dsimp only at c23
    have hk2 := lq_e c23 q rfl hk (by omega)
    subst hk2
    exact h _
  · try dsimp only at c23
    have hk2 := lq_m c23 q rfl hk (by omega)
    have key : ∀ b1 b2 y, b1 = nI (unN n D f s (k + 1)) → b2 = jls n D f s (k + 1) → Go (cW (d + 2)) i_Se_waysToJoin (0, 0) K 20 [vo 0 14 0, vo 0 1 a, b, vi (nI s), vi b1, vi b2, vi (nI k + 1), y] [] m 0 0 := fun b1 b2 y z1 z2 => go_eq (by rw [z1, z2, ← nI_succ]) rfl (l_Se_ways20 hE ha hr q hf hs h (k + 1) y hk2)
    rw [uns, jlss, ← nI_add] at key
    refine m_Ce_get1 (by repeat' (first | exact hR | apply OKR.pI | apply OKR.pL | apply OKR.cpI | apply OKR.wI)) (n := r) (j := k) (by omega) hl q hk2 (And.intro (by repeat' (first | exact hR | apply OKR.pI | apply OKR.pL | apply OKR.cpI | apply OKR.wI)) ?_)
    rw [hf k hk2]
    refine And.intro ⟨(by first | decide | assumption | omega), (by first | decide | assumption | omega)⟩ ?_
    refine And.intro (vp_nI (k := s) (N := 256) (by omega) (by decide)) ?_
    refine And.intro (fun c34 => ?_) (fun c34 => ?_)
    · try dsimp only at c34
      rw [rr] at c34
      have e := sub_z.mp c34
      rw [if_pos e, if_pos e] at key
      exact key _ _ _ (by first | rfl | exact (i_add0 _).symm) (by first | rfl | rw [rr])
    · try dsimp only at c34
      rw [rr] at c34
      have e := mt sub_z.mpr c34
      rw [if_neg e, if_neg e] at key
      exact key _ _ _ (by first | rfl | exact (i_add0 _).symm) (by first | rfl | rw [rr])
termination_by r - k
decreasing_by all_goals omega

theorem l_Se_ways4 {d n : Nat} {D : SDt} {m : Mem} {K : Option Vv → Mem → Prop} {f : Nat → Int32} {a r : Nat} (hE : SeR n D m) (ha : a < 6) (hr : r ≤ 40) (q : gI m (0, 1, a) 1 = nI r) (hf : ∀ t, t < r → gI m (0, 2, a) t = f t) (h : K (some (vi (nI (jT n D f r (2 ^ n))))) m) (k : Nat) (x1 x2 x3 x4 : Vv) (hk : k ≤ 2 ^ n) : Go (cW (d + 2)) i_Se_waysToJoin (0, 0) K 4 [vo 0 14 0, vo 0 1 a, vi (nI (jT n D f r k)), vi (nI k), x1, x2, x3, x4] [] m 0 0 := by
  have hR := hE.1.ok
  have h8 := hE.1.le
  have bb2 := two_l n (by omega)
  have q1 : gI m (0, 14, 0) 3 = nI (2 ^ n) := hE.2.1
  have q5 : gI m (0, 14, 0) 5 = mu n D := hE.2.2.2.1
  have uL := unL n D f k r
  refine Go.runR (callT_mono MT _) [4, 20] 200 hR ?_
  refine And.intro (fun c7 => ?_) (fun c7 => ?_)
  · try dsimp only at c7
    have hk2 := lq_e c7 q1 rfl hk (by omega)
    refine And.intro trivial ?_
    rw [hk2]; exact h
  · try dsimp only at c7
    have hk2 := lq_m c7 q1 rfl hk (by omega)
    have key : ∀ b1 y1 y2 y3 y4, b1 = nI (jT n D f r (k + 1)) → Go (cW (d + 2)) i_Se_waysToJoin (0, 0) K 4 [vo 0 14 0, vo 0 1 a, vi b1, vi (nI k + 1), y1, y2, y3, y4] [] m 0 0 := fun b1 y1 y2 y3 y4 z => go_eq (by rw [z, ← nI_succ]) rfl (l_Se_ways4 hE ha hr q hf h (k + 1) y1 y2 y3 y4 hk2)
    rw [jTs, ← nI_add] at key
    refine And.intro (fun c12 => ?_) (fun c12 => ?_)
    · try dsimp only at c12
      rw [q5] at c12
      rw [if_pos c12] at key
      refine go_eq (ls' := [vo 0 14 0, vo 0 1 a, vi (nI (jT n D f r k)), vi (nI k), vi (nI (unN n D f k 0)), vi (jls n D f k 0), vi (nI 0), x4]) rfl rfl (l_Se_ways20 hE ha hr q hf hk2 (fun y => ?_) 0 _ (Nat.zero_le _))
      have u0 : nI (unN n D f k r) = 0 ↔ unN n D f k r = 0 := nI_z (by omega)
      have u1 : nI (unN n D f k r) = 1 ↔ unN n D f k r = 1 := nI_eq (b := 1) (by omega) (by omega)
      unfold jwK at key
      refine Go.runR (callT_mono MT _) [4] 200 hR ?_
      refine And.intro (fun c41 => ?_) (fun c41 => ?_)
      · try dsimp only at c41
        rw [if_pos (u0.mp c41)] at key
        refine m_Se_beside hE (s := k) (x := 0) rfl rfl hk2 (And.intro (by repeat' (first | exact hR | apply OKR.pI | apply OKR.pL | apply OKR.cpI | apply OKR.wI)) ?_)
        first
        | exact key _ _ _ _ _ (by
            show nI (jT n D f r k) + (1 + gI m (0, 1, a) 1 * nI (bsd D k 0 n)) = _
            rw [q, pk_mul, show (1 : Int32) = nI 1 from rfl, nI_add 1])
        | exact key _ _ _ _ _ rfl
        | exact key _ _ _ _ _ (i_add0 _).symm
      · try dsimp only at c41
        rw [if_neg (mt u0.mpr c41)] at key
        refine And.intro (fun c57 => ?_) (fun c57 => ?_)
        · try dsimp only at c57
          rw [if_pos (u1.mp c57)] at key
          refine m_Se_beside hE (s := k) (x := jls n D f k r) rfl rfl hk2 (And.intro (by repeat' (first | exact hR | apply OKR.pI | apply OKR.pL | apply OKR.cpI | apply OKR.wI)) ?_)
          first
          | exact key _ _ _ _ _ (by
              show nI (jT n D f r k) + (1 + gI m (0, 1, a) 1 * nI (bsd D k 0 n)) = _
              rw [q, pk_mul, show (1 : Int32) = nI 1 from rfl, nI_add 1])
          | exact key _ _ _ _ _ rfl
          | exact key _ _ _ _ _ (i_add0 _).symm
        · try dsimp only at c57
          rw [if_neg (mt u1.mpr c57)] at key
          first
          | exact key _ _ _ _ _ (by
              show nI (jT n D f r k) + (1 + gI m (0, 1, a) 1 * nI (bsd D k 0 n)) = _
              rw [q, pk_mul, show (1 : Int32) = nI 1 from rfl, nI_add 1])
          | exact key _ _ _ _ _ rfl
          | exact key _ _ _ _ _ (i_add0 _).symm
    · try dsimp only at c12
      rw [q5] at c12
      rw [if_neg c12] at key
      exact key _ _ _ _ _ (i_add0 _).symm
termination_by 2 ^ n - k
decreasing_by all_goals omega

theorem m_Se_waysToJoin {d n : Nat} {D : SDt} {m : Mem} {K : Option Vv → Mem → Prop} {f : Nat → Int32} {a r : Nat} (hE : SeR n D m) (ha : a < 6) (hr : r ≤ 40) (q : gI m (0, 1, a) 1 = nI r) (hf : ∀ t, t < r → gI m (0, 2, a) t = f t) (h : K (some (vi (nI (jT n D f r (2 ^ n))))) m) : cW (d + 3) n_Se_waysToJoin [vo 0 14 0, vo 0 1 a] m K := by
  have hR := hE.1.ok
  refine w_Se_waysToJoin (Go.runR (callT_mono MT _) [4] 200 hR ?_)
  exact l_Se_ways4 hE ha hr q hf h 0 _ _ _ _ (Nat.zero_le _)
