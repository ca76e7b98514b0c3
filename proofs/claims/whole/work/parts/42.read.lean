/-! Written by a program (wip/whole/p42.py): what is read of a street, on both sides. -/
theorem itS {α : Type} (f : Nat → α → α) (a : α) (k : Nat) : itr f a (k + 1) = f k (itr f a k) := rfl
def sn (D : SDt) (i : Nat) : Nat := snd (dK D i) (dL D i)
def rp (D : SDt) (i : Nat) : Nat := sn D i - (dW D i + far i (dA D))
def tb (s i : Nat) : Int32 := if s.testBit i then 1 else 0
def rs (n : Nat) (D : SDt) (s : Nat) : Nat := itr (fun k a => a + if s.testBit k then rp D k else 0) 0 n
def mu (n : Nat) (D : SDt) : Int32 := itr (fun k a => a ||| if dK D k = 4 then (1 : Int32) <<< (nI k &&& 31) else 0) 0 n
def ow (n : Nat) (D : SDt) (i : Nat) : Nat := itr (fun j a => a + dB D (8 * i + j)) 0 n
def inn (n : Nat) (D : SDt) (i : Nat) : Nat := itr (fun j a => a + dB D (8 * j + i)) 0 n
def bl (n : Nat) (D : SDt) (i : Nat) : Int32 := nI (inn n D i) - nI (ow n D i)
def exm (n : Nat) (D : SDt) (i : Nat) : Prop := dK D i = 3 ∨ (dK D i = 5 ∧ ow n D i = 0)
def ti (n : Nat) (D : SDt) (i : Nat) : Int32 := (if dK D i = 3 ∨ (dK D i = 5 ∧ ow n D i = 0) then 0 else dM D i / 10) - nI (dP D i)
theorem tbE : ∀ s, s < 256 → ∀ i, i < 8 → (((nI s >>> (nI i &&& 31)) &&& 1) = 1 ↔ s.testBit i = true) := by decide +kernel
theorem tb_n0 {s i : Nat} (h : ¬ tb s i = 0) : s.testBit i = true := by
  unfold tb at h
  cases b : s.testBit i with
  | true => rfl
  | false => rw [b] at h; exact absurd rfl h
theorem tb_e0 {s i : Nat} (h : tb s i = 0) : ¬ s.testBit i = true := fun b => by
  unfold tb at h
  rw [if_pos b] at h
  exact absurd h (by decide)
theorem rs_s1 {D : SDt} {k s : Nat} (h : s.testBit k = true) : rs (k + 1) D s = rs k D s + rp D k := by unfold rs; rw [itS, if_pos h]
theorem rs_s0 {D : SDt} {k s : Nat} (h : ¬ s.testBit k = true) : rs (k + 1) D s = rs k D s := by unfold rs; rw [itS, if_neg h]; rfl
theorem mu_s1 {D : SDt} {k : Nat} (h : dK D k = 4) : mu (k + 1) D = mu k D ||| (1 : Int32) <<< (nI k &&& 31) := by unfold mu; rw [itS, if_pos h]
theorem mu_s0 {D : SDt} {k : Nat} (h : ¬ dK D k = 4) : mu (k + 1) D = mu k D := by unfold mu; rw [itS, if_neg h]; exact Int32.or_zero
theorem i_add0 (x : Int32) : x + 0 = x := Int32.add_zero x
theorem i_or0 (x : Int32) : x ||| 0 = x := Int32.or_zero
theorem cg2 {a b c : Vv} {x y : Int32} {r : List Vv} (h : x = y) : (a :: b :: vi x :: r : List Vv) = a :: b :: vi y :: r := by rw [h]
theorem cg1 {a : Vv} {x y : Int32} {r : List Vv} (h : x = y) : (a :: vi x :: r : List Vv) = a :: vi y :: r := by rw [h]
theorem snL {n : Nat} {D : SDt} {m : Mem} (hS : SC n D m) {i : Nat} (hi : i < n) : sn D i ≤ 18 := snd_le (hS.hs hi).2.2.1
theorem rpL {n : Nat} {D : SDt} {m : Mem} (hS : SC n D m) {i : Nat} (hi : i < n) : rp D i ≤ 18 := by have := snL hS hi; unfold rp; omega
theorem hmL {n : Nat} {D : SDt} {m : Mem} {i : Nat} (hS : SC n D m) (hi : i < n) : far i (dA D) ≤ 9 := far_le (by have := hS.le; omega) (hS.al (by omega)).1

theorem m_Ho_sound {d n : Nat} {D : SDt} {m : Mem} {K : Option Vv → Mem → Prop} (hS : SC n D m) {x i : Nat} (hx : x = i) (hi : i < n) (h : K (some (vi (nI (sn D i)))) m) : cW (d + 1) n_Ho_sound [vo 0 8 x] m K := by
  have hR := hS.ok
  have h8 := hS.le
  have q1 := hS.nA
  have q2 := hS.nB
  subst hx
  have hh := hS.hs hi
  refine w_Ho_sound (Go.runR (callT_mono MT _) [] 200 hR ?_)
  refine And.intro ⟨(by first | decide | assumption | omega), (by first | decide | assumption | omega)⟩ ?_
  refine And.intro (by decide) ?_
  refine And.intro trivial ?_
  exact kvi (by show gI m (0, 8, x) 1 * kcon 2 (kn m x) / 2 = _; rw [hh.2.2.2.2.2.1, hh.1]; exact sndA _ hh.2.1 _ (by have := hh.2.2.1; omega)) h

theorem m_St_distance {d n : Nat} {D : SDt} {m : Mem} {K : Option Vv → Mem → Prop} (hS : SC n D m) {v : Int32} {i : Nat} (hv : v = nI i) (hi : i < n) (h : K (some (vi (nI (far i (dA D))))) m) : cW (d + 1) n_St_distance [vo 0 5 0, vi v] m K := by
  have hR := hS.ok
  have h8 := hS.le
  have q1 := hS.nA
  have q2 := hS.nB
  subst hv
  have ha := hS.al (by omega)
  refine w_St_distance (Go.runR (callT_mono MT _) [] 200 hR ?_)
  refine And.intro trivial ?_
  exact kvi (by show (if 0 ≤ nI i - gI m (0, 5, 0) 5 then nI i - gI m (0, 5, 0) 5 else 0 - (nI i - gI m (0, 5, 0) 5)) = _; rw [ha.2.2.1]; exact farA (by omega) ha.1) h

theorem m_St_ripple {d n : Nat} {D : SDt} {m : Mem} {K : Option Vv → Mem → Prop} (hS : SC n D m) {v : Int32} {i : Nat} (hv : v = nI i) (hi : i < n) (h : K (some (vi (nI (rp D i)))) m) : cW (d + 2) n_St_ripple [vo 0 5 0, vi v] m K := by
  have hR := hS.ok
  have h8 := hS.le
  have q1 := hS.nA
  have q2 := hS.nB
  subst hv
  have e0 : (nI i).toNatClampNeg = i := nI_clamp (by omega)
  have hh := hS.hs hi
  refine w_St_ripple (Go.runR (callT_mono MT _) [] 200 hR ?_)
  refine m_St_hasHouse1 (by repeat' (first | exact hR | apply OKR.pI | apply OKR.pL | apply OKR.cpI | apply OKR.wI)) q1 h8 hi (And.intro (by repeat' (first | exact hR | apply OKR.pI | apply OKR.pL | apply OKR.cpI | apply OKR.wI)) ?_)
  refine And.intro (fun c3 => ?_) (fun c3 => ?_)
  · first | exact absurd c3 (by decide) | exact absurd (by decide) c3 | (exfalso; grind)
  · try dsimp only at c3
    refine And.intro ⟨(by first | decide | assumption | omega), (by first | decide | assumption | omega)⟩ ?_
    refine And.intro ⟨(vp_nI (k := i) (N := 8) (by omega) (by decide)), ⟨(by decide), by rw [e0]; omega⟩⟩ ?_
    refine m_Ho_sound (by exact hS) (i := i) (by rw [e0]; omega) hi (And.intro (by repeat' (first | exact hR | apply OKR.pI | apply OKR.pL | apply OKR.cpI | apply OKR.wI)) ?_)
    refine And.intro ⟨(by first | decide | assumption | omega), (by first | decide | assumption | omega)⟩ ?_
    refine And.intro ⟨(vp_nI (k := i) (N := 8) (by omega) (by decide)), ⟨(by decide), by rw [e0]; omega⟩⟩ ?_
    refine m_St_distance (by exact hS) rfl hi (And.intro (by repeat' (first | exact hR | apply OKR.pI | apply OKR.pL | apply OKR.cpI | apply OKR.wI)) ?_)
    refine And.intro trivial ?_
    refine kvi ?_ h
    show (if 0 < nI (sn D i) - gI m (0, 8, 8 * 0 + (nI i).toNatClampNeg) 2 - nI (far i (dA D)) then nI (sn D i) - gI m (0, 8, 8 * 0 + (nI i).toNatClampNeg) 2 - nI (far i (dA D)) else 0) = _
    rw [e0, show 8 * 0 + i = i by omega, hh.2.2.2.2.2.2.1]
    have g := sub3 (snL hS hi) hh.2.2.2.1 (hmL hS hi)
    unfold rp
    split
    · rename_i z
      exact g.1 z
    · rename_i z
      rw [g.2.1 z]; rfl

theorem m_M_soundOf {d n : Nat} {D : SDt} {m : Mem} {K : Option Vv → Mem → Prop} (hS : SC n D m) {v : Int32} {i : Nat} (hv : v = nI i) (hi : i < n) (h : K (some (vi (nI (sn D i)))) m) : cW (d + 1) n_M_soundOf [vo 1 0 0, vi v] m K := by
  have hR := hS.ok
  have h8 := hS.le
  have q1 := hS.nA
  have q2 := hS.nB
  subst hv
  have e0 : (nI i).toNatClampNeg = i := nI_clamp (by omega)
  have hh := hS.hs hi
  have kk := hh.2.2.2.2.2.2.2.2.2.1
  have ll := hh.2.2.2.2.2.2.2.2.2.2.1
  refine w_M_soundOf (Go.runR (callT_mono MT _) [] 200 hR ?_)
  refine And.intro ⟨rfl, rfl, rfl⟩ ?_
  refine And.intro (by first | exact vp_nI (k := i) (N := 16) (by omega) (by decide) | exact vp_nI (k := i) (N := 8) (by omega) (by decide)) ?_
  refine And.intro (fun c7 => ?_) (fun c7 => ?_)
  · try dsimp only at c7
    refine And.intro ⟨rfl, rfl, rfl⟩ ?_
    refine And.intro (by first | exact vp_nI (k := i) (N := 16) (by omega) (by decide) | exact vp_nI (k := i) (N := 8) (by omega) (by decide)) ?_
    refine And.intro trivial ?_
    refine kvi ?_ h
    have g := sndB _ hh.2.1 _ (show dL D i < 10 by have := hh.2.2.1; omega)
    unfold sn
    rw [← g]
    simp only [e0, kk, ll] at *
    grind
  · try dsimp only at c7
    refine And.intro (fun c17 => ?_) (fun c17 => ?_)
    · try dsimp only at c17
      refine And.intro ⟨rfl, rfl, rfl⟩ ?_
      refine And.intro (by first | exact vp_nI (k := i) (N := 16) (by omega) (by decide) | exact vp_nI (k := i) (N := 8) (by omega) (by decide)) ?_
      refine And.intro (by decide) ?_
      refine And.intro trivial ?_
      refine kvi ?_ h
      have g := sndB _ hh.2.1 _ (show dL D i < 10 by have := hh.2.2.1; omega)
      unfold sn
      rw [← g]
      simp only [e0, kk, ll] at *
      grind
    · try dsimp only at c17
      refine And.intro (fun c27 => ?_) (fun c27 => ?_)
      · try dsimp only at c27
        refine And.intro trivial ?_
        refine kvi ?_ h
        have g := sndB _ hh.2.1 _ (show dL D i < 10 by have := hh.2.2.1; omega)
        unfold sn
        rw [← g]
        simp only [e0, kk, ll] at *
        grind
      · try dsimp only at c27
        refine And.intro ⟨rfl, rfl, rfl⟩ ?_
        refine And.intro (by first | exact vp_nI (k := i) (N := 16) (by omega) (by decide) | exact vp_nI (k := i) (N := 8) (by omega) (by decide)) ?_
        refine And.intro trivial ?_
        refine kvi ?_ h
        have g := sndB _ hh.2.1 _ (show dL D i < 10 by have := hh.2.2.1; omega)
        unfold sn
        rw [← g]
        simp only [e0, kk, ll] at *
        grind

theorem m_M_farOf {d n : Nat} {D : SDt} {m : Mem} {K : Option Vv → Mem → Prop} (hS : SC n D m) {v : Int32} {i : Nat} (hv : v = nI i) (hi : i < n) (h : K (some (vi (nI (far i (dA D))))) m) : cW (d + 1) n_M_farOf [vo 1 0 0, vi v] m K := by
  have hR := hS.ok
  have h8 := hS.le
  have q1 := hS.nA
  have q2 := hS.nB
  subst hv
  have ha := hS.al (by omega)
  refine w_M_farOf (Go.runR (callT_mono MT _) [] 200 hR ?_)
  refine And.intro (fun c3 => ?_) (fun c3 => ?_)
  · try dsimp only at c3
    refine And.intro trivial ?_
    refine kvi ?_ h
    have g := farB (i := i) (a := dA D) (by omega) ha.1
    rw [← g]
    have aa := ha.2.2.2.1
    grind
  · try dsimp only at c3
    refine And.intro trivial ?_
    refine kvi ?_ h
    have g := farB (i := i) (a := dA D) (by omega) ha.1
    rw [← g]
    have aa := ha.2.2.2.1
    grind

theorem m_M_rippleOf {d n : Nat} {D : SDt} {m : Mem} {K : Option Vv → Mem → Prop} (hS : SC n D m) {v : Int32} {i : Nat} (hv : v = nI i) (hi : i < n) (h : K (some (vi (nI (rp D i)))) m) : cW (d + 2) n_M_rippleOf [vo 1 0 0, vi v] m K := by
  have hR := hS.ok
  have h8 := hS.le
  have q1 := hS.nA
  have q2 := hS.nB
  subst hv
  have e0 : (nI i).toNatClampNeg = i := nI_clamp (by omega)
  have hh := hS.hs hi
  have g := sub3 (snL hS hi) hh.2.2.2.1 (hmL hS hi)
  have ww : gI m (1, 9, 0) (nI i).toNatClampNeg = nI (dW D i) := by rw [e0]; exact hh.2.2.2.2.2.2.2.2.2.2.2.1
  refine w_M_rippleOf (Go.runR (callT_mono MT _) [] 200 hR ?_)
  refine m_M_soundOf (by exact hS) rfl hi (And.intro (by repeat' (first | exact hR | apply OKR.pI | apply OKR.pL | apply OKR.cpI | apply OKR.wI)) ?_)
  refine And.intro ⟨rfl, rfl, rfl⟩ ?_
  refine And.intro (by first | exact vp_nI (k := i) (N := 16) (by omega) (by decide) | exact vp_nI (k := i) (N := 8) (by omega) (by decide)) ?_
  refine m_M_farOf (by exact hS) rfl hi (And.intro (by repeat' (first | exact hR | apply OKR.pI | apply OKR.pL | apply OKR.cpI | apply OKR.wI)) ?_)
  refine And.intro (fun c14 => ?_) (fun c14 => ?_)
  · try dsimp only at c14
    rw [ww] at c14
    refine And.intro trivial ?_
    refine kvi ?_ h
    unfold rp
    first
    | (rw [g.2.2.2 (Int32.not_le.mp c14)]; rfl)
    | (show nI (sn D i) - gI m (1, 9, 0) (nI i).toNatClampNeg - nI (far i (dA D)) = _
       rw [ww]; exact g.2.2.1 c14)
  · try dsimp only at c14
    rw [ww] at c14
    refine And.intro trivial ?_
    refine kvi ?_ h
    unfold rp
    first
    | (rw [g.2.2.2 (Int32.not_le.mp c14)]; rfl)
    | (show nI (sn D i) - gI m (1, 9, 0) (nI i).toNatClampNeg - nI (far i (dA D)) = _
       rw [ww]; exact g.2.2.1 c14)

theorem m_X_contains {d : Nat} {m : Mem} {K : Option Vv → Mem → Prop} (hR : OKR m) {a b : Int32} {s i : Nat} (ha : a = nI s) (hb : b = nI i) (hs : s < 256) (hi : i < 8) (h : K (some (vi (tb s i))) m) : cW (d + 1) n_X_contains [vi a, vi b] m K := by
  subst ha; subst hb
  have g := tbE s hs i hi
  refine w_X_contains (Go.runR (callT_mono MT _) [] 200 hR ?_)
  refine And.intro (fun c6 => ?_) (fun c6 => ?_)
  · try dsimp only at c6
    refine And.intro (by first | exact Or.inl rfl | exact Or.inr rfl | grind) ?_
    exact kvi (by unfold tb; grind) h
  · try dsimp only at c6
    refine And.intro (by first | exact Or.inl rfl | exact Or.inr rfl | grind) ?_
    exact kvi (by unfold tb; grind) h

theorem m_M_has {d : Nat} {m : Mem} {K : Option Vv → Mem → Prop} (hR : OKR m) {a b : Int32} {s i : Nat} (ha : a = nI s) (hb : b = nI i) (hs : s < 256) (hi : i < 8) (h : K (some (vi (tb s i))) m) : cW (d + 1) n_M_has [vi a, vi b] m K := by
  subst ha; subst hb
  have g := tbE s hs i hi
  refine w_M_has (Go.runR (callT_mono MT _) [] 200 hR ?_)
  refine And.intro (fun c6 => ?_) (fun c6 => ?_)
  · try dsimp only at c6
    refine And.intro (by first | exact Or.inl rfl | exact Or.inr rfl | grind) ?_
    exact kvi (by unfold tb; grind) h
  · try dsimp only at c6
    refine And.intro (by first | exact Or.inl rfl | exact Or.inr rfl | grind) ?_
    exact kvi (by unfold tb; grind) h

theorem l_St_ripplesOf {d n : Nat} {D : SDt} {m : Mem} {K : Option Vv → Mem → Prop} (hS : SC n D m) {s : Nat} (hs : s < 256) (h : K (some (vi (nI (rs n D s)))) m) (k : Nat) (hk : k ≤ n) : Go (cW (d + 2)) i_St_ripplesOf (0, 0) K 4 [vo 0 5 0, vi (nI s), vi (nI (rs k D s)), vi (nI k)] [] m 0 0 := by
  have hR := hS.ok
  have h8 := hS.le
  have q1 := hS.nA
  have q2 := hS.nB
  refine Go.runR (callT_mono MT _) [4] 200 hR ?_
  refine And.intro (fun c7 => ?_) (fun c7 => ?_)
  · try dsimp only at c7
    obtain rfl := lq_e c7 q1 rfl hk (by omega)
    refine And.intro trivial ?_
    exact h
  · try dsimp only at c7
    have hk2 := lq_m c7 q1 rfl hk (by omega)
    refine m_X_contains (by repeat' (first | exact hR | apply OKR.pI | apply OKR.pL | apply OKR.cpI | apply OKR.wI)) (s := s) (i := k) rfl rfl hs (by omega) (And.intro (by repeat' (first | exact hR | apply OKR.pI | apply OKR.pL | apply OKR.cpI | apply OKR.wI)) ?_)
    refine And.intro (fun c12 => ?_) (fun c12 => ?_)
    · try dsimp only at c12
      have key : ∀ (b : Int32), b = nI (rs (k + 1) D s) → Go (cW (d + 2)) i_St_ripplesOf (0, 0) K 4 [vo 0 5 0, vi (nI s), vi b, vi (nI k + 1)] [] (m) 0 0 := fun b z => by
        subst z
        exact go_eq (by rw [← nI_succ]) rfl (l_St_ripplesOf hS hs h (k + 1) hk2)
      exact key _ (by first | (rw [rs_s1 (tb_n0 c12), ← nI_add]; done) | (rw [rs_s0 (tb_e0 c12)]; exact i_add0 _))
    · try dsimp only at c12
      refine m_St_ripple (by exact hS) (i := k) rfl hk2 (And.intro (by repeat' (first | exact hR | apply OKR.pI | apply OKR.pL | apply OKR.cpI | apply OKR.wI)) ?_)
      have key : ∀ (b : Int32), b = nI (rs (k + 1) D s) → Go (cW (d + 2)) i_St_ripplesOf (0, 0) K 4 [vo 0 5 0, vi (nI s), vi b, vi (nI k + 1)] [] (m) 0 0 := fun b z => by
        subst z
        exact go_eq (by rw [← nI_succ]) rfl (l_St_ripplesOf hS hs h (k + 1) hk2)
      exact key _ (by first | (rw [rs_s1 (tb_n0 c12), ← nI_add]; done) | (rw [rs_s0 (tb_e0 c12)]; exact i_add0 _))
termination_by n - k
decreasing_by all_goals omega

theorem m_St_ripplesOf {d n : Nat} {D : SDt} {m : Mem} {K : Option Vv → Mem → Prop} (hS : SC n D m) {v : Int32} {s : Nat} (hv : v = nI s) (hs : s < 256) (h : K (some (vi (nI (rs n D s)))) m) : cW (d + 3) n_St_ripplesOf [vo 0 5 0, vi v] m K := by
  have hR := hS.ok
  have h8 := hS.le
  have q1 := hS.nA
  have q2 := hS.nB
  subst hv
  refine w_St_ripplesOf (Go.runR (callT_mono MT _) [4] 200 hR ?_)
  exact l_St_ripplesOf hS hs h 0 (by omega)

theorem l_M_ripples {d n : Nat} {D : SDt} {m : Mem} {K : Option Vv → Mem → Prop} (hS : SC n D m) {s : Nat} (hs : s < 256) (h : K (some (vi (nI (rs n D s)))) m) (k : Nat) (hk : k ≤ n) : Go (cW (d + 2)) i_M_ripples (0, 0) K 4 [vo 1 0 0, vi (nI s), vi (nI (rs k D s)), vi (nI k)] [] m 0 0 := by
  have hR := hS.ok
  have h8 := hS.le
  have q1 := hS.nA
  have q2 := hS.nB
  refine Go.runR (callT_mono MT _) [4] 200 hR ?_
  refine And.intro (fun c7 => ?_) (fun c7 => ?_)
  · try dsimp only at c7
    obtain rfl := lq_e c7 q2 rfl hk (by omega)
    refine And.intro trivial ?_
    exact h
  · try dsimp only at c7
    have hk2 := lq_m c7 q2 rfl hk (by omega)
    refine m_M_has (by repeat' (first | exact hR | apply OKR.pI | apply OKR.pL | apply OKR.cpI | apply OKR.wI)) (s := s) (i := k) rfl rfl hs (by omega) (And.intro (by repeat' (first | exact hR | apply OKR.pI | apply OKR.pL | apply OKR.cpI | apply OKR.wI)) ?_)
    refine And.intro (fun c12 => ?_) (fun c12 => ?_)
    · try dsimp only at c12
      have key : ∀ (b : Int32), b = nI (rs (k + 1) D s) → Go (cW (d + 2)) i_M_ripples (0, 0) K 4 [vo 1 0 0, vi (nI s), vi b, vi (nI k + 1)] [] (m) 0 0 := fun b z => by
        subst z
        exact go_eq (by rw [← nI_succ]) rfl (l_M_ripples hS hs h (k + 1) hk2)
      exact key _ (by first | (rw [rs_s1 (tb_n0 c12), ← nI_add]; done) | (rw [rs_s0 (tb_e0 c12)]; exact i_add0 _))
    · try dsimp only at c12
      refine m_M_rippleOf (by exact hS) (i := k) rfl hk2 (And.intro (by repeat' (first | exact hR | apply OKR.pI | apply OKR.pL | apply OKR.cpI | apply OKR.wI)) ?_)
      have key : ∀ (b : Int32), b = nI (rs (k + 1) D s) → Go (cW (d + 2)) i_M_ripples (0, 0) K 4 [vo 1 0 0, vi (nI s), vi b, vi (nI k + 1)] [] (m) 0 0 := fun b z => by
        subst z
        exact go_eq (by rw [← nI_succ]) rfl (l_M_ripples hS hs h (k + 1) hk2)
      exact key _ (by first | (rw [rs_s1 (tb_n0 c12), ← nI_add]; done) | (rw [rs_s0 (tb_e0 c12)]; exact i_add0 _))
termination_by n - k
decreasing_by all_goals omega

theorem m_M_ripples {d n : Nat} {D : SDt} {m : Mem} {K : Option Vv → Mem → Prop} (hS : SC n D m) {v : Int32} {s : Nat} (hv : v = nI s) (hs : s < 256) (h : K (some (vi (nI (rs n D s)))) m) : cW (d + 3) n_M_ripples [vo 1 0 0, vi v] m K := by
  have hR := hS.ok
  have h8 := hS.le
  have q1 := hS.nA
  have q2 := hS.nB
  subst hv
  refine w_M_ripples (Go.runR (callT_mono MT _) [4] 200 hR ?_)
  exact l_M_ripples hS hs h 0 (by omega)

theorem l_M_mutes {d n : Nat} {D : SDt} {m : Mem} {K : Option Vv → Mem → Prop} (hS : SC n D m)  (h : K (some (vi (mu n D))) m) (k : Nat) (hk : k ≤ n) : Go (cW (d + 0)) i_M_mutes (0, 0) K 4 [vo 1 0 0, vi (mu k D), vi (nI k)] [] m 0 0 := by
  have hR := hS.ok
  have h8 := hS.le
  have q1 := hS.nA
  have q2 := hS.nB
  refine Go.runR (callT_mono MT _) [4] 200 hR ?_
  refine And.intro (fun c7 => ?_) (fun c7 => ?_)
  · try dsimp only at c7
    obtain rfl := lq_e c7 q2 rfl hk (by omega)
    refine And.intro trivial ?_
    exact h
  · try dsimp only at c7
    have hk2 := lq_m c7 q2 rfl hk (by omega)
    refine And.intro ⟨rfl, rfl, rfl⟩ ?_
    refine And.intro (vp_nI (k := k) (N := 16) (by omega) (by decide)) ?_
    refine And.intro (fun c14 => ?_) (fun c14 => ?_)
    · try dsimp only at c14
      have z : dK D k = 4 := by have := (hS.hs hk2).2.2.2.2.2.2.2.2.2.1; have l6 := (hS.hs hk2).2.1; rw [nI_clamp (by omega), this] at c14; exact nI_in1 (b := 4) (by omega) (by omega) c14
      have key : ∀ (b : Int32), b = mu (k + 1) D → Go (cW (d + 0)) i_M_mutes (0, 0) K 4 [vo 1 0 0, vi b, vi (nI k + 1)] [] (m) 0 0 := fun b z => by
        subst z
        exact go_eq (by rw [← nI_succ]) rfl (l_M_mutes hS h (k + 1) hk2)
      exact key _ (by first | (rw [mu_s1 z]; done) | (rw [mu_s0 z]; exact i_or0 _))
    · try dsimp only at c14
      have z : ¬ dK D k = 4 := by have := (hS.hs hk2).2.2.2.2.2.2.2.2.2.1; intro y; rw [nI_clamp (by omega), this, y] at c14; exact c14 rfl
      have key : ∀ (b : Int32), b = mu (k + 1) D → Go (cW (d + 0)) i_M_mutes (0, 0) K 4 [vo 1 0 0, vi b, vi (nI k + 1)] [] (m) 0 0 := fun b z => by
        subst z
        exact go_eq (by rw [← nI_succ]) rfl (l_M_mutes hS h (k + 1) hk2)
      exact key _ (by first | (rw [mu_s1 z]; done) | (rw [mu_s0 z]; exact i_or0 _))
termination_by n - k
decreasing_by all_goals omega

theorem m_M_mutes {d n : Nat} {D : SDt} {m : Mem} {K : Option Vv → Mem → Prop} (hS : SC n D m)  (h : K (some (vi (mu n D))) m) : cW (d + 1) n_M_mutes [vo 1 0 0] m K := by
  have hR := hS.ok
  have h8 := hS.le
  have q1 := hS.nA
  have q2 := hS.nB
  refine w_M_mutes (Go.runR (callT_mono MT _) [4] 200 hR ?_)
  exact l_M_mutes hS h 0 (by omega)
