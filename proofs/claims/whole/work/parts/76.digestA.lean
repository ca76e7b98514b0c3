/-! Written by a program (wip/whole/p76.py): digest, the class. -/
def mx (h : Int64) (v : Int32) : Int64 := 31 * h + v.toInt64
def gd1 (n T : Nat) (D : SDt) (m : Mem) (k : Nat) : Int64 := itr (fun w h => mx h (cV n T D m w)) 17 k
def gdT (D : SDt) (i k : Nat) (h : Int64) : Int64 := itr (fun w h => mx h (tr D i w)) h k
def gdB (D : SDt) (i k : Nat) (h : Int64) : Int64 := itr (fun j h => mx h (nI (dB D (8 * i + j)))) h k
def gdE (D : SDt) (i : Nat) (h : Int64) : Int64 := mx (mx (gdT D i 5 h) (dM D i)) (nI (dP D i))
def gdH (n : Nat) (D : SDt) (k : Nat) (h : Int64) : Int64 := itr (fun i h => gdB D i n (gdE D i h)) h k
def gdU (m : Mem) (k : Nat) (h : Int64) : Int64 := itr (fun t h => mx h (gI m (0, 10, t) 1)) h k
def gdA (n : Nat) (m : Mem) (h : Int64) : Int64 := mx (mx (mx (mx h (if n = 0 then 0 else gI m (0, 5, 0) 5)) (if n = 0 then 0 else gI m (0, 5, 0) 6)) (gI m (0, 5, 0) 7)) (gI m (0, 5, 0) 8)
def gdS (n T : Nat) (D : SDt) (m : Mem) (h : Int64) : Int64 := gdU m T (gdH n D n (gdA n m h))
def gdK (m : Mem) (k : Nat) (h : Int64) : Int64 := itr (fun i h => mx h (if gI m (0, 5, 1 + i) 3 = 0 then -1 else gI m (0, 5, 1 + i) 4)) h k
def gdC (m : Mem) (c k : Nat) (h : Int64) : Int64 := itr (fun j h => mx h (gI m (0, 2, c) j)) h k
def szC (m : Mem) (c : Nat) : Nat := (gI m (0, 1, c) 1).toNatClampNeg
def gdW (m : Mem) (c : Nat) (h : Int64) : Int64 := gdC m c (szC m c) (mx h (gI m (0, 1, c) 1))
def gdR (m : Mem) (a k : Nat) (h : Int64) : Int64 := itr (fun r h => gdW m (a + r) h) h k
def gdZ (n T : Nat) (D : SDt) (m : Mem) : Int64 := gdR m 6 4 (gdR m 0 6 (gdK m 3 (gdS n T D m (gd1 n T D m 8))))
theorem mx0 (h : Int64) : mx h 0 = 31 * h + 0 := congrArg (fun z => 31 * h + z) (by decide : (0 : Int32).toInt64 = 0)
theorem lt_e {x y : Int32} {N k : Nat} (c : x < y) (hx : x = nI N) (hy : y = nI k) (hk : k ≤ N + 1) (hn : N ≤ 100000) : k = N + 1 := by
  subst hx; subst hy
  rcases Nat.lt_or_ge N k with z | z
  · omega
  · exact absurd c (nI_nlt z (by omega))
theorem lt_m {x y : Int32} {N k : Nat} (c : ¬ x < y) (hx : x = nI N) (hy : y = nI k) (hn : N ≤ 100000) (hk : k ≤ N + 1) : k ≤ N := by
  subst hx; subst hy
  rcases Nat.lt_or_ge N k with z | z
  · exact absurd (nI_lt z (by omega)) c
  · exact z

theorem m_X_mixed {d : Nat} {m : Mem} {K : Option Vv → Mem → Prop} (hR : OKR m) {a b : Int64} (h : K (some (vl (31 * a + b))) m) : cW (d + 1) n_X_mixed [vl a, vl b] m K := by
  refine w_X_mixed (Go.runR (callT_mono MT _) [] 200 hR ?_)
  refine And.intro trivial ?_
  exact h

theorem l_Ce_mix {d c z : Nat} {m : Mem} {K : Option Vv → Mem → Prop} {h0 h1 : Int64} (hR : OKR m) (hc : c < 10) (hz : z ≤ ln (0, 2, c)) (q : gI m (0, 1, c) 1 = nI z) (h : K (some (vl (gdC m c z h1))) m) (k : Nat) (hk : k ≤ z) : Go (cW (d + 1)) i_Ce_mixedInto (0, 0) K 8 [vo 0 1 c, vl h0, vu, vl (gdC m c k h1), vu, vi (nI k)] [] m 0 0 := by
  have l80 := ln2_le c
  have e0 : (nI k).toNatClampNeg = k := nI_clamp (by omega)
  refine Go.runR (callT_mono MT _) [8] 200 hR ?_
  refine And.intro (fun c11 => ?_) (fun c11 => ?_)
  · try dsimp only at c11
    obtain rfl := lq_e c11 q rfl hk (by omega)
    refine And.intro trivial ?_
    exact h
  · try dsimp only at c11
    have hk2 := lq_m c11 q rfl hk (by omega)
    refine And.intro ⟨(by first | decide | assumption | omega), (by first | decide | assumption | omega)⟩ ?_
    refine And.intro (by exact vp_nI (k := k) (N := ln (0, 2, c)) (by omega) (by omega)) ?_
    refine m_X_mixed (by repeat' (first | exact hR | apply OKR.pI | apply OKR.pL | apply OKR.cpI | apply OKR.wI))  (And.intro (by repeat' (first | exact hR | apply OKR.pI | apply OKR.pL | apply OKR.cpI | apply OKR.wI)) ?_)
    have key : ∀ x, x = gdC m c (k + 1) h1 → Go (cW (d + 1)) i_Ce_mixedInto (0, 0) K 8 [vo 0 1 c, vl h0, vu, vl x, vu, vi (nI k + 1)] [] m 0 0 := fun x y => by
      subst y
      exact go_eq (by rw [← nI_succ]) rfl (l_Ce_mix hR hc hz q h (k + 1) hk2)
    exact key _ (by rw [e0]; rfl)
termination_by z - k
decreasing_by all_goals omega

theorem m_Ce_mixedInto {d c : Nat} {m : Mem} {K : Option Vv → Mem → Prop} {h0 : Int64} (hR : OKR m) (hc : c < 10) (q : gI m (0, 1, c) 1 = -1 ∨ ∃ z, z ≤ ln (0, 2, c) ∧ gI m (0, 1, c) 1 = nI z) (h : K (some (vl (gdW m c h0))) m) : cW (d + 2) n_Ce_mixedInto [vo 0 1 c, vl h0] m K := by
  have l80 := ln2_le c
  rcases q with q | ⟨z, hz, q⟩
  · have s0 : szC m c = 0 := by unfold szC; rw [q]; decide
    unfold gdW at h
    rw [s0] at h
    refine w_Ce_mixedInto (Go.runR (callT_mono MT _) [] 200 hR ?_)
    refine m_X_mixed (by repeat' (first | exact hR | apply OKR.pI | apply OKR.pL | apply OKR.cpI | apply OKR.wI))  (And.intro (by repeat' (first | exact hR | apply OKR.pI | apply OKR.pL | apply OKR.cpI | apply OKR.wI)) ?_)
    refine And.intro (fun c11 => ?_) (fun c11 => ?_)
    · try dsimp only at c11
      refine And.intro trivial ?_
      exact h
    · exact absurd (show gI m (0, 1, c) 1 ≤ 0 by rw [q]; decide) c11
  · have s0 : szC m c = z := by unfold szC; rw [q]; exact nI_clamp (by omega)
    unfold gdW at h
    rw [s0] at h
    refine w_Ce_mixedInto (Go.runR (callT_mono MT _) [8] 200 hR ?_)
    refine m_X_mixed (by repeat' (first | exact hR | apply OKR.pI | apply OKR.pL | apply OKR.cpI | apply OKR.wI))  (And.intro (by repeat' (first | exact hR | apply OKR.pI | apply OKR.pL | apply OKR.cpI | apply OKR.wI)) ?_)
    exact l_Ce_mix hR hc hz q h 0 (Nat.zero_le _)

theorem l_St_mix95 {d T : Nat} {m : Mem} {K : Option Vv → Mem → Prop} {h0 h1 : Int64} (hR : OKR m) (hT : T ≤ 40) (q : gI m (0, 5, 0) 4 = nI T) (h : K (some (vl (gdU m T h1))) m) (k : Nat) (hk : k ≤ T) (z : Vv) : Go (cW (d + 3)) i_St_mixedInto (0, 0) K 95 [vo 0 5 0, vl h0, vu, vl (gdU m k h1), vu, vi (nI k), z] [] m 0 0 := by
  have e0 : (nI k).toNatClampNeg = k := nI_clamp (by omega)
  refine Go.runR (callT_mono MT _) [95] 200 hR ?_
  refine And.intro (fun c98 => ?_) (fun c98 => ?_)
  · try dsimp only at c98
    obtain rfl := lq_e c98 q rfl hk (by omega)
    refine And.intro trivial ?_
    exact h
  · try dsimp only at c98
    have hk2 := lq_m c98 q rfl hk (by omega)
    refine And.intro ⟨(by first | decide | assumption | omega), (by first | decide | assumption | omega)⟩ ?_
    refine And.intro ⟨(by exact vp_nI (k := k) (N := 40) (by omega) (by decide)), ⟨(by decide), by rw [e0]; omega⟩⟩ ?_
    refine m_X_mixed (by repeat' (first | exact hR | apply OKR.pI | apply OKR.pL | apply OKR.cpI | apply OKR.wI))  (And.intro (by repeat' (first | exact hR | apply OKR.pI | apply OKR.pL | apply OKR.cpI | apply OKR.wI)) ?_)
    have key : ∀ x, x = gdU m (k + 1) h1 → Go (cW (d + 3)) i_St_mixedInto (0, 0) K 95 [vo 0 5 0, vl h0, vu, vl x, vu, vi (nI k + 1), z] [] m 0 0 := fun x y => by
      subst y
      exact go_eq (by rw [← nI_succ]) rfl (l_St_mix95 hR hT q h (k + 1) hk2 z)
    exact key _ (by rw [e0, show 40 * 0 + k = k by omega]; rfl)
termination_by T - k
decreasing_by all_goals omega

theorem l_St_mix75 {d n i : Nat} {D : SDt} {m : Mem} {K : Option Vv → Mem → Prop} {h0 h1 : Int64} (hS : SC n D m) (hi : i < n) (h : ∀ z : Vv, Go (cW (d + 3)) i_St_mixedInto (0, 0) K 36 [vo 0 5 0, vl h0, vu, vl (gdB D i n h1), vu, vi (nI i + 1), z] [] m 0 0) (k : Nat) (hk : k ≤ n) : Go (cW (d + 3)) i_St_mixedInto (0, 0) K 75 [vo 0 5 0, vl h0, vu, vl (gdB D i k h1), vu, vi (nI i), vi (nI k)] [] m 0 0 := by
  have hR := hS.1
  have h8 := hS.2.1
  have q1 := hS.nA
  have e0 : (nI k).toNatClampNeg = k := nI_clamp (by omega)
  have e1 : (nI i).toNatClampNeg = i := nI_clamp (by omega)
  refine Go.runR (callT_mono MT _) [36, 75] 200 hR ?_
  refine And.intro (fun c78 => ?_) (fun c78 => ?_)
  · try dsimp only at c78
    obtain rfl := lq_e c78 q1 rfl hk (by omega)
    exact h _
  · try dsimp only at c78
    have hk2 := lq_m c78 q1 rfl hk (by omega)
    refine And.intro ⟨(by first | decide | assumption | omega), (by first | decide | assumption | omega)⟩ ?_
    refine And.intro ⟨(by first | exact vp_nI (k := i) (N := 8) (by omega) (by decide) | exact vp_nI (k := k) (N := 8) (by omega) (by decide)), ⟨(by decide), by rw [e1]; omega⟩⟩ ?_
    refine And.intro (by exact vp_nI (k := k) (N := 8) (by omega) (by decide)) ?_
    refine m_X_mixed (by repeat' (first | exact hR | apply OKR.pI | apply OKR.pL | apply OKR.cpI | apply OKR.wI))  (And.intro (by repeat' (first | exact hR | apply OKR.pI | apply OKR.pL | apply OKR.cpI | apply OKR.wI)) ?_)
    have key : ∀ x, x = gdB D i (k + 1) h1 → Go (cW (d + 3)) i_St_mixedInto (0, 0) K 75 [vo 0 5 0, vl h0, vu, vl x, vu, vi (nI i), vi (nI k + 1)] [] m 0 0 := fun x y => by
      subst y
      exact go_eq (by rw [← nI_succ]) rfl (l_St_mix75 hS hi h (k + 1) hk2)
    exact key _ (by rw [e0, e1, show 8 * 0 + i = i by omega, (hS.db hi hk2).2.1]; rfl)
termination_by n - k
decreasing_by all_goals omega

theorem l_St_mix42 {d n i : Nat} {D : SDt} {m : Mem} {K : Option Vv → Mem → Prop} {h0 h1 : Int64} (hS : SC n D m) (hi : i < n) (h : Go (cW (d + 3)) i_St_mixedInto (0, 0) K 75 [vo 0 5 0, vl h0, vu, vl (gdE D i h1), vu, vi (nI i), vi (nI 0)] [] m 0 0) (k : Nat) (hk : k ≤ 5) : Go (cW (d + 3)) i_St_mixedInto (0, 0) K 42 [vo 0 5 0, vl h0, vu, vl (gdT D i k h1), vu, vi (nI i), vi (nI k)] [] m 0 0 := by
  have hR := hS.1
  have h8 := hS.2.1
  have e1 : (nI i).toNatClampNeg = i := nI_clamp (by omega)
  refine Go.runR (callT_mono MT _) [42, 75] 200 hR ?_
  refine And.intro (fun c44 => ?_) (fun c44 => ?_)
  · try dsimp only at c44
    obtain rfl := lt_e (N := 4) c44 rfl rfl hk (by omega)
    refine And.intro ⟨(by first | decide | assumption | omega), (by first | decide | assumption | omega)⟩ ?_
    refine And.intro ⟨(by exact vp_nI (k := i) (N := 8) (by omega) (by decide)), ⟨(by decide), by rw [e1]; omega⟩⟩ ?_
    refine m_X_mixed (by repeat' (first | exact hR | apply OKR.pI | apply OKR.pL | apply OKR.cpI | apply OKR.wI))  (And.intro (by repeat' (first | exact hR | apply OKR.pI | apply OKR.pL | apply OKR.cpI | apply OKR.wI)) ?_)
    refine And.intro ⟨(by first | decide | assumption | omega), (by first | decide | assumption | omega)⟩ ?_
    refine And.intro ⟨(by exact vp_nI (k := i) (N := 8) (by omega) (by decide)), ⟨(by decide), by rw [e1]; omega⟩⟩ ?_
    refine m_X_mixed (by repeat' (first | exact hR | apply OKR.pI | apply OKR.pL | apply OKR.cpI | apply OKR.wI))  (And.intro (by repeat' (first | exact hR | apply OKR.pI | apply OKR.pL | apply OKR.cpI | apply OKR.wI)) ?_)
    have key : ∀ x, x = gdE D i h1 → Go (cW (d + 3)) i_St_mixedInto (0, 0) K 75 [vo 0 5 0, vl h0, vu, vl x, vu, vi (nI i), vi 0] [] m 0 0 := fun x y => by
      subst y
      exact h
    exact key _ (by rw [e1, show 8 * 0 + i = i by omega, (hS.hs hi).2.2.2.2.2.2.2.1, (hS.hs hi).2.2.2.2.2.2.2.2.1]; rfl)
  · try dsimp only at c44
    have hk2 := lt_m (N := 4) c44 rfl rfl (by omega) hk
    refine m_St_trait hS (i := i) (w := k) rfl hi rfl (by omega) (And.intro (by repeat' (first | exact hR | apply OKR.pI | apply OKR.pL | apply OKR.cpI | apply OKR.wI)) ?_)
    refine m_X_mixed (by repeat' (first | exact hR | apply OKR.pI | apply OKR.pL | apply OKR.cpI | apply OKR.wI))  (And.intro (by repeat' (first | exact hR | apply OKR.pI | apply OKR.pL | apply OKR.cpI | apply OKR.wI)) ?_)
    exact go_eq (ls' := [vo 0 5 0, vl h0, vu, vl (gdT D i (k + 1) h1), vu, vi (nI i), vi (nI (k + 1))]) (by rw [nI_succ]; rfl) rfl (l_St_mix42 hS hi h (k + 1) (by omega))
termination_by 5 - k
decreasing_by all_goals omega

theorem l_St_mix36 {d n T : Nat} {D : SDt} {m : Mem} {K : Option Vv → Mem → Prop} {h0 h1 : Int64} (hS : SC n D m) (hT : T ≤ 40) (q : gI m (0, 5, 0) 4 = nI T) (h : K (some (vl (gdU m T (gdH n D n h1)))) m) (k : Nat) (hk : k ≤ n) (z : Vv) : Go (cW (d + 3)) i_St_mixedInto (0, 0) K 36 [vo 0 5 0, vl h0, vu, vl (gdH n D k h1), vu, vi (nI k), z] [] m 0 0 := by
  have hR := hS.1
  have h8 := hS.2.1
  have q1 := hS.nA
  refine Go.runR (callT_mono MT _) [36, 42, 95] 200 hR ?_
  refine And.intro (fun c39 => ?_) (fun c39 => ?_)
  · try dsimp only at c39
    obtain rfl := lq_e c39 q1 rfl hk (by omega)
    exact l_St_mix95 hR hT q h 0 (Nat.zero_le _) z
  · try dsimp only at c39
    have hk2 := lq_m c39 q1 rfl hk (by omega)
    exact l_St_mix42 hS hk2 (l_St_mix75 hS hk2 (fun z => go_eq (by rw [← nI_succ]; rfl) rfl (l_St_mix36 hS hT q h (k + 1) hk2 z)) 0 (Nat.zero_le _)) 0 (by omega)
termination_by n - k
decreasing_by all_goals omega

theorem l_St_mix28 {d n T : Nat} {D : SDt} {m : Mem} {K : Option Vv → Mem → Prop} {h0 : Int64} (hS : SC n D m) (hT : T ≤ 40) (q : gI m (0, 5, 0) 4 = nI T) (h : K (some (vl (gdS n T D m h0))) m) (x : Int64) (hx : mx x (gI m (0, 5, 0) 8) = gdA n m h0) : Go (cW (d + 3)) i_St_mixedInto (0, 0) K 28 [vo 0 5 0, vl h0, vu, vl x, vu, vu, vu] [] m 0 0 := by
  have hR := hS.1
  have h8 := hS.2.1
  have q1 := hS.nA
  have key : ∀ x, x = gdA n m h0 → Go (cW (d + 3)) i_St_mixedInto (0, 0) K 36 [vo 0 5 0, vl h0, vu, vl x, vu, vi 0, vu] [] m 0 0 := fun x y => by
    subst y
    exact l_St_mix36 hS hT q h 0 (Nat.zero_le _) vu
  refine Go.runR (callT_mono MT _) [28, 36] 200 hR ?_
  refine m_X_mixed (by repeat' (first | exact hR | apply OKR.pI | apply OKR.pL | apply OKR.cpI | apply OKR.wI))  (And.intro (by repeat' (first | exact hR | apply OKR.pI | apply OKR.pL | apply OKR.cpI | apply OKR.wI)) ?_)
  exact key _ hx

theorem l_St_mix22 {d n T : Nat} {D : SDt} {m : Mem} {K : Option Vv → Mem → Prop} {h0 : Int64} (hS : SC n D m) (hT : T ≤ 40) (q : gI m (0, 5, 0) 4 = nI T) (h : K (some (vl (gdS n T D m h0))) m) (x : Int64) (hx : mx (mx x (gI m (0, 5, 0) 7)) (gI m (0, 5, 0) 8) = gdA n m h0) : Go (cW (d + 3)) i_St_mixedInto (0, 0) K 22 [vo 0 5 0, vl h0, vu, vl x, vu, vu, vu] [] m 0 0 := by
  have hR := hS.1
  have h8 := hS.2.1
  have q1 := hS.nA
  refine Go.runR (callT_mono MT _) [22, 28] 200 hR ?_
  refine m_X_mixed (by repeat' (first | exact hR | apply OKR.pI | apply OKR.pL | apply OKR.cpI | apply OKR.wI))  (And.intro (by repeat' (first | exact hR | apply OKR.pI | apply OKR.pL | apply OKR.cpI | apply OKR.wI)) ?_)
  exact l_St_mix28 hS hT q h _ hx

theorem l_St_mix11 {d n T : Nat} {D : SDt} {m : Mem} {K : Option Vv → Mem → Prop} {h0 : Int64} (hS : SC n D m) (hT : T ≤ 40) (q : gI m (0, 5, 0) 4 = nI T) (h : K (some (vl (gdS n T D m h0))) m) (x : Int64) (hx : mx (mx (mx x (if n = 0 then 0 else gI m (0, 5, 0) 6)) (gI m (0, 5, 0) 7)) (gI m (0, 5, 0) 8) = gdA n m h0) : Go (cW (d + 3)) i_St_mixedInto (0, 0) K 11 [vo 0 5 0, vl h0, vu, vl x, vu, vu, vu] [] m 0 0 := by
  have hR := hS.1
  have h8 := hS.2.1
  have q1 := hS.nA
  refine Go.runR (callT_mono MT _) [11, 22] 200 hR ?_
  refine And.intro (fun c14 => ?_) (fun c14 => ?_)
  · try dsimp only at c14
    have z : n = 0 := by
      rcases Nat.eq_zero_or_pos n with z | z
      · exact z
      · exact absurd (show nI n = 0 from q1.symm.trans c14) (sz0 z (by omega))
    rw [if_pos z, mx0] at hx
    refine m_X_mixed (by repeat' (first | exact hR | apply OKR.pI | apply OKR.pL | apply OKR.cpI | apply OKR.wI))  (And.intro (by repeat' (first | exact hR | apply OKR.pI | apply OKR.pL | apply OKR.cpI | apply OKR.wI)) ?_)
    exact l_St_mix22 hS hT q h _ hx
  · try dsimp only at c14
    have z : ¬ n = 0 := fun z => c14 (by rw [q1, z]; rfl)
    rw [if_neg z] at hx
    refine m_X_mixed (by repeat' (first | exact hR | apply OKR.pI | apply OKR.pL | apply OKR.cpI | apply OKR.wI))  (And.intro (by repeat' (first | exact hR | apply OKR.pI | apply OKR.pL | apply OKR.cpI | apply OKR.wI)) ?_)
    exact l_St_mix22 hS hT q h _ hx

theorem m_St_mixedInto {d n T : Nat} {D : SDt} {m : Mem} {K : Option Vv → Mem → Prop} {h0 : Int64} (hS : SC n D m) (hT : T ≤ 40) (q : gI m (0, 5, 0) 4 = nI T) (h : K (some (vl (gdS n T D m h0))) m) : cW (d + 4) n_St_mixedInto [vo 0 5 0, vl h0] m K := by
  have hR := hS.1
  have h8 := hS.2.1
  have q1 := hS.nA
  have hx : mx (mx (mx (mx h0 (if n = 0 then 0 else gI m (0, 5, 0) 5)) (if n = 0 then 0 else gI m (0, 5, 0) 6)) (gI m (0, 5, 0) 7)) (gI m (0, 5, 0) 8) = gdA n m h0 := rfl
  refine w_St_mixedInto (Go.runR (callT_mono MT _) [11] 200 hR ?_)
  refine And.intro (fun c3 => ?_) (fun c3 => ?_)
  · try dsimp only at c3
    have z : n = 0 := by
      rcases Nat.eq_zero_or_pos n with z | z
      · exact z
      · exact absurd (show nI n = 0 from q1.symm.trans c3) (sz0 z (by omega))
    rw [show mx h0 (if n = 0 then 0 else gI m (0, 5, 0) 5) = 31 * h0 + 0 by rw [if_pos z, mx0]] at hx
    refine m_X_mixed (by repeat' (first | exact hR | apply OKR.pI | apply OKR.pL | apply OKR.cpI | apply OKR.wI))  (And.intro (by repeat' (first | exact hR | apply OKR.pI | apply OKR.pL | apply OKR.cpI | apply OKR.wI)) ?_)
    exact l_St_mix11 hS hT q h _ hx
  · try dsimp only at c3
    have z : ¬ n = 0 := fun z => c3 (by rw [q1, z]; rfl)
    rw [show mx h0 (if n = 0 then 0 else gI m (0, 5, 0) 5) = mx h0 (gI m (0, 5, 0) 5) by rw [if_neg z]] at hx
    refine m_X_mixed (by repeat' (first | exact hR | apply OKR.pI | apply OKR.pL | apply OKR.cpI | apply OKR.wI))  (And.intro (by repeat' (first | exact hR | apply OKR.pI | apply OKR.pL | apply OKR.cpI | apply OKR.wI)) ?_)
    exact l_St_mix11 hS hT q h _ hx
