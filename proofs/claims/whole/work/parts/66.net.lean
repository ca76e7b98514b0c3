/-! Written by a program (wip/whole/p66.py): net. -/
abbrev NtS := (Nat → Nat → Nat) × Nat
def nmn (b : Nat → Nat → Nat) (i j : Nat) : Nat := if b j i < b i j then b j i else b i j
def ntF (i j : Nat) (st : NtS) : NtS := ((fun p q => if p = i ∧ q = j then st.1 i j - nmn st.1 i j else if p = j ∧ q = i then st.1 j i - nmn st.1 i j else st.1 p q), st.2 + 2 * nmn st.1 i j)
def ntI (i : Nat) (st : NtS) (c : Nat) : NtS := itr (fun c st => ntF i (i + 1 + c) st) st c
def ntO (n : Nat) (st : NtS) (k : Nat) : NtS := itr (fun i st => ntI i st (n - (i + 1))) st k
theorem ntIs (i : Nat) (st : NtS) (c : Nat) : ntI i st (c + 1) = ntF i (i + 1 + c) (ntI i st c) := rfl
theorem ntOs (n : Nat) (st : NtS) (k : Nat) : ntO n st (k + 1) = ntI k (ntO n st k) (n - (k + 1)) := rfl
def Bd (b : Nat → Nat → Nat) : Prop := ∀ i j, b i j ≤ 99
theorem Bd.step {i j : Nat} {st : NtS} (h : Bd st.1) : Bd (ntF i j st).1 := fun p q => by
  have h1 := h i j
  have h2 := h j i
  have h3 := h p q
  show (if p = i ∧ q = j then st.1 i j - nmn st.1 i j else if p = j ∧ q = i then st.1 j i - nmn st.1 i j else st.1 p q) ≤ 99
  split
  · omega
  · split <;> omega
def NdA (n : Nat) (m0 m : Mem) (b : Nat → Nat → Nat) : Prop := Nx [13] [] m0 m ∧ (∀ i j, i < n → j < n → gI m (0, 13, i) j = nI (b i j)) ∧ ∀ i q, 8 ≤ i → gI m (0, 13, i) q = gI m0 (0, 13, i) q
def NdB (n : Nat) (m0 m : Mem) (b : Nat → Nat → Nat) : Prop := Nx [] [18] m0 m ∧ ∀ i j, i < n → j < n → gI m (1, 18, 0) (8 * i + j) = nI (b i j)
theorem NdA.step {n : Nat} {m0 m : Mem} {i j : Nat} {st : NtS} (H : NdA n m0 m st.1) (h8 : n ≤ 8) (hi : i < n) (hj : j < n) (hij : i ≠ j) : NdA n m0 (pI (pI m (0, 13, i) j (nI (st.1 i j - nmn st.1 i j))) (0, 13, j) i (nI (st.1 j i - nmn st.1 i j))) (ntF i j st).1 := by
  refine ⟨(H.1.p0 (by simp)).p0 (by simp), fun p q hp hq => ?_, fun p q hp => ?_⟩
  · show _ = nI (if p = i ∧ q = j then st.1 i j - nmn st.1 i j else if p = j ∧ q = i then st.1 j i - nmn st.1 i j else st.1 p q)
    rw [rd00]
    by_cases z : p = j ∧ q = i
    · rw [if_pos ⟨rfl, z.1, z.2⟩, if_neg (by omega), if_pos z]
    · rw [if_neg (fun y => z ⟨y.2.1, y.2.2⟩), if_neg z, rd00]
      by_cases w : p = i ∧ q = j
      · rw [if_pos ⟨rfl, w.1, w.2⟩, if_pos w]
      · rw [if_neg (fun y => w ⟨y.2.1, y.2.2⟩), if_neg w, H.2.1 p q hp hq]
  · rw [rd00, if_neg (by omega), rd00, if_neg (by omega)]
    exact H.2.2 p q hp
theorem NdB.step {n : Nat} {m0 m : Mem} {i j : Nat} {st : NtS} (H : NdB n m0 m st.1) (h8 : n ≤ 8) (hi : i < n) (hj : j < n) (hij : i ≠ j) : NdB n m0 (pI (pI m (1, 18, 0) (8 * i + j) (nI (st.1 i j - nmn st.1 i j))) (1, 18, 0) (8 * j + i) (nI (st.1 j i - nmn st.1 i j))) (ntF i j st).1 := by
  refine ⟨(H.1.p1 (by simp)).p1 (by simp), fun p q hp hq => ?_⟩
  show _ = nI (if p = i ∧ q = j then st.1 i j - nmn st.1 i j else if p = j ∧ q = i then st.1 j i - nmn st.1 i j else st.1 p q)
  rw [rd11]
  by_cases z : p = j ∧ q = i
  · rw [if_pos ⟨rfl, rfl, by omega⟩, if_neg (by omega), if_pos z]
  · rw [if_neg (by omega), if_neg z, rd11]
    by_cases w : p = i ∧ q = j
    · rw [if_pos ⟨rfl, rfl, by omega⟩, if_pos w]
    · rw [if_neg (by omega), if_neg w, H.2 p q hp hq]

theorem l_St_net12 {d n i : Nat} {m0 : Mem} {K : Option Vv → Mem → Prop} {st : NtS} (h8 : n ≤ 8) (q1 : gI m0 (0, 5, 0) 3 = nI n) (hi : i < n) (h : ∀ m y, NdA n m0 m (ntI i st (n - (i + 1))).1 → Bd (ntI i st (n - (i + 1))).1 → Go (cW d) i_St_netDebts (0, 0) K 58 [vo 0 5 0, vi (nI (ntI i st (n - (i + 1))).2), vi (nI i), vi (nI n), y] [] m 0 0) (c : Nat) (m : Mem) (x : Vv) (H : NdA n m0 m (ntI i st c).1) (hb : Bd (ntI i st c).1) (hc : i + 1 + c ≤ n) : Go (cW d) i_St_netDebts (0, 0) K 12 [vo 0 5 0, vi (nI (ntI i st c).2), vi (nI i), vi (nI (i + 1 + c)), x] [] m 0 0 := by
  have hR := H.1.ok
  have qn : gI m (0, 5, 0) 3 = nI n := (H.1.2.2.2.1 5 0 3 (by simp)).trans q1
  have ei : (nI i).toNatClampNeg = i := nI_clamp (by omega)
  have ej : (nI (i + 1 + c)).toNatClampNeg = i + 1 + c := nI_clamp (by omega)
  refine Go.runR (callT_mono MT _) [12, 58] 200 hR ?_
  refine And.intro (fun c15 => ?_) (fun c15 => ?_)
  · try dsimp only at c15
    have hk2 := lq_e c15 qn rfl hc (by omega)
    obtain rfl : c = n - (i + 1) := by omega
    have nn : i + 1 + (n - (i + 1)) = n := hk2
    have hh := h m x H hb
    rw [nn]
    exact hh
  · try dsimp only at c15
    have hk2 := lq_m c15 qn rfl hc (by omega)
    have o1 : 8 * 0 + (nI i).toNatClampNeg = i := by rw [ei]; omega
    have o2 : 8 * 0 + (nI (i + 1 + c)).toNatClampNeg = i + 1 + c := by rw [ej]; omega
    have f1 := H.2.1 i (i + 1 + c) hi hk2
    have f2 := H.2.1 (i + 1 + c) i hk2 hi
    have g1 := hb i (i + 1 + c)
    have g2 := hb (i + 1 + c) i
    refine And.intro ⟨(by first | decide | assumption | omega), (by first | decide | assumption | omega)⟩ ?_
    refine And.intro ⟨(by first | exact vp_nI (k := i) (N := 8) (by omega) (by decide) | exact vp_nI (k := i + 1 + c) (N := 8) (by omega) (by decide)), ⟨(by decide), (by first | (rw [ei]; omega) | (rw [ej]; omega))⟩⟩ ?_
    refine And.intro (by first | exact vp_nI (k := i) (N := 8) (by omega) (by decide) | exact vp_nI (k := i + 1 + c) (N := 8) (by omega) (by decide)) ?_
    refine And.intro ⟨(by first | decide | assumption | omega), (by first | decide | assumption | omega)⟩ ?_
    refine And.intro ⟨(by first | exact vp_nI (k := i) (N := 8) (by omega) (by decide) | exact vp_nI (k := i + 1 + c) (N := 8) (by omega) (by decide)), ⟨(by decide), (by first | (rw [ei]; omega) | (rw [ej]; omega))⟩⟩ ?_
    refine And.intro (by first | exact vp_nI (k := i) (N := 8) (by omega) (by decide) | exact vp_nI (k := i + 1 + c) (N := 8) (by omega) (by decide)) ?_
    refine And.intro ⟨(by first | decide | assumption | omega), (by first | decide | assumption | omega)⟩ ?_
    refine And.intro ⟨(by first | exact vp_nI (k := i) (N := 8) (by omega) (by decide) | exact vp_nI (k := i + 1 + c) (N := 8) (by omega) (by decide)), ⟨(by decide), (by first | (rw [ei]; omega) | (rw [ej]; omega))⟩⟩ ?_
    refine And.intro (by first | exact vp_nI (k := i) (N := 8) (by omega) (by decide) | exact vp_nI (k := i + 1 + c) (N := 8) (by omega) (by decide)) ?_
    refine And.intro (by first | exact vp_nI (k := i) (N := 8) (by omega) (by decide) | exact vp_nI (k := i + 1 + c) (N := 8) (by omega) (by decide)) ?_
    refine And.intro ⟨(by first | decide | assumption | omega), (by first | decide | assumption | omega)⟩ ?_
    refine And.intro ⟨(by first | exact vp_nI (k := i) (N := 8) (by omega) (by decide) | exact vp_nI (k := i + 1 + c) (N := 8) (by omega) (by decide)), ⟨(by decide), (by first | (rw [ei]; omega) | (rw [ej]; omega))⟩⟩ ?_
    refine And.intro (by first | exact vp_nI (k := i) (N := 8) (by omega) (by decide) | exact vp_nI (k := i + 1 + c) (N := 8) (by omega) (by decide)) ?_
    refine And.intro (by first | exact vp_nI (k := i) (N := 8) (by omega) (by decide) | exact vp_nI (k := i + 1 + c) (N := 8) (by omega) (by decide)) ?_
    refine go_eq (ls' := [vo 0 5 0, vi (nI (ntI i st (c + 1)).2), vi (nI i), vi (nI (i + 1 + (c + 1))), vi (nI (nmn (ntI i st c).1 i (i + 1 + c)))]) (m' := pI (pI m (0, 13, i) (i + 1 + c) (nI ((ntI i st c).1 i (i + 1 + c) - nmn (ntI i st c).1 i (i + 1 + c)))) (0, 13, i + 1 + c) i (nI ((ntI i st c).1 (i + 1 + c) i - nmn (ntI i st c).1 i (i + 1 + c)))) ?_ ?_ (l_St_net12 h8 q1 hi h (c + 1) _ _ (H.step h8 hi hk2 (by omega)) hb.step (by omega))
    · show [vo 0 5 0, vi (nI (ntI i st c).2 + 2 * (if gI m (0, 13, 8 * 0 + (nI (i + 1 + c)).toNatClampNeg) (nI i).toNatClampNeg < gI m (0, 13, 8 * 0 + (nI i).toNatClampNeg) (nI (i + 1 + c)).toNatClampNeg then gI m (0, 13, 8 * 0 + (nI (i + 1 + c)).toNatClampNeg) (nI i).toNatClampNeg else gI m (0, 13, 8 * 0 + (nI i).toNatClampNeg) (nI (i + 1 + c)).toNatClampNeg)), vi (nI i), vi (nI (i + 1 + c) + 1), vi (if gI m (0, 13, 8 * 0 + (nI (i + 1 + c)).toNatClampNeg) (nI i).toNatClampNeg < gI m (0, 13, 8 * 0 + (nI i).toNatClampNeg) (nI (i + 1 + c)).toNatClampNeg then gI m (0, 13, 8 * 0 + (nI (i + 1 + c)).toNatClampNeg) (nI i).toNatClampNeg else gI m (0, 13, 8 * 0 + (nI i).toNatClampNeg) (nI (i + 1 + c)).toNatClampNeg)] = _
      rw [o1, o2, ei, ej, f1, f2, nI_min (by omega) (by omega), nI_1, show (2 : Int32) = nI 2 from rfl, pk_mul, nI_add]
      rfl
    · show pI (pI m (0, 13, 8 * 0 + (nI i).toNatClampNeg) (nI (i + 1 + c)).toNatClampNeg (gI m (0, 13, 8 * 0 + (nI i).toNatClampNeg) (nI (i + 1 + c)).toNatClampNeg - (if gI m (0, 13, 8 * 0 + (nI (i + 1 + c)).toNatClampNeg) (nI i).toNatClampNeg < gI m (0, 13, 8 * 0 + (nI i).toNatClampNeg) (nI (i + 1 + c)).toNatClampNeg then gI m (0, 13, 8 * 0 + (nI (i + 1 + c)).toNatClampNeg) (nI i).toNatClampNeg else gI m (0, 13, 8 * 0 + (nI i).toNatClampNeg) (nI (i + 1 + c)).toNatClampNeg))) (0, 13, 8 * 0 + (nI (i + 1 + c)).toNatClampNeg) (nI i).toNatClampNeg (gI (pI m (0, 13, 8 * 0 + (nI i).toNatClampNeg) (nI (i + 1 + c)).toNatClampNeg (gI m (0, 13, 8 * 0 + (nI i).toNatClampNeg) (nI (i + 1 + c)).toNatClampNeg - (if gI m (0, 13, 8 * 0 + (nI (i + 1 + c)).toNatClampNeg) (nI i).toNatClampNeg < gI m (0, 13, 8 * 0 + (nI i).toNatClampNeg) (nI (i + 1 + c)).toNatClampNeg then gI m (0, 13, 8 * 0 + (nI (i + 1 + c)).toNatClampNeg) (nI i).toNatClampNeg else gI m (0, 13, 8 * 0 + (nI i).toNatClampNeg) (nI (i + 1 + c)).toNatClampNeg))) (0, 13, 8 * 0 + (nI (i + 1 + c)).toNatClampNeg) (nI i).toNatClampNeg - (if gI m (0, 13, 8 * 0 + (nI (i + 1 + c)).toNatClampNeg) (nI i).toNatClampNeg < gI m (0, 13, 8 * 0 + (nI i).toNatClampNeg) (nI (i + 1 + c)).toNatClampNeg then gI m (0, 13, 8 * 0 + (nI (i + 1 + c)).toNatClampNeg) (nI i).toNatClampNeg else gI m (0, 13, 8 * 0 + (nI i).toNatClampNeg) (nI (i + 1 + c)).toNatClampNeg)) = _
      rw [o1, o2, ei, ej, rd00, if_neg (by omega : ¬ (13 = 13 ∧ i + 1 + c = i ∧ i = i + 1 + c)), f1, f2, nI_min (by omega) (by omega)]
      have l1 : nmn (ntI i st c).1 i (i + 1 + c) ≤ (ntI i st c).1 i (i + 1 + c) ∧ nmn (ntI i st c).1 i (i + 1 + c) ≤ (ntI i st c).1 (i + 1 + c) i := by unfold nmn; split <;> omega
      show pI (pI m (0, 13, i) (i + 1 + c) (nI ((ntI i st c).1 i (i + 1 + c)) - nI (nmn (ntI i st c).1 i (i + 1 + c)))) (0, 13, i + 1 + c) i (nI ((ntI i st c).1 (i + 1 + c) i) - nI (nmn (ntI i st c).1 i (i + 1 + c))) = _
      rw [pk_sub l1.1, pk_sub l1.2]
termination_by n - c
decreasing_by all_goals omega

theorem l_St_net4 {d n : Nat} {m0 : Mem} {K : Option Vv → Mem → Prop} {st : NtS} (h8 : n ≤ 8) (q1 : gI m0 (0, 5, 0) 3 = nI n) (h : ∀ m, NdA n m0 m (ntO n st n).1 → Bd (ntO n st n).1 → K (some (vi (nI (ntO n st n).2))) m) (k : Nat) (m : Mem) (x y : Vv) (H : NdA n m0 m (ntO n st k).1) (hb : Bd (ntO n st k).1) (hk : k ≤ n) : Go (cW d) i_St_netDebts (0, 0) K 4 [vo 0 5 0, vi (nI (ntO n st k).2), vi (nI k), x, y] [] m 0 0 := by
  have hR := H.1.ok
  have qn : gI m (0, 5, 0) 3 = nI n := (H.1.2.2.2.1 5 0 3 (by simp)).trans q1
  refine Go.runR (callT_mono MT _) [4, 12] 200 hR ?_
  refine And.intro (fun c7 => ?_) (fun c7 => ?_)
  · try dsimp only at c7
    obtain rfl := lq_e c7 qn rfl hk (by omega)
    refine And.intro trivial ?_
    exact h m H hb
  · try dsimp only at c7
    have hk2 := lq_m c7 qn rfl hk (by omega)
    refine go_eq (ls' := [vo 0 5 0, vi (nI (ntI k (ntO n st k) 0).2), vi (nI k), vi (nI (k + 1 + 0)), y]) (by show [vo 0 5 0, vi (nI (ntO n st k).2), vi (nI k), vi (nI k + 1), y] = _; rw [nI_1]; rfl) rfl (l_St_net12 h8 q1 hk2 (fun m2 y2 H2 hb2 => ?_) 0 m y H hb (by omega))
    refine Go.runR (callT_mono MT _) [4] 200 H2.1.ok ?_
    exact go_eq (ls' := [vo 0 5 0, vi (nI (ntO n st (k + 1)).2), vi (nI (k + 1)), vi (nI n), y2]) (by rw [nI_succ, ntOs]; rfl) rfl (l_St_net4 h8 q1 h (k + 1) m2 _ _ (by rw [ntOs]; exact H2) (by rw [ntOs]; exact hb2) hk2)
termination_by n - k
decreasing_by all_goals omega

theorem l_M_net12 {d n i : Nat} {m0 : Mem} {K : Option Vv → Mem → Prop} {st : NtS} (h8 : n ≤ 8) (q2 : gI m0 (1, 0, 0) 10 = nI n) (hi : i < n) (h : ∀ m x y z, NdB n m0 m (ntI i st (n - (i + 1))).1 → Bd (ntI i st (n - (i + 1))).1 → Go (cW d) i_M_net (0, 0) K 71 [vo 1 0 0, vi (nI (ntI i st (n - (i + 1))).2), vi (nI i), vi (nI n), x, y, z] [] m 0 0) (c : Nat) (m : Mem) (x y z : Vv) (H : NdB n m0 m (ntI i st c).1) (hb : Bd (ntI i st c).1) (hc : i + 1 + c ≤ n) : Go (cW d) i_M_net (0, 0) K 12 [vo 1 0 0, vi (nI (ntI i st c).2), vi (nI i), vi (nI (i + 1 + c)), x, y, z] [] m 0 0 := by
  have hR := H.1.ok
  have qn : gI m (1, 0, 0) 10 = nI n := (H.1.2.2.2.2 0 0 10 (by simp)).trans q2
  refine Go.runR (callT_mono MT _) [12, 71] 200 hR ?_
  refine And.intro (fun c15 => ?_) (fun c15 => ?_)
  · try dsimp only at c15
    have hk2 := lq_e c15 qn rfl hc (by omega)
    obtain rfl : c = n - (i + 1) := by omega
    have nn : i + 1 + (n - (i + 1)) = n := hk2
    have hh := h m x y z H hb
    rw [nn]
    exact hh
  · try dsimp only at c15
    have hk2 := lq_m c15 qn rfl hc (by omega)
    have o1 : (8 * nI i + nI (i + 1 + c)).toNatClampNeg = 8 * i + (i + 1 + c) := by rw [pk8, nI_clamp (by omega)]
    have o2 : (8 * nI (i + 1 + c) + nI i).toNatClampNeg = 8 * (i + 1 + c) + i := by rw [pk8, nI_clamp (by omega)]
    have f1 : gI m (1, 18, 0) (8 * nI i + nI (i + 1 + c)).toNatClampNeg = nI ((ntI i st c).1 i (i + 1 + c)) := by rw [o1]; exact H.2 i (i + 1 + c) hi hk2
    have f2 : gI m (1, 18, 0) (8 * nI (i + 1 + c) + nI i).toNatClampNeg = nI ((ntI i st c).1 (i + 1 + c) i) := by rw [o2]; exact H.2 (i + 1 + c) i hk2 hi
    have g1 := hb i (i + 1 + c)
    have g2 := hb (i + 1 + c) i
    have i1 : nI ((ntI i st c).1 (i + 1 + c) i) ≤ nI ((ntI i st c).1 i (i + 1 + c)) ↔ (ntI i st c).1 (i + 1 + c) i ≤ (ntI i st c).1 i (i + 1 + c) := nI_leI (by omega) (by omega)
    have l1 : nmn (ntI i st c).1 i (i + 1 + c) ≤ (ntI i st c).1 i (i + 1 + c) ∧ nmn (ntI i st c).1 i (i + 1 + c) ≤ (ntI i st c).1 (i + 1 + c) i := (by unfold nmn; split <;> omega)
    have key : ∀ (m' : Mem) (b a1 a2 a3 : Int32), b = nI (ntI i st c).2 + 2 * a3 → a3 = nI (nmn (ntI i st c).1 i (i + 1 + c)) → m' = pI (pI m (1, 18, 0) (8 * nI i + nI (i + 1 + c)).toNatClampNeg (gI m (1, 18, 0) (8 * nI i + nI (i + 1 + c)).toNatClampNeg - a3)) (1, 18, 0) (8 * nI (i + 1 + c) + nI i).toNatClampNeg (gI m (1, 18, 0) (8 * nI (i + 1 + c) + nI i).toNatClampNeg - a3) → Go (cW d) i_M_net (0, 0) K 12 [vo 1 0 0, vi b, vi (nI i), vi (nI (i + 1 + c) + 1), vi a1, vi a2, vi a3] [] m' 0 0 := fun m' b a1 a2 a3 y1 y2 y3 => (by
      subst y3; subst y1; subst y2
      refine go_eq (ls' := [vo 1 0 0, vi (nI (ntI i st (c + 1)).2), vi (nI i), vi (nI (i + 1 + (c + 1))), vi a1, vi a2, vi (nI (nmn (ntI i st c).1 i (i + 1 + c)))]) (m' := pI (pI m (1, 18, 0) (8 * i + (i + 1 + c)) (nI ((ntI i st c).1 i (i + 1 + c) - nmn (ntI i st c).1 i (i + 1 + c)))) (1, 18, 0) (8 * (i + 1 + c) + i) (nI ((ntI i st c).1 (i + 1 + c) i - nmn (ntI i st c).1 i (i + 1 + c)))) ?_ ?_ (l_M_net12 h8 q2 hi h (c + 1) _ _ _ _ (H.step h8 hi hk2 (by omega)) hb.step (by omega))
      · rw [nI_1, show (2 : Int32) = nI 2 from rfl, pk_mul, nI_add]
        rfl
      · rw [f1, f2, o1, o2, pk_sub l1.1, pk_sub l1.2])
    refine And.intro ⟨rfl, rfl, rfl⟩ ?_
    refine And.intro (by show vp_in (8 * nI i + nI (i + 1 + c)) 64; rw [pk8]; exact vp_nI (by omega) (by decide)) ?_
    refine And.intro ⟨rfl, rfl, rfl⟩ ?_
    refine And.intro (by show vp_in (8 * nI (i + 1 + c) + nI i) 64; rw [pk8]; exact vp_nI (by omega) (by decide)) ?_
    refine And.intro (fun c36 => ?_) (fun c36 => ?_)
    · try dsimp only at c36
      rw [f1, f2] at c36
      have c36 := i1.mp c36
      refine And.intro ⟨rfl, rfl, rfl⟩ ?_
      refine And.intro (by show vp_in (8 * nI i + nI (i + 1 + c)) 64; rw [pk8]; exact vp_nI (by omega) (by decide)) ?_
      refine And.intro ⟨rfl, rfl, rfl⟩ ?_
      refine And.intro (by show vp_in (8 * nI (i + 1 + c) + nI i) 64; rw [pk8]; exact vp_nI (by omega) (by decide)) ?_
      first
      | exact key _ _ _ _ _ rfl (by rw [f2]; unfold nmn; by_cases u : (ntI i st c).1 (i + 1 + c) i < (ntI i st c).1 i (i + 1 + c); rw [if_pos u]; rw [if_neg u]; congr 1; omega) rfl
      | exact key _ _ _ _ _ rfl (by rw [f1]; unfold nmn; rw [if_neg (by omega)]) rfl
    · try dsimp only at c36
      rw [f1, f2] at c36
      have c36 := mt i1.mpr c36
      refine And.intro ⟨rfl, rfl, rfl⟩ ?_
      refine And.intro (by show vp_in (8 * nI i + nI (i + 1 + c)) 64; rw [pk8]; exact vp_nI (by omega) (by decide)) ?_
      refine And.intro ⟨rfl, rfl, rfl⟩ ?_
      refine And.intro (by show vp_in (8 * nI (i + 1 + c) + nI i) 64; rw [pk8]; exact vp_nI (by omega) (by decide)) ?_
      first
      | exact key _ _ _ _ _ rfl (by rw [f2]; unfold nmn; by_cases u : (ntI i st c).1 (i + 1 + c) i < (ntI i st c).1 i (i + 1 + c); rw [if_pos u]; rw [if_neg u]; congr 1; omega) rfl
      | exact key _ _ _ _ _ rfl (by rw [f1]; unfold nmn; rw [if_neg (by omega)]) rfl
termination_by n - c
decreasing_by all_goals omega

theorem l_M_net4 {d n : Nat} {m0 : Mem} {K : Option Vv → Mem → Prop} {st : NtS} (h8 : n ≤ 8) (q2 : gI m0 (1, 0, 0) 10 = nI n) (h : ∀ m, NdB n m0 m (ntO n st n).1 → Bd (ntO n st n).1 → K (some (vi (nI (ntO n st n).2))) m) (k : Nat) (m : Mem) (x y z w : Vv) (H : NdB n m0 m (ntO n st k).1) (hb : Bd (ntO n st k).1) (hk : k ≤ n) : Go (cW d) i_M_net (0, 0) K 4 [vo 1 0 0, vi (nI (ntO n st k).2), vi (nI k), x, y, z, w] [] m 0 0 := by
  have hR := H.1.ok
  have qn : gI m (1, 0, 0) 10 = nI n := (H.1.2.2.2.2 0 0 10 (by simp)).trans q2
  refine Go.runR (callT_mono MT _) [4, 12] 200 hR ?_
  refine And.intro (fun c7 => ?_) (fun c7 => ?_)
  · try dsimp only at c7
    obtain rfl := lq_e c7 qn rfl hk (by omega)
    refine And.intro trivial ?_
    exact h m H hb
  · try dsimp only at c7
    have hk2 := lq_m c7 qn rfl hk (by omega)
    refine go_eq (ls' := [vo 1 0 0, vi (nI (ntI k (ntO n st k) 0).2), vi (nI k), vi (nI (k + 1 + 0)), y, z, w]) (by show [vo 1 0 0, vi (nI (ntO n st k).2), vi (nI k), vi (nI k + 1), y, z, w] = _; rw [nI_1]; rfl) rfl (l_M_net12 h8 q2 hk2 (fun m2 x2 y2 z2 H2 hb2 => ?_) 0 m y z w H hb (by omega))
    refine Go.runR (callT_mono MT _) [4] 200 H2.1.ok ?_
    exact go_eq (ls' := [vo 1 0 0, vi (nI (ntO n st (k + 1)).2), vi (nI (k + 1)), vi (nI n), x2, y2, z2]) (by rw [nI_succ, ntOs]; rfl) rfl (l_M_net4 h8 q2 h (k + 1) m2 _ _ _ _ (by rw [ntOs]; exact H2) (by rw [ntOs]; exact hb2) hk2)
termination_by n - k
decreasing_by all_goals omega

theorem RelAB.net {n : Nat} {m m1 m2 : Mem} {b : Nat → Nat → Nat} (R : RelAB m) (hc : CurR n m) (A : NdA n m m1 b) (B : NdB n m1 m2 b) (hb : Bd b) : RelAB m2 := by
  have k2 : ∀ i, kn m2 i = kn m i := fun i => (B.1.kn i).trans (A.1.kn i)
  have c0 : ∀ t i k, t ≠ 13 → gI m2 (0, t, i) k = gI m (0, t, i) k := fun t i k h => (B.1.2.2.2.1 t i k (by simp)).trans (A.1.2.2.2.1 t i k (by simp [h]))
  have c1 : ∀ t k, t ≠ 18 → gI m2 (1, t, 0) k = gI m (1, t, 0) k := fun t k h => (B.1.2.2.2.2 t 0 k (by simp [h])).trans (A.1.2.2.2.2 t 0 k (by simp))
  have c13 : ∀ i k, gI m2 (0, 13, i) k = gI m1 (0, 13, i) k := fun i k => B.1.2.2.2.1 13 i k (by simp)
  have gl : ∀ ob k, gL m2 ob k = gL m ob k := fun ob k => (B.1.2.2.1 ob k).trans (A.1.2.2.1 ob k)
  refine R.ofCur (n := n) B.1.ok ?_ (fun t i k q => c0 t i k (by omega)) (fun t k q => c1 t k (by omega)) ?_
  · obtain ⟨h8, hm, h0, h1⟩ := hc
    refine ⟨h8, (c1 0 10 (by omega)).trans hm, fun z => ?_, fun hn => ?_⟩
    · have := h0 z
      rw [c0 5 0 3 (by omega), c0 5 0 4 (by omega), c1 0 20 (by omega), c0 5 0 7 (by omega), c1 0 21 (by omega), c0 5 0 8 (by omega), c1 0 22 (by omega), c1 0 11 (by omega), c1 0 12 (by omega)]
      refine ⟨this.1, this.2.1, this.2.2.1, this.2.2.2.1, this.2.2.2.2.1, this.2.2.2.2.2.1, this.2.2.2.2.2.2.1, this.2.2.2.2.2.2.2.1, this.2.2.2.2.2.2.2.2.1, fun k hk => ?_⟩
      rw [c0 5 _ 3 (by omega), c1 13 _ (by omega)]
      exact this.2.2.2.2.2.2.2.2.2 k hk
    · obtain ⟨hl, ⟨T, s1, s2⟩, hk⟩ := h1 hn
      obtain ⟨a1, a2, a3, a4, a5, a6, a7, a8, a9⟩ := s2
      refine ⟨LoudR.cg (m := m) h8 k2 (fun i => c1 7 i (by omega)) (fun i => c1 8 i (by omega)) (fun i _ => c0 8 i 1 (by omega)) (c0 5 0 6 (by omega)) (c1 0 12 (by omega)) hl, ⟨T, (c1 0 20 (by omega)).trans s1, ?_⟩, fun k hk3 => KeptR.cg (m := m) h8 (fun q => c0 5 _ q (by omega)) (fun i q _ => c0 8 _ q (by omega)) (fun t q _ => c0 10 _ q (by omega)) (fun t q _ => c0 11 _ q (by omega)) (fun t q _ => (c13 _ q).trans (A.2.2 _ q (by omega))) (fun q => c1 13 q (by omega)) k2 (fun i _ => c0 8 i 1 (by omega)) (c0 5 0 6 (by omega)) (hk k hk3)⟩
      refine ⟨(c0 5 0 3 (by omega)).trans a1, (c0 5 0 4 (by omega)).trans a2, a3, by rw [c0 5 0 5 (by omega), c1 0 11 (by omega)]; exact a4, by rw [c0 5 0 7 (by omega), c1 0 21 (by omega)]; exact a5, by rw [c0 5 0 8 (by omega), c1 0 22 (by omega)]; exact a6, fun i hi => ?_, fun i j hi hj => ?_, fun t ht => ?_⟩
      · have := a7 i hi
        unfold HoR at *
        rw [c0 8 _ 2 (by omega), c0 8 _ 3 (by omega), c0 8 _ 4 (by omega), c1 9 i (by omega), c1 10 i (by omega), c1 11 i (by omega)]
        exact this
      · rw [show 8 * 0 + i = i by omega, c13, A.2.1 i j hi hj, B.2 i j hi hj]
        exact ⟨rfl, b i j, hb i j, rfl⟩
      · have := a9 t ht
        unfold HrR at *
        simp only [c0 10 _ _ (by omega), c0 11 _ _ (by omega), c1 12 _ (by omega)]
        exact this
  · have dd := R.2.2.2.1
    unfold TellR at *
    rw [c0 0 0 7 (by omega), c0 0 0 8 (by omega), c1 0 0 (by omega), c1 0 2 (by omega), gl, gl, gl, gl, c0 15 0 0 (by omega), c0 16 0 0 (by omega)]
    refine ⟨dd.1, dd.2.1, fun f f1 f5 => ?_, dd.2.2.2⟩
    rw [c0 19 0 f (by omega), c1 1 f (by omega)]
    exact dd.2.2.1 f f1 f5

theorem m_St_netDebts {d n : Nat} {m : Mem} {K : Option Vv → Mem → Prop} {b : Nat → Nat → Nat} (h8 : n ≤ 8) (q1 : gI m (0, 5, 0) 3 = nI n) (H : NdA n m m b) (hb : Bd b) (h : ∀ m', NdA n m m' (ntO n (b, 0) n).1 → Bd (ntO n (b, 0) n).1 → K (some (vi (nI (ntO n (b, 0) n).2))) m') : cW (d + 1) n_St_netDebts [vo 0 5 0] m K := by
  have hR := H.1.ok
  refine w_St_netDebts (Go.runR (callT_mono MT _) [4] 200 hR ?_)
  exact go_eq (ls' := [vo 0 5 0, vi (nI (ntO n (b, 0) 0).2), vi (nI 0), vu, vu]) rfl rfl (l_St_net4 (st := (b, 0)) h8 q1 h 0 m _ _ H hb (Nat.zero_le _))

theorem p_net {d : Nat} {m : Mem} {K : Option Vv → Option Vv → Mem → Prop} (R : RelAB m) (h : ∀ v m', RelAB m' → K v v m') : cW (d + 6) n_X_net [vo 0 0 0] m (fun u m1 => cW (d + 6) n_M_net [vo 1 0 0] m1 (fun w m2 => K u w m2)) := by
  have hR := R.1
  obtain ⟨n, hc⟩ := R.2.2.2.2
  obtain ⟨D, hS⟩ := hc.sc hR
  have ht := R.2.2.2.1
  obtain ⟨q1, q2⟩ := hc.many
  have h8 := hc.le
  have hb0 : ∃ b : Nat → Nat → Nat, Bd b ∧ ∀ i j, i < n → j < n → b i j = dB D (8 * i + j) := ⟨fun i j => if i < n ∧ j < n then dB D (8 * i + j) else 0, fun i j => by
    show (if i < n ∧ j < n then dB D (8 * i + j) else 0) ≤ 99
    split
    · rename_i z; exact (hS.db z.1 z.2).1
    · omega, fun i j hi hj => if_pos ⟨hi, hj⟩⟩
  obtain ⟨b, hb, be⟩ := hb0
  have HA : NdA n m m b := ⟨Nx.refl hR, fun i j hi hj => by rw [be i j hi hj]; exact (hS.db hi hj).2.1, fun _ _ _ => rfl⟩
  refine w_X_net (Go.runR (callT_mono MT _) [] 200 (by repeat' (first | exact hR | exact g1.ok | exact g2.ok | exact g3.ok | apply OKR.pI | apply OKR.pL | apply OKR.cpI | apply OKR.wI)) ?_)
  refine And.intro ⟨(by first | decide | assumption | omega), (by first | decide | assumption | omega)⟩ ?_
  refine m_St_netDebts h8 q1 HA hb (fun m1 A ab => And.intro A.1.ok ?_)
  have g1 := A.1
  refine And.intro trivial ?_
  refine w_M_net (Go.runR (callT_mono MT _) [4] 200 (by repeat' (first | exact hR | exact g1.ok | exact g2.ok | exact g3.ok | apply OKR.pI | apply OKR.pL | apply OKR.cpI | apply OKR.wI)) ?_)
  exact go_eq (ls' := [vo 1 0 0, vi (nI (ntO n (b, 0) 0).2), vi (nI 0), vu, vu, vu, vu]) rfl rfl (l_M_net4 (m0 := m1) (st := (b, 0)) h8 ((g1.2.2.2.2 0 0 10 (by simp)).trans q2) (fun m2 B bb => h _ _ (R.net hc A B ab)) 0 m1 _ _ _ _ ⟨Nx.refl g1.ok, fun i j hi hj => by
  rw [show (ntO n (b, 0) 0).1 i j = b i j from rfl, be i j hi hj]
  exact (g1.2.2.2.2 18 0 _ (by simp)).trans (hS.db hi hj).2.2⟩ hb (Nat.zero_le _))
