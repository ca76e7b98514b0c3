/-! Written by a program (wip/whole/p71.py): copy. -/
theorem rdG (m : Mem) (t i t2 i2 sp dp n t' i' k : Nat) : gI (cpI m (0, t, i) (0, t2, i2) sp dp n) (0, t', i') k = if t' = t2 ∧ i' = i2 ∧ dp ≤ k ∧ k < dp + n then gI m (0, t, i) (sp + (k - dp)) else gI m (0, t', i') k := by
  show (if t' = t2 ∧ i' = i2 then (if dp ≤ k ∧ k < dp + n then gI m (0, t, i) (sp + (k - dp)) else gI m (0, t2, i2) k) else gI m (0, t', i') k) = _
  by_cases z : t' = t2 ∧ i' = i2
  · rw [if_pos z]
    by_cases y : dp ≤ k ∧ k < dp + n
    · rw [if_pos y, if_pos ⟨z.1, z.2, y⟩]
    · rw [if_neg y, if_neg (fun x => y x.2.2), z.1, z.2]
  · rw [if_neg z, if_neg (fun x => z ⟨x.1, x.2.1⟩)]
theorem span1 {s x c : Nat} (hs : s ≤ 40) (h : x + c ≤ s) : 0 ≤ nI c ∧ 0 ≤ nI x ∧ nI x ≤ nI s - nI c := ⟨nI_pos' (by omega), nI_pos' (by omega), by rw [pk_sub (by omega)]; exact nI_le (by omega) (by omega)⟩
theorem span0 {s x c : Nat} (hs : s ≤ 40) (hx : x < 2 ^ 31) (hc : c < 2 ^ 31) (h : ¬ x + c ≤ s) : ¬ (0 ≤ nI c ∧ 0 ≤ nI x ∧ nI x ≤ nI s - nI c) := by
  intro z
  have z3 := z.2.2
  rw [Int32.le_iff_toInt_le, Int32.toInt_sub, nI_toInt hx, nI_toInt hc, nI_toInt (show s < 2 ^ 31 by omega), Int.bmod_eq_of_le (by omega) (by omega)] at z3
  omega
theorem spanL {s x c : Nat} (hs : s ≤ 40) (hx : x < 2 ^ 31) (hc : c < 2 ^ 31) : (nI x).toInt64 + (nI c).toInt64 ≤ (nI s).toInt64 ↔ x + c ≤ s := by
  rw [nI_l hx, nI_l hc, nI_l (show s < 2 ^ 31 by omega), show lN x + lN c = lN (x + c) from (Int64.ofNat_add x c).symm]
  exact pk_lLE (by omega) (by omega)

theorem m_Ce_hasSpan {d : Nat} {m : Mem} {K : Option Vv → Mem → Prop} (hR : OKR m) {c : Nat} {i n : Int32} (h : K (some (vi (b2 (0 ≤ n ∧ 0 ≤ i ∧ i ≤ gI m (0, 1, c) 1 - n)))) m) : cW (d + 1) n_Ce_hasSpan [vo 0 1 c, vi i, vi n] m K := by
  refine w_Ce_hasSpan (Go.runR (callT_mono MT _) [] 200 hR ?_)
  refine And.intro (fun c1 => ?_) (fun c1 => ?_)
  · try dsimp only at c1
    refine And.intro (by first | exact Or.inl rfl | exact Or.inr rfl | grind) ?_
    exact kvi (by first | exact (if_pos (by grind)) | exact (if_neg (by grind)) | grind) h
  · try dsimp only at c1
    refine And.intro (fun c3 => ?_) (fun c3 => ?_)
    · try dsimp only at c3
      refine And.intro (by first | exact Or.inl rfl | exact Or.inr rfl | grind) ?_
      exact kvi (by first | exact (if_pos (by grind)) | exact (if_neg (by grind)) | grind) h
    · try dsimp only at c3
      refine And.intro (fun c9 => ?_) (fun c9 => ?_)
      · try dsimp only at c9
        refine And.intro (by first | exact Or.inl rfl | exact Or.inr rfl | grind) ?_
        exact kvi (by first | exact (if_pos (by grind)) | exact (if_neg (by grind)) | grind) h
      · try dsimp only at c9
        refine And.intro (by first | exact Or.inl rfl | exact Or.inr rfl | grind) ?_
        exact kvi (by first | exact (if_pos (by grind)) | exact (if_neg (by grind)) | grind) h

theorem m_Ce_hasSpan1 {d : Nat} {m : Mem} {K : Option Vv → Mem → Prop} (hR : OKR m) {c s x k : Nat} (hs : s ≤ 40) (q : gI m (0, 1, c) 1 = nI s) (hx : x + k ≤ s) (h : K (some (vi 1)) m) : cW (d + 1) n_Ce_hasSpan [vo 0 1 c, vi (nI x), vi (nI k)] m K := m_Ce_hasSpan hR (kvi (if_pos (by rw [q]; exact span1 hs hx)) h)
theorem m_Ce_hasSpan0 {d : Nat} {m : Mem} {K : Option Vv → Mem → Prop} (hR : OKR m) {c s x k : Nat} (hs : s ≤ 40) (hx : x < 2 ^ 31) (hk : k < 2 ^ 31) (q : gI m (0, 1, c) 1 = nI s) (hn : ¬ x + k ≤ s) (h : K (some (vi 0)) m) : cW (d + 1) n_Ce_hasSpan [vo 0 1 c, vi (nI x), vi (nI k)] m K := m_Ce_hasSpan hR (kvi (if_neg (by rw [q]; exact span0 hs hx hk hn)) h)
theorem m_Ce_hasSpan2 {d : Nat} {m : Mem} {K : Option Vv → Mem → Prop} (hR : OKR m) {c : Nat} {i n : Int32} (hi : i < 0) (h : K (some (vi 0)) m) : cW (d + 1) n_Ce_hasSpan [vo 0 1 c, vi i, vi n] m K := m_Ce_hasSpan hR (kvi (if_neg (fun z => absurd hi (Int32.not_lt.mpr z.2.1))) h)

theorem m_Ce_take1 {d a b s s' x y k : Nat} {m : Mem} {K : Option Vv → Mem → Prop} (hR : OKR m) (ha : a < 6) (hb : b < 6) (hs : s ≤ 40) (hs' : s' ≤ 40) (q : gI m (0, 1, a) 1 = nI s) (q' : gI m (0, 1, b) 1 = nI s') (hx : x + k ≤ s) (hy : y + k ≤ s') (h : K none (cpI m (0, 2, a) (0, 2, b) x y k)) : cW (d + 2) n_Ce_take [vo 0 1 b, vo 0 1 a, vi (nI x), vi (nI y), vi (nI k)] m K := by
  have ex : (nI x).toNatClampNeg = x := nI_clamp (by omega)
  have ey : (nI y).toNatClampNeg = y := nI_clamp (by omega)
  have ek : (nI k).toNatClampNeg = k := nI_clamp (by omega)
  refine w_Ce_take (Go.runR (callT_mono MT _) [] 200 hR ?_)
  refine m_Ce_hasSpan1 (by repeat' (first | exact hR | apply OKR.pI | apply OKR.pL | apply OKR.cpI | apply OKR.wI)) hs q hx (And.intro (by repeat' (first | exact hR | apply OKR.pI | apply OKR.pL | apply OKR.cpI | apply OKR.wI)) ?_)
  refine And.intro (fun c4 => ?_) (fun c4 => ?_)
  · first | exact absurd c4 (by decide) | exact absurd (by decide) c4 | (exfalso; grind)
  · try dsimp only at c4
    refine m_Ce_hasSpan1 (by repeat' (first | exact hR | apply OKR.pI | apply OKR.pL | apply OKR.cpI | apply OKR.wI)) hs' q' hy (And.intro (by repeat' (first | exact hR | apply OKR.pI | apply OKR.pL | apply OKR.cpI | apply OKR.wI)) ?_)
    refine And.intro (fun c9 => ?_) (fun c9 => ?_)
    · first | exact absurd c9 (by decide) | exact absurd (by decide) c9 | (exfalso; grind)
    · try dsimp only at c9
      refine And.intro ⟨(by first | decide | assumption | omega), (by first | decide | assumption | omega)⟩ ?_
      refine And.intro ⟨(by first | decide | assumption | omega), (by first | decide | assumption | omega)⟩ ?_
      refine And.intro ⟨(by first | exact nI_pos (by omega) | exact nI_pos' (by omega) | decide), (by first | exact nI_pos (by omega) | exact nI_pos' (by omega) | decide), (by first | exact nI_pos (by omega) | exact nI_pos' (by omega) | decide), (by rw [ex, ek]; show x + k ≤ (if a < 6 then 40 else 80); rw [if_pos ha]; omega), (by rw [ey, ek]; show y + k ≤ (if b < 6 then 40 else 80); rw [if_pos hb]; omega)⟩ ?_
      refine And.intro trivial ?_
      rw [ex, ey, ek]
      exact h

def Cp1 (a x k : Nat) (m0 m : Mem) : Prop := Nx [] [4] m0 m ∧ ∀ i, i < k → gI m (1, 4, 0) i = gI m0 (1, 3, 0) (40 * a + (x + i))
def Cp2 (a x b y c k : Nat) (m0 m : Mem) : Prop := Nx [] [3, 4] m0 m ∧ (∀ i, i < c → gI m (1, 4, 0) i = gI m0 (1, 3, 0) (40 * a + (x + i))) ∧ ∀ j, gI m (1, 3, 0) j = if 40 * b + y ≤ j ∧ j < 40 * b + y + k then gI m0 (1, 3, 0) (40 * a + (x + (j - (40 * b + y)))) else gI m0 (1, 3, 0) j

theorem l_M_copy79 {d a x b y c : Nat} {m0 : Mem} {K : Option Vv → Mem → Prop} (ha : a < 6) (hb : b < 6) (hx : x + c ≤ 40) (hy : y + c ≤ 40) (h : ∀ m, Cp2 a x b y c c m0 m → K (some (vi 1)) m) (k : Nat) (m : Mem) (H : Cp2 a x b y c k m0 m) (hk : k ≤ c) : Go (cW (d + 1)) i_M_copy (0, 0) K 79 [vo 1 0 0, vi (nI a), vi (nI x), vi (nI b), vi (nI y), vi (nI c), vi (nI k)] [] m 0 0 := by
  have hR := H.1.ok
  have e0 : (nI k).toNatClampNeg = k := nI_clamp (by omega)
  refine Go.runR (callT_mono MT _) [79] 200 hR ?_
  refine And.intro (fun c81 => ?_) (fun c81 => ?_)
  · try dsimp only at c81
    have hk2 := lq_e (n := c) c81 rfl rfl hk (by omega)
    subst hk2
    refine And.intro trivial ?_
    exact h _ H
  · try dsimp only at c81
    have hk2 := lq_m (n := c) c81 rfl rfl hk (by omega)
    have hy2 : Cp2 a x b y c (k + 1) m0 (pI m (1, 3, 0) (40 * b + (y + k)) (gI m (1, 4, 0) k)) := by
      refine ⟨H.1.p1 (by simp), fun i hi => ?_, fun j => ?_⟩
      · rw [rd11, if_neg (by omega)]; exact H.2.1 i hi
      · rw [rd11]
        by_cases z : j = 40 * b + (y + k)
        · rw [if_pos ⟨rfl, rfl, z⟩, if_pos (by omega), H.2.1 k hk2, show x + (j - (40 * b + y)) = x + k by omega]
        · rw [if_neg (fun w => z w.2.2), H.2.2 j]
          exact if_st (by omega)
    refine And.intro ⟨rfl, rfl, rfl⟩ ?_
    refine And.intro (by exact vp_nI (k := k) (N := 40) (by omega) (by decide)) ?_
    show cW _ n_M_setRow [vo 1 0 0, vi (nI b), vi (nI y + nI k), vi (gI m (1, 4, 0) (nI k).toNatClampNeg)] _ _
    rw [nI_add, e0]
    refine m_M_setRow (by repeat' (first | exact hR | apply OKR.pI | apply OKR.pL | apply OKR.cpI | apply OKR.wI)) (a := b) (b := y + k) hb (by omega) (And.intro hy2.1.ok ?_)
    exact go_eq (by rw [nI_succ]; rfl) rfl (l_M_copy79 ha hb hx hy h (k + 1) _ hy2 hk2)
termination_by c - k
decreasing_by all_goals omega

theorem l_M_copy62 {d a x b y c : Nat} {m0 : Mem} {K : Option Vv → Mem → Prop} (ha : a < 6) (hb : b < 6) (hx : x + c ≤ 40) (hy : y + c ≤ 40) (h : ∀ m, Cp2 a x b y c c m0 m → K (some (vi 1)) m) (k : Nat) (m : Mem) (H : Cp1 a x k m0 m) (hk : k ≤ c) : Go (cW (d + 1)) i_M_copy (0, 0) K 62 [vo 1 0 0, vi (nI a), vi (nI x), vi (nI b), vi (nI y), vi (nI c), vi (nI k)] [] m 0 0 := by
  have hR := H.1.ok
  have e0 : (nI k).toNatClampNeg = k := nI_clamp (by omega)
  refine Go.runR (callT_mono MT _) [62, 79] 200 hR ?_
  refine And.intro (fun c64 => ?_) (fun c64 => ?_)
  · try dsimp only at c64
    have hk2 := lq_e (n := c) c64 rfl rfl hk (by omega)
    subst hk2
    refine go_eq (ls' := [vo 1 0 0, vi (nI a), vi (nI x), vi (nI b), vi (nI y), vi (nI k), vi (nI 0)]) rfl rfl (l_M_copy79 ha hb hx hy h 0 m ⟨⟨H.1.1, H.1.2.1, H.1.2.2.1, H.1.2.2.2.1, fun t i k q => H.1.2.2.2.2 t i k (by simp at q ⊢; omega)⟩, H.2, fun j => ?_⟩ (by omega))
    rw [if_neg (by omega)]
    exact H.1.2.2.2.2 3 0 j (by simp)
  · try dsimp only at c64
    have hk2 := lq_m (n := c) c64 rfl rfl hk (by omega)
    refine And.intro ⟨rfl, rfl, rfl⟩ ?_
    show cW _ n_M_rowAt [vo 1 0 0, vi (nI a), vi (nI x + nI k)] _ _
    rw [nI_add]
    refine m_M_rowAt (by repeat' (first | exact hR | apply OKR.pI | apply OKR.pL | apply OKR.cpI | apply OKR.wI)) (a := a) (b := x + k) ha (by omega) (And.intro (by repeat' (first | exact hR | apply OKR.pI | apply OKR.pL | apply OKR.cpI | apply OKR.wI)) ?_)
    refine And.intro (by exact vp_nI (k := k) (N := 40) (by omega) (by decide)) ?_
    have key : ∀ i v, i = k → v = gI m0 (1, 3, 0) (40 * a + (x + k)) → Go (cW (d + 1)) i_M_copy (0, 0) K 62 [vo 1 0 0, vi (nI a), vi (nI x), vi (nI b), vi (nI y), vi (nI c), vi (nI k + 1)] [] (pI m (1, 4, 0) i v) 0 0 := fun i v yi yv => by
      subst yi; subst yv
      refine go_eq (by rw [← nI_succ]) rfl (l_M_copy62 ha hb hx hy h (i + 1) _ ⟨H.1.p1 (by simp), fun j hj => ?_⟩ hk2)
      rw [rd11]
      by_cases z : j = i
      · rw [if_pos ⟨rfl, rfl, z⟩, z]
      · rw [if_neg (fun w => z w.2.2)]
        exact H.2 j (by omega)
    exact key _ _ e0 (H.1.2.2.2.2 3 0 _ (by simp))
termination_by c - k
decreasing_by all_goals omega

theorem RelAB.copy {a b s s' x y c : Nat} {m m2 : Mem} (R : RelAB m) (ha : a < 6) (hb : b < 6) (hs : s ≤ 40) (hs' : s' ≤ 40) (q : ∀ k, k < s → gI m (0, 2, a) k = gI m (1, 3, 0) (40 * a + k)) (hx : x + c ≤ s) (hy : y + c ≤ s') (B : Cp2 a x b y c c (cpI m (0, 2, a) (0, 2, b) x y c) m2) : RelAB m2 := by
  have b0 : ∀ t i k, gI m2 (0, t, i) k = if t = 2 ∧ i = b ∧ y ≤ k ∧ k < y + c then gI m (0, 2, a) (x + (k - y)) else gI m (0, t, i) k := fun t i k => (B.1.2.2.2.1 t i k (by simp)).trans (rdG ..)
  have b1 : ∀ t i k, t ≠ 3 → t ≠ 4 → gI m2 (1, t, i) k = gI m (1, t, i) k := fun t i k h3 h4 => B.1.2.2.2.2 t i k (by simp [h3, h4])
  have b3 : ∀ j, gI m2 (1, 3, 0) j = if 40 * b + y ≤ j ∧ j < 40 * b + y + c then gI m (1, 3, 0) (40 * a + (x + (j - (40 * b + y)))) else gI m (1, 3, 0) j := fun j => B.2.2 j
  refine R.cells B.1.ok ?_ ?_ (fun t i k h1 h2 => ?_) (fun t i k h2 h3 h4 h5 h6 => b1 t i k h3 h4) (fun o k => (B.1.2.2.1 o k).trans (gL_cpI ..)) (fun o k => (B.1.2.1 o k).trans (gR_cpI ..))
  · intro r hr
    rw [b0 1 r 1, if_neg (by omega), b1 2 0 r (by omega) (by omega)]
    rcases R.2.1 r hr with z | ⟨l, z1, z2, z3, z4⟩
    · exact Or.inl z
    · refine Or.inr ⟨l, z1, z2, z3, fun k hk => ?_⟩
      rw [b0, b3]
      by_cases w : r = b ∧ y ≤ k ∧ k < y + c
      · rw [if_pos ⟨rfl, w⟩, if_pos (by omega), q _ (by omega), show 40 * r + k - (40 * b + y) = k - y by omega]
      · rw [if_neg (fun u => w u.2), if_neg (by omega)]
        exact z4 k hk
  · refine TextsR.cg (m := m) (fun r => by rw [b0, if_neg (by omega)]) (fun r k => by rw [b0, if_neg (by omega)]) (fun k => b1 5 0 k (by omega) (by omega)) (fun k => b1 6 0 k (by omega) (by omega)) R.2.2.1
  · rw [b0, if_neg (by omega)]
