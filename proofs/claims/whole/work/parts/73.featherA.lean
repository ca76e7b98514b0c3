/-! Written by a program (wip/whole/p73.py): feathers. -/
def xF (D : SDt) (L : Nat → Int32) (i : Nat) : Int32 := nI (rp D i) - L i
def gF (D : SDt) (L : Nat → Int32) : Option Nat → Int32
  | none => 0
  | some j => xF D L j
def bF (D : SDt) (L : Nat → Int32) (s : Nat) : Nat → Option Nat
  | 0 => none
  | k + 1 => if s.testBit k = true ∧ gF D L (bF D L s k) < xF D L k then some k else bF D L s k
def upF (L : Nat → Int32) : Option Nat → Nat → Int32
  | none => L
  | some j => fun i => if i = j then L j + 1 else L i
def LF (n : Nat) (D : SDt) (s : Nat) : Nat → Nat → Int32
  | 0 => fun _ => 0
  | k + 1 => upF (LF n D s k) (bF D (LF n D s k) s n)
def suF (L : Nat → Int32) : Nat → Int32
  | 0 => 0
  | k + 1 => suF L k + L k
def cF : Option Nat → Int32
  | none => -1
  | some j => nI j
def eF : Option Nat → Int32
  | none => -9
  | some j => nI j
theorem bF_n {D : SDt} {L : Nat → Int32} {s k : Nat} (h : ¬ s.testBit k = true) : bF D L s (k + 1) = bF D L s k := if_neg (fun z => h z.1)
theorem bF_le {D : SDt} {L : Nat → Int32} {s k : Nat} (h : xF D L k ≤ gF D L (bF D L s k)) : bF D L s (k + 1) = bF D L s k := if_neg (fun z => Int32.not_lt.mpr h z.2)
theorem bF_s {D : SDt} {L : Nat → Int32} {s k : Nat} (h : s.testBit k = true) (h2 : gF D L (bF D L s k) < xF D L k) : bF D L s (k + 1) = some k := if_pos ⟨h, h2⟩
theorem bF_ge (D : SDt) (L : Nat → Int32) (s : Nat) : ∀ k, 0 ≤ gF D L (bF D L s k)
  | 0 => Int32.le_refl 0
  | k + 1 => by
    by_cases z : s.testBit k = true ∧ gF D L (bF D L s k) < xF D L k
    · rw [bF_s z.1 z.2]
      exact Int32.le_trans (bF_ge D L s k) (Int32.le_of_lt z.2)
    · rw [show bF D L s (k + 1) = bF D L s k from if_neg z]
      exact bF_ge D L s k
theorem bF_lt {D : SDt} {L : Nat → Int32} {s j : Nat} : ∀ k, bF D L s k = some j → j < k
  | 0 => fun e => by exact absurd e (by simp [bF])
  | k + 1 => fun e => by
    by_cases z : s.testBit k = true ∧ gF D L (bF D L s k) < xF D L k
    · rw [bF_s z.1 z.2] at e
      have := Option.some.inj e
      omega
    · rw [show bF D L s (k + 1) = bF D L s k from if_neg z] at e
      have := bF_lt k e
      omega
theorem suF_cg {L L' : Nat → Int32} : ∀ k, (∀ i, i < k → L' i = L i) → suF L' k = suF L k
  | 0, _ => rfl
  | k + 1, h => by
    show suF L' k + L' k = suF L k + L k
    rw [suF_cg k (fun i hi => h i (by omega)), h k (by omega)]
theorem suF_up {L : Nat → Int32} {j : Nat} : ∀ k, j < k → suF (upF L (some j)) k = suF L k + 1
  | 0, h => absurd h (by omega)
  | k + 1, h => by
    show suF (upF L (some j)) k + (if k = j then L j + 1 else L k) = suF L k + L k + 1
    by_cases z : k = j
    · subst z
      rw [if_pos rfl, suF_cg (L := L) (L' := upF L (some k)) k (fun i hi => if_neg (by omega)), Int32.add_assoc]
    · rw [if_neg z, suF_up k (by omega), Int32.add_assoc, Int32.add_comm 1, Int32.add_assoc]
theorem i_sub1 (a b : Int32) : a - b + (-1) = a - (b + 1) := by
  rw [Int32.sub_eq_add_neg, Int32.sub_eq_add_neg, Int32.neg_add, Int32.add_assoc, Int32.sub_eq_add_neg]
theorem i_sub2 (a b c : Int32) : a - b - c = a - (b + c) := by
  rw [Int32.sub_eq_add_neg, Int32.sub_eq_add_neg, Int32.sub_eq_add_neg, Int32.neg_add, Int32.add_assoc, Int32.sub_eq_add_neg]

theorem l_St_rmb {d n s a : Nat} {D : SDt} {m : Mem} {L : Nat → Int32} {K : Option Vv → Mem → Prop} (hS : SC n D m) (hs : s < 256) (ha : a < 6) (q1 : gI m (0, 1, a) 1 = nI n) (hL : ∀ i, i < n → gI m (0, 2, a) i = L i) (h : K (some (vi (cF (bF D L s n)))) m) (k : Nat) (hk : k ≤ n) (z : Vv) : Go (cW (d + 2)) i_St_rippleMostBehind (0, 0) K 6 [vo 0 5 0, vi (nI s), vo 0 1 a, vi (gF D L (bF D L s k)), vi (cF (bF D L s k)), vi (nI k), z] [] m 0 0 := by
  have hR := hS.1
  have h8 := hS.2.1
  have q3 := hS.2.2.1
  have l40 : ln (0, 2, a) = 40 := if_pos ha
  refine Go.runR (callT_mono MT _) [6] 200 hR ?_
  refine And.intro (fun c9 => ?_) (fun c9 => ?_)
  · try dsimp only at c9
    obtain rfl := lq_e c9 q3 rfl hk (by omega)
    refine And.intro trivial ?_
    exact h
  · try dsimp only at c9
    have hk2 := lq_m c9 q3 rfl hk (by omega)
    have key : ∀ (g c : Int32) (w : Vv), g = gF D L (bF D L s (k + 1)) → c = cF (bF D L s (k + 1)) → Go (cW (d + 2)) i_St_rippleMostBehind (0, 0) K 6 [vo 0 5 0, vi (nI s), vo 0 1 a, vi g, vi c, vi (nI k + 1), w] [] m 0 0 := fun g c w y1 y2 => by
      subst y1; subst y2
      exact go_eq (by rw [← nI_succ]) rfl (l_St_rmb hS hs ha q1 hL h (k + 1) hk2 w)
    refine m_St_ripple hS rfl hk2 (And.intro (by repeat' (first | exact hR | apply OKR.pI | apply OKR.pL | apply OKR.cpI | apply OKR.wI)) ?_)
    refine m_Ce_get1 (by repeat' (first | exact hR | apply OKR.pI | apply OKR.pL | apply OKR.cpI | apply OKR.wI)) (n := n) (by omega) (by omega) q1 hk2 (And.intro (by repeat' (first | exact hR | apply OKR.pI | apply OKR.pL | apply OKR.cpI | apply OKR.wI)) ?_)
    rw [hL k hk2]
    refine m_X_contains (by repeat' (first | exact hR | apply OKR.pI | apply OKR.pL | apply OKR.cpI | apply OKR.wI)) (s := s) (i := k) rfl rfl hs (by omega) (And.intro (by repeat' (first | exact hR | apply OKR.pI | apply OKR.pL | apply OKR.cpI | apply OKR.wI)) ?_)
    refine And.intro (fun c21 => ?_) (fun c21 => ?_)
    · try dsimp only at c21
      first
      | exact key _ _ _ (by rw [bF_n (tb_e0 c21)]) (by rw [bF_n (tb_e0 c21)])
      | exact key _ _ _ (by rw [bF_le c24]) (by rw [bF_le c24])
      | exact key _ _ _ (by rw [bF_s (tb_n0 c21) (Int32.not_le.mp c24)]; rfl) (by rw [bF_s (tb_n0 c21) (Int32.not_le.mp c24)]; rfl)
    · try dsimp only at c21
      refine And.intro (fun c24 => ?_) (fun c24 => ?_)
      · try dsimp only at c24
        first
        | exact key _ _ _ (by rw [bF_n (tb_e0 c21)]) (by rw [bF_n (tb_e0 c21)])
        | exact key _ _ _ (by rw [bF_le c24]) (by rw [bF_le c24])
        | exact key _ _ _ (by rw [bF_s (tb_n0 c21) (Int32.not_le.mp c24)]; rfl) (by rw [bF_s (tb_n0 c21) (Int32.not_le.mp c24)]; rfl)
      · try dsimp only at c24
        first
        | exact key _ _ _ (by rw [bF_n (tb_e0 c21)]) (by rw [bF_n (tb_e0 c21)])
        | exact key _ _ _ (by rw [bF_le c24]) (by rw [bF_le c24])
        | exact key _ _ _ (by rw [bF_s (tb_n0 c21) (Int32.not_le.mp c24)]; rfl) (by rw [bF_s (tb_n0 c21) (Int32.not_le.mp c24)]; rfl)
termination_by n - k
decreasing_by all_goals omega

theorem m_St_rmb {d n s a : Nat} {D : SDt} {m : Mem} {L : Nat → Int32} {K : Option Vv → Mem → Prop} (hS : SC n D m) (hs : s < 256) (ha : a < 6) (q1 : gI m (0, 1, a) 1 = nI n) (hL : ∀ i, i < n → gI m (0, 2, a) i = L i) (h : K (some (vi (cF (bF D L s n)))) m) : cW (d + 3) n_St_rippleMostBehind [vo 0 5 0, vi (nI s), vo 0 1 a] m K := by
  have hR := hS.1
  refine w_St_rippleMostBehind (Go.runR (callT_mono MT _) [6] 200 hR ?_)
  exact l_St_rmb hS hs ha q1 hL h 0 (Nat.zero_le _) _

def Cf (a n : Nat) (L : Nat → Int32) (m0 m : Mem) : Prop := Nx [1, 2] [] m0 m ∧ (∀ i k, gI m (0, 1, i) k = if i = a ∧ k = 1 then nI n else gI m0 (0, 1, i) k) ∧ (∀ i k, i ≠ a → gI m (0, 2, i) k = gI m0 (0, 2, i) k) ∧ ∀ i, i < n → gI m (0, 2, a) i = L i
theorem Cf.sc {a n : Nat} {D : SDt} {L : Nat → Int32} {m0 m : Mem} (H : Cf a n L m0 m) (hS : SC n D m0) : SC n D m := SC.cg (m := m0) H.1.ok H.1.kn (fun t i k q => H.1.2.2.2.1 t i k (by simp; omega)) (fun k _ => H.1.2.2.2.2 0 0 k (by simp)) (fun t k _ => H.1.2.2.2.2 t 0 k (by simp)) hS
theorem Cf.set {a n j : Nat} {L : Nat → Int32} {m0 m : Mem} {v : Int32} (H : Cf a n L m0 m) (hv : v = L j + 1) : Cf a n (upF L (some j)) m0 (pI m (0, 2, a) j v) := by
  subst hv
  refine ⟨H.1.p0 (by simp), fun i k => ?_, fun i k hi => ?_, fun i hi => ?_⟩
  · rw [rd00, if_neg (by omega)]; exact H.2.1 i k
  · rw [rd00, if_neg (by omega)]; exact H.2.2.1 i k hi
  · rw [rd00]
    show _ = if i = j then L j + 1 else L i
    by_cases z : i = j
    · rw [if_pos ⟨rfl, rfl, z⟩, if_pos z]
    · rw [if_neg (fun w => z w.2.2), if_neg z]
      exact H.2.2.2 i hi

theorem l_X_feathers {d n s a q : Nat} {D : SDt} {m0 : Mem} {W : Int32} {K : Option Vv → Mem → Prop} (hS : SC n D m0) (hs : s < 256) (ha : a < 6) (hq : q ≤ 20) (h : ∀ m, Cf a n (LF n D s q) m0 m → K (some (vi (W - suF (LF n D s q) n))) m) (k : Nat) (m : Mem) (H : Cf a n (LF n D s k) m0 m) (hk : k ≤ q) (z : Vv) : Go (cW (d + 3)) i_X_feathers (0, 0) K 40 [vo 0 0 0, vi (nI s), vi (nI q), vi (nI a), vo 0 1 a, vi (W - suF (LF n D s k) n), vi (nI k), z] [] m 0 0 := by
  have hS2 := H.sc hS
  have hR := H.1.ok
  have h8 := hS.2.1
  have l40 : ln (0, 2, a) = 40 := if_pos ha
  have q1 : gI m (0, 1, a) 1 = nI n := by rw [H.2.1, if_pos ⟨rfl, rfl⟩]
  refine Go.runR (callT_mono MT _) [40] 200 hR ?_
  refine And.intro (fun c42 => ?_) (fun c42 => ?_)
  · try dsimp only at c42
    obtain rfl := lq_e c42 rfl rfl hk (by omega)
    refine And.intro trivial ?_
    exact h _ H
  · try dsimp only at c42
    have hk2 := lq_m c42 rfl rfl hk (by omega)
    refine And.intro ⟨(by first | decide | assumption | omega), (by first | decide | assumption | omega)⟩ ?_
    refine m_St_rmb hS2 hs ha q1 H.2.2.2 (And.intro (by repeat' (first | exact hR | apply OKR.pI | apply OKR.pL | apply OKR.cpI | apply OKR.wI)) ?_)
    have hb : LF n D s (k + 1) = upF (LF n D s k) (bF D (LF n D s k) s n) := rfl
    cases ho : bF D (LF n D s k) s n
    · rw [ho] at hb
      refine And.intro (fun c50 => ?_) (fun c50 => ?_)
      · try dsimp only at c50
        have key : ∀ (x : Int32) (w : Vv), x = W - suF (LF n D s (k + 1)) n → Go (cW (d + 3)) i_X_feathers (0, 0) K 40 [vo 0 0 0, vi (nI s), vi (nI q), vi (nI a), vo 0 1 a, vi x, vi (nI k + 1), w] [] m 0 0 := fun x w y => by
          subst y
          exact go_eq (by rw [← nI_succ]) rfl (l_X_feathers hS hs ha hq h (k + 1) m (by rw [hb]; exact H) hk2 w)
        exact key _ _ (by rw [hb]; rfl)
      · exact absurd (by decide) c50
    · rename_i j; rw [ho] at hb; have hj : j < n := bF_lt n ho
      refine And.intro (fun c50 => ?_) (fun c50 => ?_)
      · exact absurd c50 (nI_pos (by omega))
      · try dsimp only at c50
        refine m_Ce_get1 (by repeat' (first | exact hR | apply OKR.pI | apply OKR.pL | apply OKR.cpI | apply OKR.wI)) (n := n) (by omega) (by omega) q1 hj (And.intro (by repeat' (first | exact hR | apply OKR.pI | apply OKR.pL | apply OKR.cpI | apply OKR.wI)) ?_)
        refine m_Ce_set1 (by repeat' (first | exact hR | apply OKR.pI | apply OKR.pL | apply OKR.cpI | apply OKR.wI)) (n := n) (by omega) (by omega) q1 hj (And.intro (by repeat' (first | exact hR | apply OKR.pI | apply OKR.pL | apply OKR.cpI | apply OKR.wI)) ?_)
        have key : ∀ (x v : Int32) (w : Vv), x = W - suF (LF n D s (k + 1)) n → v = LF n D s k j + 1 → Go (cW (d + 3)) i_X_feathers (0, 0) K 40 [vo 0 0 0, vi (nI s), vi (nI q), vi (nI a), vo 0 1 a, vi x, vi (nI k + 1), w] [] (pI m (0, 2, a) j v) 0 0 := fun x v w y yv => by
          subst y
          exact go_eq (by rw [← nI_succ]) rfl (l_X_feathers hS hs ha hq h (k + 1) _ (by rw [hb]; exact H.set yv) hk2 w)
        exact key _ _ _ (by rw [hb, suF_up n hj]; exact i_sub1 _ _) (by rw [H.2.2.2 j hj])
termination_by q - k
decreasing_by all_goals omega
