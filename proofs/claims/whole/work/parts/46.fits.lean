/-! Written by a program (wip/whole/p46.py): which sets FIT, on both sides. -/
def ft (n : Nat) (D : SDt) (v : Int32) (s : Nat) : Bool := decide ((nI s &&& mu n D) = 0) && decide (nI (rs n D s) = v)
def fM (n : Nat) (D : SDt) (v : Int32) (k : Nat) : Nat := itr (fun s a => a + if ft n D v s = true then 1 else 0) 0 k
def fW (n : Nat) (D : SDt) (v : Int32) (i k : Nat) : Nat := itr (fun s a => a + if ft n D v s = true ∧ s.testBit i = true then 1 else 0) 0 k
def fLe (n : Nat) (D : SDt) (v : Int32) (k : Nat) : Int32 := itr (fun s a => if ft n D v s = true then (if fM n D v s = 0 then nI s else a) else a) (-9) k
def fA (n : Nat) (D : SDt) (v : Int32) (k : Nat) : Int32 := itr (fun s a => if ft n D v s = true then a &&& nI s else a) (nI (2 ^ n) - 1) k
def fO (n : Nat) (D : SDt) (v : Int32) (k : Nat) : Int32 := itr (fun s a => if ft n D v s = true then a ||| nI s else a) 0 k
theorem ftE (n : Nat) (D : SDt) (v : Int32) (s : Nat) : ft n D v s = true ↔ ((nI s &&& mu n D) = 0 ∧ nI (rs n D s) = v) := by unfold ft; simp
theorem ftP {n : Nat} {D : SDt} {v : Int32} {s : Nat} (h : ft n D v s = true) : (nI s &&& mu n D) = 0 ∧ nI (rs n D s) = v := (ftE n D v s).mp h
theorem fMs (n : Nat) (D : SDt) (v : Int32) (k : Nat) : fM n D v (k + 1) = fM n D v k + if ft n D v k = true then 1 else 0 := rfl
theorem fWs (n : Nat) (D : SDt) (v : Int32) (i k : Nat) : fW n D v i (k + 1) = fW n D v i k + if ft n D v k = true ∧ k.testBit i = true then 1 else 0 := rfl
theorem fLs (n : Nat) (D : SDt) (v : Int32) (k : Nat) : fLe n D v (k + 1) = if ft n D v k = true then (if fM n D v k = 0 then nI k else fLe n D v k) else fLe n D v k := rfl
theorem fAs (n : Nat) (D : SDt) (v : Int32) (k : Nat) : fA n D v (k + 1) = if ft n D v k = true then fA n D v k &&& nI k else fA n D v k := rfl
theorem fOs (n : Nat) (D : SDt) (v : Int32) (k : Nat) : fO n D v (k + 1) = if ft n D v k = true then fO n D v k ||| nI k else fO n D v k := rfl
theorem fML (n : Nat) (D : SDt) (v : Int32) : ∀ k, fM n D v k ≤ k
  | 0 => Nat.le_refl _
  | k + 1 => by
    have := fML n D v k
    rw [fMs]
    split <;> omega
theorem fWL (n : Nat) (D : SDt) (v : Int32) (i : Nat) : ∀ k, fW n D v i k ≤ fM n D v k
  | 0 => Nat.le_refl _
  | k + 1 => by
    have := fWL n D v i k
    rw [fMs, fWs]
    by_cases h : ft n D v k = true
    · rw [if_pos h]
      split <;> omega
    · rw [if_neg h, if_neg (fun z => h z.1)]
      omega
theorem fLe_of {n : Nat} {D : SDt} {v : Int32} {s : Nat} (h0 : fM n D v s = 0) (h : ft n D v s = true) : ∀ k, s < k → fLe n D v k = nI s ∧ fM n D v k ≠ 0
  | 0, q => absurd q (by omega)
  | k + 1, q => by
    rw [fLs, fMs]
    rcases Nat.lt_or_ge s k with z | z
    · obtain ⟨a, b⟩ := fLe_of h0 h k z
      rw [a, if_neg b]
      refine ⟨by split <;> rfl, by omega⟩
    · obtain rfl : k = s := by omega
      rw [if_pos h, if_pos h0, if_pos h]
      exact ⟨rfl, by omega⟩
theorem ft_n0 {n : Nat} {D : SDt} {v : Int32} {s : Nat} (h : ¬ (if ft n D v s = true then (1 : Int32) else 0) = 0) : ft n D v s = true := by
  cases b : ft n D v s with
  | true => rfl
  | false => rw [b] at h; exact absurd rfl h
theorem ft_e0 {n : Nat} {D : SDt} {v : Int32} {s : Nat} (h : (if ft n D v s = true then (1 : Int32) else 0) = 0) : ¬ ft n D v s = true := fun b => by
  rw [if_pos b] at h
  exact absurd h (by decide)
theorem m1_and (a : Int32) : a &&& (-1) = a := by
  have : ∀ x : BitVec 32, x &&& (-1) = x := fun x => by
    rw [show (-1 : BitVec 32) = BitVec.allOnes 32 from rfl, BitVec.and_allOnes]
  exact Int32.toBitVec_inj.mp (this a.toBitVec)
theorem or_0 (a : Int32) : a ||| 0 = a := Int32.or_zero

theorem m_Se_isFitting {d n : Nat} {D : SDt} {m : Mem} {K : Option Vv → Mem → Prop} (hE : SeR n D m) {u v : Int32} {s : Nat} (hu : u = nI s) (hs : s < 2 ^ n) (h : K (some (vi (if ft n D v s = true then 1 else 0))) m) : cW (d + 1) n_Se_isFitting [vo 0 14 0, vi u, vi v] m K := by
  subst hu
  have hR := hE.1.ok
  have h8 := hE.1.le
  have b2 := two_l n (by omega)
  have e0 : (nI s).toNatClampNeg = s := nI_clamp (by omega)
  have q1 : gI m (0, 14, 0) 5 = mu n D := hE.2.2.2.1
  have q2 : gI m (0, 15, 0) (nI s).toNatClampNeg = nI (rs n D s) := by rw [e0]; exact hE.2.2.2.2.1 s hs
  have g := ftE n D v s
  refine w_Se_isFitting (Go.runR (callT_mono MT _) [] 200 hR ?_)
  refine And.intro (fun c4 => ?_) (fun c4 => ?_)
  · try dsimp only at c4
    refine And.intro ⟨(by first | decide | assumption | omega), (by first | decide | assumption | omega)⟩ ?_
    refine And.intro (vp_nI (k := s) (N := 256) (by omega) (by decide)) ?_
    refine And.intro (fun c10 => ?_) (fun c10 => ?_)
    · try dsimp only at c10
      refine And.intro (by first | exact Or.inl rfl | exact Or.inr rfl | grind) ?_
      exact kvi (by grind) h
    · try dsimp only at c10
      refine And.intro (by first | exact Or.inl rfl | exact Or.inr rfl | grind) ?_
      exact kvi (by grind) h
  · try dsimp only at c4
    refine And.intro (by first | exact Or.inl rfl | exact Or.inr rfl | grind) ?_
    exact kvi (by grind) h

theorem l_Se_howManyFit {d n : Nat} {D : SDt} {m : Mem} {K : Option Vv → Mem → Prop} (hE : SeR n D m) {v : Int32} (h : K (some (vi (nI (fM n D v (2 ^ n))))) m) (k : Nat) (hk : k ≤ 2 ^ n) : Go (cW (d + 1)) i_Se_howManyFit (0, 0) K 4 [vo 0 14 0, vi v, vi (nI (fM n D v k)), vi (nI k)] [] m 0 0 := by
  have hR := hE.1.ok
  have h8 := hE.1.le
  have q1 : gI m (0, 14, 0) 3 = nI (2 ^ n) := hE.2.1
  have b2 := two_l n (by omega)
  refine Go.runR (callT_mono MT _) [4] 200 hR ?_
  refine And.intro (fun c7 => ?_) (fun c7 => ?_)
  · try dsimp only at c7
    have hk2 := lq_e c7 q1 rfl hk (by omega)
    rw [hk2]
    refine And.intro trivial ?_
    exact h
  · try dsimp only at c7
    have hk2 := lq_m c7 q1 rfl hk (by omega)
    refine m_Se_isFitting hE (s := k) rfl hk2 (And.intro (by repeat' (first | exact hR | apply OKR.pI | apply OKR.pL | apply OKR.cpI | apply OKR.wI)) ?_)
    refine And.intro (fun c13 => ?_) (fun c13 => ?_)
    · try dsimp only at c13
      have key : ∀ (b : Int32), b = nI (fM n D v (k + 1)) → Go (cW (d + 1)) i_Se_howManyFit (0, 0) K 4 [vo 0 14 0, vi v, vi b, vi (nI k + 1)] [] (m) 0 0 := fun b z => by
        subst z
        exact go_eq (by rw [← nI_succ]) rfl (l_Se_howManyFit hE h (k + 1) hk2)
      exact key _ (by rw [fMs, ← nI_add]; first | (rw [if_pos (ft_n0 c13)]; rfl) | (rw [if_neg (ft_e0 c13)]; rfl))
    · try dsimp only at c13
      have key : ∀ (b : Int32), b = nI (fM n D v (k + 1)) → Go (cW (d + 1)) i_Se_howManyFit (0, 0) K 4 [vo 0 14 0, vi v, vi b, vi (nI k + 1)] [] (m) 0 0 := fun b z => by
        subst z
        exact go_eq (by rw [← nI_succ]) rfl (l_Se_howManyFit hE h (k + 1) hk2)
      exact key _ (by rw [fMs, ← nI_add]; first | (rw [if_pos (ft_n0 c13)]; rfl) | (rw [if_neg (ft_e0 c13)]; rfl))
termination_by 2 ^ n - k
decreasing_by all_goals omega

theorem m_Se_howManyFit {d n : Nat} {D : SDt} {m : Mem} {K : Option Vv → Mem → Prop} (hE : SeR n D m) {v : Int32} (h : K (some (vi (nI (fM n D v (2 ^ n))))) m) : cW (d + 2) n_Se_howManyFit [vo 0 14 0, vi v] m K := by
  have hR := hE.1.ok
  have h8 := hE.1.le
  have q1 : gI m (0, 14, 0) 3 = nI (2 ^ n) := hE.2.1
  refine w_Se_howManyFit (Go.runR (callT_mono MT _) [4] 200 hR ?_)
  exact l_Se_howManyFit hE h 0 (Nat.zero_le _)

theorem l_Se_howManyFitWith {d n : Nat} {D : SDt} {m : Mem} {K : Option Vv → Mem → Prop} (hE : SeR n D m) {v : Int32} {i : Nat} (hi : i < 8) (h : K (some (vi (nI (fW n D v i (2 ^ n))))) m) (k : Nat) (hk : k ≤ 2 ^ n) : Go (cW (d + 1)) i_Se_howManyFitWith (0, 0) K 4 [vo 0 14 0, vi (nI i), vi v, vi (nI (fW n D v i k)), vi (nI k)] [] m 0 0 := by
  have hR := hE.1.ok
  have h8 := hE.1.le
  have q1 : gI m (0, 14, 0) 3 = nI (2 ^ n) := hE.2.1
  have b2 := two_l n (by omega)
  refine Go.runR (callT_mono MT _) [4] 200 hR ?_
  refine And.intro (fun c7 => ?_) (fun c7 => ?_)
  · try dsimp only at c7
    have hk2 := lq_e c7 q1 rfl hk (by omega)
    rw [hk2]
    refine And.intro trivial ?_
    exact h
  · try dsimp only at c7
    have hk2 := lq_m c7 q1 rfl hk (by omega)
    refine m_Se_isFitting hE (s := k) rfl hk2 (And.intro (by repeat' (first | exact hR | apply OKR.pI | apply OKR.pL | apply OKR.cpI | apply OKR.wI)) ?_)
    refine And.intro (fun c13 => ?_) (fun c13 => ?_)
    · try dsimp only at c13
      have key : ∀ (b : Int32), b = nI (fW n D v i (k + 1)) → Go (cW (d + 1)) i_Se_howManyFitWith (0, 0) K 4 [vo 0 14 0, vi (nI i), vi v, vi b, vi (nI k + 1)] [] (m) 0 0 := fun b z => by
        subst z
        exact go_eq (by rw [← nI_succ]) rfl (l_Se_howManyFitWith hE hi h (k + 1) hk2)
      exact key _ (by rw [fWs, ← nI_add]; first | (rw [if_pos ⟨ft_n0 c13, tb_n0 c17⟩]; rfl) | (rw [if_neg (fun z => ft_e0 c13 z.1)]; rfl) | (rw [if_neg (fun z => tb_e0 c17 z.2)]; rfl))
    · try dsimp only at c13
      refine m_X_contains (by repeat' (first | exact hR | apply OKR.pI | apply OKR.pL | apply OKR.cpI | apply OKR.wI)) (s := k) (i := i) rfl rfl (by omega) hi (And.intro (by repeat' (first | exact hR | apply OKR.pI | apply OKR.pL | apply OKR.cpI | apply OKR.wI)) ?_)
      refine And.intro (fun c17 => ?_) (fun c17 => ?_)
      · try dsimp only at c17
        have key : ∀ (b : Int32), b = nI (fW n D v i (k + 1)) → Go (cW (d + 1)) i_Se_howManyFitWith (0, 0) K 4 [vo 0 14 0, vi (nI i), vi v, vi b, vi (nI k + 1)] [] (m) 0 0 := fun b z => by
          subst z
          exact go_eq (by rw [← nI_succ]) rfl (l_Se_howManyFitWith hE hi h (k + 1) hk2)
        exact key _ (by rw [fWs, ← nI_add]; first | (rw [if_pos ⟨ft_n0 c13, tb_n0 c17⟩]; rfl) | (rw [if_neg (fun z => ft_e0 c13 z.1)]; rfl) | (rw [if_neg (fun z => tb_e0 c17 z.2)]; rfl))
      · try dsimp only at c17
        have key : ∀ (b : Int32), b = nI (fW n D v i (k + 1)) → Go (cW (d + 1)) i_Se_howManyFitWith (0, 0) K 4 [vo 0 14 0, vi (nI i), vi v, vi b, vi (nI k + 1)] [] (m) 0 0 := fun b z => by
          subst z
          exact go_eq (by rw [← nI_succ]) rfl (l_Se_howManyFitWith hE hi h (k + 1) hk2)
        exact key _ (by rw [fWs, ← nI_add]; first | (rw [if_pos ⟨ft_n0 c13, tb_n0 c17⟩]; rfl) | (rw [if_neg (fun z => ft_e0 c13 z.1)]; rfl) | (rw [if_neg (fun z => tb_e0 c17 z.2)]; rfl))
termination_by 2 ^ n - k
decreasing_by all_goals omega

theorem m_Se_howManyFitWith {d n : Nat} {D : SDt} {m : Mem} {K : Option Vv → Mem → Prop} (hE : SeR n D m) {u v : Int32} {i : Nat} (hu : u = nI i) (hi : i < 8) (h : K (some (vi (nI (fW n D v i (2 ^ n))))) m) : cW (d + 2) n_Se_howManyFitWith [vo 0 14 0, vi u, vi v] m K := by
  have hR := hE.1.ok
  have h8 := hE.1.le
  have q1 : gI m (0, 14, 0) 3 = nI (2 ^ n) := hE.2.1
  subst hu
  refine w_Se_howManyFitWith (Go.runR (callT_mono MT _) [4] 200 hR ?_)
  exact l_Se_howManyFitWith hE hi h 0 (Nat.zero_le _)

theorem l_Se_inAllFitting {d n : Nat} {D : SDt} {m : Mem} {K : Option Vv → Mem → Prop} (hE : SeR n D m) {v : Int32} (h : K (some (vi (fA n D v (2 ^ n)))) m) (k : Nat) (hk : k ≤ 2 ^ n) : Go (cW (d + 1)) i_Se_inAllFitting (0, 0) K 7 [vo 0 14 0, vi v, vi (fA n D v k), vi (nI k)] [] m 0 0 := by
  have hR := hE.1.ok
  have h8 := hE.1.le
  have q1 : gI m (0, 14, 0) 3 = nI (2 ^ n) := hE.2.1
  have b2 := two_l n (by omega)
  refine Go.runR (callT_mono MT _) [7] 200 hR ?_
  refine And.intro (fun c10 => ?_) (fun c10 => ?_)
  · try dsimp only at c10
    have hk2 := lq_e c10 q1 rfl hk (by omega)
    rw [hk2]
    refine And.intro trivial ?_
    exact h
  · try dsimp only at c10
    have hk2 := lq_m c10 q1 rfl hk (by omega)
    refine m_Se_isFitting hE (s := k) rfl hk2 (And.intro (by repeat' (first | exact hR | apply OKR.pI | apply OKR.pL | apply OKR.cpI | apply OKR.wI)) ?_)
    refine And.intro (fun c16 => ?_) (fun c16 => ?_)
    · try dsimp only at c16
      have key : ∀ (b : Int32), b = fA n D v (k + 1) → Go (cW (d + 1)) i_Se_inAllFitting (0, 0) K 7 [vo 0 14 0, vi v, vi b, vi (nI k + 1)] [] (m) 0 0 := fun b z => by
        subst z
        exact go_eq (by rw [← nI_succ]) rfl (l_Se_inAllFitting hE h (k + 1) hk2)
      exact key _ (by rw [fAs]; first | (rw [if_pos (ft_n0 c16)]; done) | (rw [if_neg (ft_e0 c16)]; exact m1_and _))
    · try dsimp only at c16
      have key : ∀ (b : Int32), b = fA n D v (k + 1) → Go (cW (d + 1)) i_Se_inAllFitting (0, 0) K 7 [vo 0 14 0, vi v, vi b, vi (nI k + 1)] [] (m) 0 0 := fun b z => by
        subst z
        exact go_eq (by rw [← nI_succ]) rfl (l_Se_inAllFitting hE h (k + 1) hk2)
      exact key _ (by rw [fAs]; first | (rw [if_pos (ft_n0 c16)]; done) | (rw [if_neg (ft_e0 c16)]; exact m1_and _))
termination_by 2 ^ n - k
decreasing_by all_goals omega

theorem m_Se_inAllFitting {d n : Nat} {D : SDt} {m : Mem} {K : Option Vv → Mem → Prop} (hE : SeR n D m) {v : Int32} (h : K (some (vi (fA n D v (2 ^ n)))) m) : cW (d + 2) n_Se_inAllFitting [vo 0 14 0, vi v] m K := by
  have hR := hE.1.ok
  have h8 := hE.1.le
  have q1 : gI m (0, 14, 0) 3 = nI (2 ^ n) := hE.2.1
  refine w_Se_inAllFitting (Go.runR (callT_mono MT _) [7] 200 hR ?_)
  refine go_eq (ls' := [vo 0 14 0, vi v, vi (fA n D v 0), vi (nI 0)]) (by show [vo 0 14 0, vi v, vi (gI m (0, 14, 0) 3 - 1), vi 0] = _; rw [q1]; rfl) rfl (l_Se_inAllFitting hE h 0 (Nat.zero_le _))

theorem l_Se_inAnyFitting {d n : Nat} {D : SDt} {m : Mem} {K : Option Vv → Mem → Prop} (hE : SeR n D m) {v : Int32} (h : K (some (vi (fO n D v (2 ^ n)))) m) (k : Nat) (hk : k ≤ 2 ^ n) : Go (cW (d + 1)) i_Se_inAnyFitting (0, 0) K 4 [vo 0 14 0, vi v, vi (fO n D v k), vi (nI k)] [] m 0 0 := by
  have hR := hE.1.ok
  have h8 := hE.1.le
  have q1 : gI m (0, 14, 0) 3 = nI (2 ^ n) := hE.2.1
  have b2 := two_l n (by omega)
  refine Go.runR (callT_mono MT _) [4] 200 hR ?_
  refine And.intro (fun c7 => ?_) (fun c7 => ?_)
  · try dsimp only at c7
    have hk2 := lq_e c7 q1 rfl hk (by omega)
    rw [hk2]
    refine And.intro trivial ?_
    exact h
  · try dsimp only at c7
    have hk2 := lq_m c7 q1 rfl hk (by omega)
    refine m_Se_isFitting hE (s := k) rfl hk2 (And.intro (by repeat' (first | exact hR | apply OKR.pI | apply OKR.pL | apply OKR.cpI | apply OKR.wI)) ?_)
    refine And.intro (fun c13 => ?_) (fun c13 => ?_)
    · try dsimp only at c13
      have key : ∀ (b : Int32), b = fO n D v (k + 1) → Go (cW (d + 1)) i_Se_inAnyFitting (0, 0) K 4 [vo 0 14 0, vi v, vi b, vi (nI k + 1)] [] (m) 0 0 := fun b z => by
        subst z
        exact go_eq (by rw [← nI_succ]) rfl (l_Se_inAnyFitting hE h (k + 1) hk2)
      exact key _ (by rw [fOs]; first | (rw [if_pos (ft_n0 c13)]; done) | (rw [if_neg (ft_e0 c13)]; exact or_0 _))
    · try dsimp only at c13
      have key : ∀ (b : Int32), b = fO n D v (k + 1) → Go (cW (d + 1)) i_Se_inAnyFitting (0, 0) K 4 [vo 0 14 0, vi v, vi b, vi (nI k + 1)] [] (m) 0 0 := fun b z => by
        subst z
        exact go_eq (by rw [← nI_succ]) rfl (l_Se_inAnyFitting hE h (k + 1) hk2)
      exact key _ (by rw [fOs]; first | (rw [if_pos (ft_n0 c13)]; done) | (rw [if_neg (ft_e0 c13)]; exact or_0 _))
termination_by 2 ^ n - k
decreasing_by all_goals omega

theorem m_Se_inAnyFitting {d n : Nat} {D : SDt} {m : Mem} {K : Option Vv → Mem → Prop} (hE : SeR n D m) {v : Int32} (h : K (some (vi (fO n D v (2 ^ n)))) m) : cW (d + 2) n_Se_inAnyFitting [vo 0 14 0, vi v] m K := by
  have hR := hE.1.ok
  have h8 := hE.1.le
  have q1 : gI m (0, 14, 0) 3 = nI (2 ^ n) := hE.2.1
  refine w_Se_inAnyFitting (Go.runR (callT_mono MT _) [4] 200 hR ?_)
  exact l_Se_inAnyFitting hE h 0 (Nat.zero_le _)

theorem l_Se_leastFitting {d n : Nat} {D : SDt} {m : Mem} {K : Option Vv → Mem → Prop} (hE : SeR n D m) {v : Int32} (hn : fM n D v (2 ^ n) ≠ 0) (h : K (some (vi (fLe n D v (2 ^ n)))) m) (k : Nat) (hk : k ≤ 2 ^ n) (hz : fM n D v k = 0) : Go (cW (d + 1)) i_Se_leastFitting (0, 0) K 2 [vo 0 14 0, vi v, vi (nI k)] [] m 0 0 := by
  have hR := hE.1.ok
  have h8 := hE.1.le
  have q1 : gI m (0, 14, 0) 3 = nI (2 ^ n) := hE.2.1
  have b2 := two_l n (by omega)
  refine Go.runR (callT_mono MT _) [2] 200 hR ?_
  refine And.intro (fun c5 => ?_) (fun c5 => ?_)
  · try dsimp only at c5
    have hk2 := lq_e c5 q1 rfl hk (by omega)
    rw [hk2] at hz
    refine And.intro trivial ?_
    exact absurd hz hn
  · try dsimp only at c5
    have hk2 := lq_m c5 q1 rfl hk (by omega)
    refine m_Se_isFitting hE (s := k) rfl hk2 (And.intro (by repeat' (first | exact hR | apply OKR.pI | apply OKR.pL | apply OKR.cpI | apply OKR.wI)) ?_)
    refine And.intro (fun c10 => ?_) (fun c10 => ?_)
    · try dsimp only at c10
      refine go_eq (ls' := [vo 0 14 0, vi v, vi (nI (k + 1))]) (by rw [nI_succ]; rfl) rfl (l_Se_leastFitting hE hn h (k + 1) hk2 (by rw [fMs, hz, if_neg (ft_e0 c10)]))
    · try dsimp only at c10
      refine And.intro trivial ?_
      obtain ⟨a, -⟩ := fLe_of hz (ft_n0 c10) (2 ^ n) hk2
      rw [← a]
      exact h
termination_by 2 ^ n - k
decreasing_by all_goals omega

theorem m_Se_leastFitting {d n : Nat} {D : SDt} {m : Mem} {K : Option Vv → Mem → Prop} (hE : SeR n D m) {v : Int32} (hn : fM n D v (2 ^ n) ≠ 0) (h : K (some (vi (fLe n D v (2 ^ n)))) m) : cW (d + 2) n_Se_leastFitting [vo 0 14 0, vi v] m K := by
  have hR := hE.1.ok
  have h8 := hE.1.le
  have q1 : gI m (0, 14, 0) 3 = nI (2 ^ n) := hE.2.1
  refine w_Se_leastFitting (Go.runR (callT_mono MT _) [2] 200 hR ?_)
  exact l_Se_leastFitting hE hn h 0 (Nat.zero_le _) rfl

theorem two_m : ∀ i, i < 9 → (1 : Int32) <<< (nI i &&& 31) - 1 = nI (2 ^ i - 1) := by decide +kernel
theorem two_n : ∀ i, i < 9 → nI (2 ^ i) - 1 = nI (2 ^ i - 1) := by decide +kernel
theorem lq0 {x y : Int32} {N k : Nat} (c : x < y) (hx : x = nI (N - 1)) (hy : y = nI k) (hN : 0 < N) (hk : k ≤ N) (hn : N ≤ 100000) : k = N := by
  subst hx; subst hy
  have := (nI_ltI (by omega) (by omega)).mp c
  omega
theorem lq1 {x y : Int32} {N k : Nat} (c : ¬ x < y) (hx : x = nI (N - 1)) (hy : y = nI k) (hN : 0 < N) (hk : k ≤ N) (hn : N ≤ 100000) : k < N := by
  subst hx; subst hy
  have := mt (nI_ltI (by omega) (by omega)).mpr c
  omega

theorem m_M_all {d n : Nat} {D : SDt} {m : Mem} {K : Option Vv → Mem → Prop} (hS : SC n D m)  (h : K (some (vi (nI (2 ^ n - 1)))) m) : cW (d + 1) n_M_all [vo 1 0 0] m K := by
  have hR := hS.ok
  have h8 := hS.le
  have q1 := hS.nA
  have q2 := hS.nB
  refine w_M_all (Go.runR (callT_mono MT _) [] 200 hR ?_)
  refine And.intro trivial ?_
  exact kvi (by show (1 : Int32) <<< (gI m (1, 0, 0) 10 &&& 31) - 1 = _; rw [q2]; exact two_m n (by omega)) h

theorem m_St_allHouses {d n : Nat} {D : SDt} {m : Mem} {K : Option Vv → Mem → Prop} (hS : SC n D m)  (h : K (some (vi (nI (2 ^ n - 1)))) m) : cW (d + 1) n_St_allHouses [vo 0 5 0] m K := by
  have hR := hS.ok
  have h8 := hS.le
  have q1 := hS.nA
  have q2 := hS.nB
  refine w_St_allHouses (Go.runR (callT_mono MT _) [] 200 hR ?_)
  refine And.intro trivial ?_
  exact kvi (by show (1 : Int32) <<< (gI m (0, 5, 0) 3 &&& 31) - 1 = _; rw [q1]; exact two_m n (by omega)) h

def FtR (n : Nat) (D : SDt) (v : Int32) (m0 m : Mem) (k : Nat) : Prop := Fr m0 m ∧ gI m (1, 0, 0) 27 = nI (fM n D v k) ∧ gI m (1, 0, 0) 28 = fLe n D v k ∧ gI m (1, 0, 0) 29 = fA n D v k ∧ gI m (1, 0, 0) 30 = fO n D v k ∧ ∀ i, i < n → gI m (1, 14, 0) i = nI (fW n D v i k)
def FtJ (n : Nat) (D : SDt) (v : Int32) (m0 m : Mem) (k j : Nat) : Prop := Fr m0 m ∧ gI m (1, 0, 0) 27 = nI (fM n D v (k + 1)) ∧ gI m (1, 0, 0) 28 = fLe n D v (k + 1) ∧ gI m (1, 0, 0) 29 = fA n D v (k + 1) ∧ gI m (1, 0, 0) 30 = fO n D v (k + 1) ∧ ∀ i, i < n → gI m (1, 14, 0) i = nI (if i < j then fW n D v i (k + 1) else fW n D v i k)

theorem l_M_setFits72 {d n : Nat} {D : SDt} {m0 : Mem} {K : Option Vv → Mem → Prop} {v : Int32} {k : Nat} (hS0 : SC n D m0) (hk : k < 2 ^ n) (hf : ft n D v k = true) (h : ∀ m, FtR n D v m0 m (k + 1) → Go (cW (d + 1)) i_M_setFits (0, 0) K 30 [vo 1 0 0, vi v, vi (mu n D), vi (nI (k + 1)), vi (nI n)] [] m 0 0) (j : Nat) (m : Mem) (H : FtJ n D v m0 m k j) (hj : j ≤ n) : Go (cW (d + 1)) i_M_setFits (0, 0) K 72 [vo 1 0 0, vi v, vi (mu n D), vi (nI k), vi (nI j)] [] m 0 0 := by
  have hS := H.1.sc hS0
  have hR := hS.ok
  have h8 := hS.le
  have b2 := two_l n (by omega)
  have q2 := hS.nB
  have e0 : (nI j).toNatClampNeg = j := nI_clamp (by omega)
  refine Go.runR (callT_mono MT _) [72, 30] 200 hR ?_
  refine And.intro (fun c75 => ?_) (fun c75 => ?_)
  · try dsimp only at c75
    obtain rfl := lq_e c75 q2 rfl hj (by omega)
    refine go_eq (ls' := [vo 1 0 0, vi v, vi (mu j D), vi (nI (k + 1)), vi (nI j)]) (by rw [nI_succ]; rfl) rfl (h m ⟨H.1, H.2.1, H.2.2.1, H.2.2.2.1, H.2.2.2.2.1, fun i hi => ?_⟩)
    rw [H.2.2.2.2.2 i hi, if_pos hi]
  · try dsimp only at c75
    have hj2 := lq_m c75 q2 rfl hj (by omega)
    obtain ⟨H1, H2, H3, H4, H5, H6⟩ := H
    refine And.intro ⟨rfl, rfl, rfl⟩ ?_
    refine And.intro (vp_nI (k := j) (N := 8) (by omega) (by decide)) ?_
    refine m_M_has (by repeat' (first | exact hR | apply OKR.pI | apply OKR.pL | apply OKR.cpI | apply OKR.wI)) (s := k) (i := j) rfl rfl (by omega) (by omega) (And.intro (by repeat' (first | exact hR | apply OKR.pI | apply OKR.pL | apply OKR.cpI | apply OKR.wI)) ?_)
    refine And.intro (fun c84 => ?_) (fun c84 => ?_)
    · try dsimp only at c84
      refine And.intro (vp_nI (k := j) (N := 8) (by omega) (by decide)) ?_
      refine go_eq (ls' := [vo 1 0 0, vi v, vi (mu n D), vi (nI k), vi (nI (j + 1))]) (by rw [nI_succ]; rfl) rfl (l_M_setFits72 hS0 hk hf h (j + 1) _ ⟨H1.p1 (by omega), H2, H3, H4, H5, fun i hi => ?_⟩ hj2)
      rw [rd11]
      by_cases z : i = j
      · subst z
        rw [if_pos ⟨rfl, rfl, e0.symm⟩, if_pos (by omega), fWs, ← nI_add]
        have z6 : gI m (1, 14, 0) (nI i).toNatClampNeg = nI (fW n D v i k) := by rw [e0, H6 i hi, if_neg (by omega)]
        first
        | (rw [if_pos ⟨hf, tb_n0 c84⟩]; exact congrArg (· + 1) z6)
        | (rw [if_neg (fun z => tb_e0 c84 z.2)]; exact congrArg (· + 0) z6)
      · rw [if_neg (by rw [e0]; omega), H6 i hi]
        by_cases z2 : i < j
        · rw [if_pos z2, if_pos (by omega)]
        · rw [if_neg z2, if_neg (by omega)]
    · try dsimp only at c84
      refine And.intro (vp_nI (k := j) (N := 8) (by omega) (by decide)) ?_
      refine go_eq (ls' := [vo 1 0 0, vi v, vi (mu n D), vi (nI k), vi (nI (j + 1))]) (by rw [nI_succ]; rfl) rfl (l_M_setFits72 hS0 hk hf h (j + 1) _ ⟨H1.p1 (by omega), H2, H3, H4, H5, fun i hi => ?_⟩ hj2)
      rw [rd11]
      by_cases z : i = j
      · subst z
        rw [if_pos ⟨rfl, rfl, e0.symm⟩, if_pos (by omega), fWs, ← nI_add]
        have z6 : gI m (1, 14, 0) (nI i).toNatClampNeg = nI (fW n D v i k) := by rw [e0, H6 i hi, if_neg (by omega)]
        first
        | (rw [if_pos ⟨hf, tb_n0 c84⟩]; exact congrArg (· + 1) z6)
        | (rw [if_neg (fun z => tb_e0 c84 z.2)]; exact congrArg (· + 0) z6)
      · rw [if_neg (by rw [e0]; omega), H6 i hi]
        by_cases z2 : i < j
        · rw [if_pos z2, if_pos (by omega)]
        · rw [if_neg z2, if_neg (by omega)]
termination_by n - j
decreasing_by all_goals omega

theorem l_M_setFits30 {d n : Nat} {D : SDt} {m0 : Mem} {K : Option Vv → Mem → Prop} {v : Int32} (hS0 : SC n D m0) (h : ∀ m, FtR n D v m0 m (2 ^ n) → K none m) (k : Nat) (m : Mem) (x : Vv) (H : FtR n D v m0 m k) (hk : k ≤ 2 ^ n) : Go (cW (d + 3)) i_M_setFits (0, 0) K 30 [vo 1 0 0, vi v, vi (mu n D), vi (nI k), x] [] m 0 0 := by
  have hS := H.1.sc hS0
  have hR := hS.ok
  have h8 := hS.le
  have b2 := two_l n (by omega)
  have b3 := two_p n
  have q2 := hS.nB
  have mL := fML n D v k
  refine Go.runR (callT_mono MT _) [30, 72] 200 hR ?_
  refine m_M_all (by exact hS)  (And.intro (by repeat' (first | exact hR | apply OKR.pI | apply OKR.pL | apply OKR.cpI | apply OKR.wI)) ?_)
  refine And.intro (fun c33 => ?_) (fun c33 => ?_)
  · try dsimp only at c33
    have hk2 := lq0 c33 rfl rfl b3 hk (by omega)
    refine And.intro trivial ?_
    rw [hk2] at H
    exact h m H
  · try dsimp only at c33
    have hk2 := lq1 c33 rfl rfl b3 hk (by omega)
    refine And.intro (fun c37 => ?_) (fun c37 => ?_)
    · try dsimp only at c37
      refine m_M_ripples (by exact hS) rfl (by omega) (And.intro (by repeat' (first | exact hR | apply OKR.pI | apply OKR.pL | apply OKR.cpI | apply OKR.wI)) ?_)
      refine And.intro (fun c42 => ?_) (fun c42 => ?_)
      · try dsimp only at c42
        have hf : ft n D v k = true := by unfold ft; simp [c37, c42]
        refine And.intro (fun c46 => ?_) (fun c46 => ?_)
        · try dsimp only at c46
          refine go_eq (ls' := [vo 1 0 0, vi v, vi (mu n D), vi (nI k), vi (nI 0)]) rfl rfl (l_M_setFits72 (d := d + 2) hS0 hk2 hf (fun m' H' => l_M_setFits30 hS0 h (k + 1) m' _ H' hk2) 0 _ ⟨(((H.1.p1 (by omega)).p1 (by omega)).p1 (by omega)).p1 (by omega), ?_, ?_, ?_, ?_, fun i hi => ?_⟩ (by omega))
          · show gI m (1, 0, 0) 27 + 1 = _
            rw [H.2.1, fMs, if_pos hf, nI_1]
          · rw [fLs, if_pos hf]
            have z0 : nI (fM n D v k) = 0 ↔ fM n D v k = 0 := by rw [show (0 : Int32) = nI 0 from rfl]; exact nI_eq (by omega) (by omega)
            have c46 := c46
            rw [show gI m (1, 0, 0) 27 = nI (fM n D v k) from H.2.1, z0] at c46
            first | (rw [if_pos c46]; rfl) | (rw [if_neg c46]; exact H.2.2.1)
          · show gI m (1, 0, 0) 29 &&& nI k = _
            rw [H.2.2.2.1, fAs, if_pos hf]
          · show gI m (1, 0, 0) 30 ||| nI k = _
            rw [H.2.2.2.2.1, fOs, if_pos hf]
          · rw [if_neg (by omega)]
            exact H.2.2.2.2.2 i hi
        · try dsimp only at c46
          refine go_eq (ls' := [vo 1 0 0, vi v, vi (mu n D), vi (nI k), vi (nI 0)]) rfl rfl (l_M_setFits72 (d := d + 2) hS0 hk2 hf (fun m' H' => l_M_setFits30 hS0 h (k + 1) m' _ H' hk2) 0 _ ⟨(((H.1.p1 (by omega)).p1 (by omega)).p1 (by omega)).p1 (by omega), ?_, ?_, ?_, ?_, fun i hi => ?_⟩ (by omega))
          · show gI m (1, 0, 0) 27 + 1 = _
            rw [H.2.1, fMs, if_pos hf, nI_1]
          · rw [fLs, if_pos hf]
            have z0 : nI (fM n D v k) = 0 ↔ fM n D v k = 0 := by rw [show (0 : Int32) = nI 0 from rfl]; exact nI_eq (by omega) (by omega)
            have c46 := c46
            rw [show gI m (1, 0, 0) 27 = nI (fM n D v k) from H.2.1, z0] at c46
            first | (rw [if_pos c46]; rfl) | (rw [if_neg c46]; exact H.2.2.1)
          · show gI m (1, 0, 0) 29 &&& nI k = _
            rw [H.2.2.2.1, fAs, if_pos hf]
          · show gI m (1, 0, 0) 30 ||| nI k = _
            rw [H.2.2.2.2.1, fOs, if_pos hf]
          · rw [if_neg (by omega)]
            exact H.2.2.2.2.2 i hi
      · try dsimp only at c42
        have hf : ft n D v k = false := by unfold ft; simp [c42]
        refine go_eq (ls' := [vo 1 0 0, vi v, vi (mu n D), vi (nI (k + 1)), x]) (by rw [nI_succ]; rfl) rfl (l_M_setFits30 hS0 h (k + 1) m x ⟨H.1, ?_, ?_, ?_, ?_, fun i hi => ?_⟩ hk2)
        · rw [fMs, hf]; exact H.2.1
        · rw [fLs, hf]; exact H.2.2.1
        · rw [fAs, hf]; exact H.2.2.2.1
        · rw [fOs, hf]; exact H.2.2.2.2.1
        · rw [fWs, hf]; exact H.2.2.2.2.2 i hi
    · try dsimp only at c37
      have hf : ft n D v k = false := by unfold ft; simp [c37]
      refine go_eq (ls' := [vo 1 0 0, vi v, vi (mu n D), vi (nI (k + 1)), x]) (by rw [nI_succ]; rfl) rfl (l_M_setFits30 hS0 h (k + 1) m x ⟨H.1, ?_, ?_, ?_, ?_, fun i hi => ?_⟩ hk2)
      · rw [fMs, hf]; exact H.2.1
      · rw [fLs, hf]; exact H.2.2.1
      · rw [fAs, hf]; exact H.2.2.2.1
      · rw [fOs, hf]; exact H.2.2.2.2.1
      · rw [fWs, hf]; exact H.2.2.2.2.2 i hi
termination_by 2 ^ n - k
decreasing_by all_goals omega

theorem l_M_setFits18 {d n : Nat} {D : SDt} {m0 : Mem} {K : Option Vv → Mem → Prop} {v : Int32} (hS0 : SC n D m0) (h : ∀ m, FtR n D v m0 m (2 ^ n) → K none m) (k : Nat) (m : Mem) (H : Fr m0 m ∧ gI m (1, 0, 0) 27 = 0 ∧ gI m (1, 0, 0) 28 = -9 ∧ gI m (1, 0, 0) 29 = nI (2 ^ n - 1) ∧ gI m (1, 0, 0) 30 = 0 ∧ ∀ i, i < k → gI m (1, 14, 0) i = 0) (hk : k ≤ 8) : Go (cW (d + 3)) i_M_setFits (0, 0) K 18 [vo 1 0 0, vi v, vi (mu n D), vi (nI k), vu] [] m 0 0 := by
  have hS := H.1.sc hS0
  have hR := hS.ok
  have h8 := hS.le
  have e0 : (nI k).toNatClampNeg = k := nI_clamp (by omega)
  refine Go.runR (callT_mono MT _) [18, 30] 200 hR ?_
  refine And.intro (fun c20 => ?_) (fun c20 => ?_)
  · try dsimp only at c20
    have hk2 := lq_e (n := 8) c20 rfl rfl hk (by omega)
    subst hk2
    refine go_eq (ls' := [vo 1 0 0, vi v, vi (mu n D), vi (nI 0), vu]) rfl rfl (l_M_setFits30 hS0 h 0 m vu ⟨H.1, H.2.1, H.2.2.1, ?_, H.2.2.2.2.1, fun i hi => H.2.2.2.2.2 i (by omega)⟩ (Nat.zero_le _))
    rw [H.2.2.2.1]
    exact (two_n n (by omega)).symm
  · try dsimp only at c20
    have hk2 := lq_m (n := 8) c20 rfl rfl hk (by omega)
    refine And.intro ⟨rfl, rfl, rfl⟩ ?_
    refine And.intro (vp_nI (k := k) (N := 8) (by omega) (by decide)) ?_
    refine go_eq (ls' := [vo 1 0 0, vi v, vi (mu n D), vi (nI (k + 1)), vu]) (by rw [nI_succ]; rfl) rfl (l_M_setFits18 hS0 h (k + 1) _ ⟨H.1.p1 (by omega), H.2.1, H.2.2.1, H.2.2.2.1, H.2.2.2.2.1, fun i hi => ?_⟩ hk2)
    rw [rd11]
    split
    · rfl
    · rename_i z
      exact H.2.2.2.2.2 i (by rw [e0] at z; omega)
termination_by 8 - k
decreasing_by all_goals omega

theorem m_M_setFits {d n : Nat} {D : SDt} {m : Mem} {K : Option Vv → Mem → Prop} {v : Int32} (hS : SC n D m) (h : ∀ m', FtR n D v m m' (2 ^ n) → K none m') : cW (d + 4) n_M_setFits [vo 1 0 0, vi v] m K := by
  have hR := hS.ok
  have h8 := hS.le
  refine w_M_setFits (Go.runR (callT_mono MT _) [18] 200 hR ?_)
  refine m_M_mutes (by exact hS)  (And.intro (by repeat' (first | exact hR | apply OKR.pI | apply OKR.pL | apply OKR.cpI | apply OKR.wI)) ?_)
  refine m_M_all (by exact ((hS.p1 (by omega)).p1 (by omega)))  (And.intro (by repeat' (first | exact hR | apply OKR.pI | apply OKR.pL | apply OKR.cpI | apply OKR.wI)) ?_)
  exact go_eq (ls' := [vo 1 0 0, vi v, vi (mu n D), vi (nI 0), vu]) rfl rfl (l_M_setFits18 hS h 0 _ ⟨((((Fr.refl hR).p1 (by omega)).p1 (by omega)).p1 (by omega)).p1 (by omega), rfl, rfl, rfl, rfl, fun i hi => absurd hi (by omega)⟩ (by omega))
