/-! Written by a program (wip/whole/p52.py): payments. -/
def mxP (s : Nat) (f : Nat → Nat) (k : Nat) : Nat := itr (fun i g => if s.testBit i = true then (if g < f i then f i else g) else g) 0 k
theorem mxPs (s : Nat) (f : Nat → Nat) (k : Nat) : mxP s f (k + 1) = if s.testBit k = true then (if mxP s f k < f k then f k else mxP s f k) else mxP s f k := rfl
theorem mxP_cg {s : Nat} {f g : Nat → Nat} : ∀ {k : Nat}, (∀ i, i < k → s.testBit i = true → f i = g i) → mxP s f k = mxP s g k
  | 0, _ => rfl
  | k + 1, h => by
    have ih := mxP_cg (k := k) fun i hi => h i (by omega)
    rw [mxPs, mxPs, ih]
    by_cases z : s.testBit k = true
    · rw [h k (by omega) z]
    · rw [if_neg z, if_neg z]
theorem mxP_le {s B : Nat} {f : Nat → Nat} : ∀ {k : Nat}, (∀ i, i < k → s.testBit i = true → f i ≤ B) → mxP s f k ≤ B
  | 0, _ => Nat.zero_le _
  | k + 1, h => by
    have ih := mxP_le (k := k) fun i hi => h i (by omega)
    rw [mxPs]
    split
    · rename_i z
      have := h k (by omega) z
      split <;> omega
    · exact ih
theorem mxP_ge {s : Nat} {f : Nat → Nat} {i : Nat} (hb : s.testBit i = true) : ∀ {k : Nat}, i < k → f i ≤ mxP s f k
  | 0, h => absurd h (by omega)
  | k + 1, h => by
    rw [mxPs]
    rcases Nat.lt_or_ge i k with z | z
    · have ih := mxP_ge (f := f) hb z
      split
      · split <;> omega
      · exact ih
    · obtain rfl : i = k := by omega
      rw [if_pos hb]
      split <;> omega
theorem mxP_at {s : Nat} {f : Nat → Nat} : ∀ {k : Nat}, mxP s f k = 0 ∨ ∃ i, i < k ∧ s.testBit i = true ∧ f i = mxP s f k
  | 0 => Or.inl rfl
  | k + 1 => by
    have ih := mxP_at (s := s) (f := f) (k := k)
    rw [mxPs]
    by_cases z : s.testBit k = true
    · rw [if_pos z]
      by_cases y : mxP s f k < f k
      · rw [if_pos y]; exact Or.inr ⟨k, by omega, z, rfl⟩
      · rw [if_neg y]
        rcases ih with h | ⟨i, h1, h2, h3⟩
        · exact Or.inl h
        · exact Or.inr ⟨i, by omega, h2, h3⟩
    · rw [if_neg z]
      rcases ih with h | ⟨i, h1, h2, h3⟩
      · exact Or.inl h
      · exact Or.inr ⟨i, by omega, h2, h3⟩
theorem tb_le {s i : Nat} (h : s.testBit i = true) : 2 ^ i ≤ s := by
  rcases Nat.lt_or_ge s (2 ^ i) with z | z
  · rw [Nat.testBit_lt_two_pow z] at h; exact absurd h (by decide)
  · exact z
def gtf (n : Nat) (D : SDt) : Nat → Nat → Nat
  | 0, _ => 0
  | f + 1, s => if s = 0 then 0 else mxP s (fun i => gtf n D f (s - 2 ^ i)) n + (if su (bl n D) n s = 0 then 1 else 0)
def gT (n : Nat) (D : SDt) (s : Nat) : Nat := gtf n D s s
theorem gtf_z (n : Nat) (D : SDt) : ∀ f, gtf n D f 0 = 0
  | 0 => rfl
  | f + 1 => by unfold gtf; rw [if_pos rfl]
theorem gtf_s (n : Nat) (D : SDt) (f s : Nat) : gtf n D (f + 1) s = if s = 0 then 0 else mxP s (fun i => gtf n D f (s - 2 ^ i)) n + (if su (bl n D) n s = 0 then 1 else 0) := rfl
theorem gtf_ir (n : Nat) (D : SDt) (s : Nat) : ∀ f g, s ≤ f → s ≤ g → gtf n D f s = gtf n D g s := by
  induction s using Nat.strongRecOn with
  | ind s ih =>
    intro f g hf hg
    rcases Nat.eq_zero_or_pos s with z | z
    · rw [z, gtf_z, gtf_z]
    · obtain ⟨a, rfl⟩ : ∃ a, f = a + 1 := ⟨f - 1, by omega⟩
      obtain ⟨b, rfl⟩ : ∃ b, g = b + 1 := ⟨g - 1, by omega⟩
      rw [gtf_s, gtf_s, if_neg (by omega : ¬ s = 0), if_neg (by omega : ¬ s = 0)]
      rw [mxP_cg fun i hi hb => by
        have := two_p i
        have := tb_le hb
        exact ih (s - 2 ^ i) (by omega) a b (by omega) (by omega)]
theorem gT_0 (n : Nat) (D : SDt) : gT n D 0 = 0 := rfl
theorem gT_s (n : Nat) (D : SDt) {s : Nat} (h : 0 < s) : gT n D s = mxP s (fun i => gT n D (s - 2 ^ i)) n + (if su (bl n D) n s = 0 then 1 else 0) := by
  obtain ⟨a, rfl⟩ : ∃ a, s = a + 1 := ⟨s - 1, by omega⟩
  have e : gT n D (a + 1) = mxP (a + 1) (fun i => gtf n D a (a + 1 - 2 ^ i)) n + (if su (bl n D) n (a + 1) = 0 then 1 else 0) := by
    show gtf n D (a + 1) (a + 1) = _
    rw [gtf_s, if_neg (by omega : ¬ a + 1 = 0)]
  rw [e, mxP_cg fun i hi hb => by
    have := two_p i
    exact gtf_ir n D (a + 1 - 2 ^ i) a (a + 1 - 2 ^ i) (by omega) (Nat.le_refl _)]
  rfl
theorem gT_le (n : Nat) (D : SDt) (s : Nat) : gT n D s ≤ s := by
  induction s using Nat.strongRecOn with
  | ind s ih =>
    rcases Nat.eq_zero_or_pos s with z | z
    · rw [z]; exact Nat.le_refl _
    · rw [gT_s n D z]
      have := mxP_le (s := s) (B := s - 1) (f := fun i => gT n D (s - 2 ^ i)) (k := n) fun i hi hb => by
        have a := two_p i
        have b := ih (s - 2 ^ i) (by omega)
        show gT n D (s - 2 ^ i) ≤ s - 1
        omega
      split <;> omega
/-! a HOUSE that owes and is owed nothing is a group of its own -/
theorem tins : ∀ s, s < 256 → ∀ z, z < 8 → s.testBit z = false → ∀ i, i < 8 → (s + 2 ^ z).testBit i = (s.testBit i || decide (i = z)) := by decide +kernel
theorem tdel : ∀ s, s < 256 → ∀ z, z < 8 → s.testBit z = true → ∀ i, i < 8 → (s - 2 ^ z).testBit i = (s.testBit i && !decide (i = z)) := by decide +kernel
theorem su_ins {f : Nat → Int32} {s z n : Nat} (hs : s < 256) (hz : z < 8) (hb : s.testBit z = false) : ∀ k, k ≤ 8 → su f k (s + 2 ^ z) = su f k s + if z < k then f z else 0
  | 0, _ => rfl
  | k + 1, h => by
    have ih := su_ins (f := f) (n := n) hs hz hb k (by omega)
    have t := tins s hs z hz hb k (by omega)
    by_cases y : k = z
    · subst y
      rw [su_s1 (by rw [t]; simp), su_s0 (by rw [hb]; decide), ih, if_neg (by omega), if_pos (by omega), i_add0]
    · have t2 : (s + 2 ^ z).testBit k = s.testBit k := by rw [t]; simp [y]
      have c : (if z < k + 1 then f z else 0) = (if z < k then f z else 0) := by
        by_cases x : z < k
        · rw [if_pos x, if_pos (by omega)]
        · rw [if_neg x, if_neg (by omega)]
      rw [c]
      by_cases x : s.testBit k = true
      · rw [su_s1 x, su_s1 (by rw [t2]; exact x), ih]
        have : ∀ a b c : Int32, a + b + c = a + c + b := fun a b c => by grind
        exact this _ _ _
      · rw [su_s0 x, su_s0 (by rw [t2]; exact x), ih]
theorem ex_bit {s n : Nat} (h0 : 0 < s) (h : s < 2 ^ n) : ∃ i, i < n ∧ s.testBit i = true := by
  obtain ⟨i, hi⟩ := Nat.exists_testBit_of_ne_zero (x := s) (by omega)
  refine ⟨i, ?_, hi⟩
  rcases Nat.lt_or_ge i n with z | z
  · exact z
  · rw [Nat.testBit_lt_two_pow (Nat.lt_of_lt_of_le h (Nat.pow_le_pow_right (by decide) z))] at hi
    exact absurd hi (by decide)
theorem gT_ins {n : Nat} {D : SDt} (h8 : n ≤ 8) {z : Nat} (hz : z < n) (h0 : bl n D z = 0) (s : Nat) : s < 2 ^ n → s.testBit z = false → gT n D (s + 2 ^ z) = gT n D s + 1 := by
  have b2 := two_l n (by omega)
  induction s using Nat.strongRecOn with
  | ind s ih =>
    intro hs hb
    have pz := two_p z
    have t := tins s (by omega) z (by omega) hb
    have hsu : su (bl n D) n (s + 2 ^ z) = su (bl n D) n s := by
      rw [su_ins (n := n) (by omega) (by omega) hb n h8, if_pos hz, h0, i_add0]
    rw [gT_s n D (show 0 < s + 2 ^ z by omega), hsu]
    have fz : gT n D (s + 2 ^ z - 2 ^ z) = gT n D s := by rw [Nat.add_sub_cancel]
    have fi : ∀ i, i < n → s.testBit i = true → gT n D (s + 2 ^ z - 2 ^ i) = gT n D (s - 2 ^ i) + 1 := fun i hi hx => by
      have a := tb_le hx
      have p := two_p i
      rw [show s + 2 ^ z - 2 ^ i = s - 2 ^ i + 2 ^ z by omega]
      refine ih (s - 2 ^ i) (by omega) (by omega) ?_
      rw [tdel s (by omega) i (by omega) hx z (by omega), hb]
      rfl
    have tz : (s + 2 ^ z).testBit z = true := by rw [t z (by omega)]; simp
    have ti : ∀ i, i < n → s.testBit i = true → (s + 2 ^ z).testBit i = true := fun i hi hx => by rw [t i (by omega), hx]; rfl
    have ge0 := mxP_ge (f := fun i => gT n D (s + 2 ^ z - 2 ^ i)) tz hz
    rcases Nat.eq_zero_or_pos s with y | y
    · have e0 : su (bl n D) n s = 0 := by
        rw [y]
        have : ∀ k, su (bl n D) k 0 = 0 := fun k => by
          induction k with
          | zero => rfl
          | succ k ik => rw [su_s0 (by rw [Nat.zero_testBit]; decide), ik]
        exact this n
      have le0 := mxP_le (s := s + 2 ^ z) (B := 0) (f := fun i => gT n D (s + 2 ^ z - 2 ^ i)) (k := n) fun i hi hx => by
        rw [t i (by omega), y, Nat.zero_testBit, Bool.false_or, decide_eq_true_eq] at hx
        subst hx
        show gT n D (s + 2 ^ i - 2 ^ i) ≤ 0
        rw [fz, y]
        exact Nat.le_refl _
      rw [e0, if_pos rfl, y, gT_0]
      rw [y] at le0
      omega
    · have hgs := gT_s n D y
      obtain ⟨j, hj, hjb⟩ := ex_bit y hs
      have up := mxP_le (s := s + 2 ^ z) (B := mxP s (fun i => gT n D (s - 2 ^ i)) n + 1) (f := fun i => gT n D (s + 2 ^ z - 2 ^ i)) (k := n) fun i hi hx => by
        by_cases w : i = z
        · subst w
          show gT n D (s + 2 ^ i - 2 ^ i) ≤ _
          rw [fz, hgs]
          split <;> omega
        · have hx2 : s.testBit i = true := by rw [t i (by omega)] at hx; simpa [w] using hx
          have := mxP_ge (f := fun i => gT n D (s - 2 ^ i)) hx2 hi
          show gT n D (s + 2 ^ z - 2 ^ i) ≤ _
          rw [fi i hi hx2]
          exact Nat.succ_le_succ this
      have dn : mxP s (fun i => gT n D (s - 2 ^ i)) n + 1 ≤ mxP (s + 2 ^ z) (fun i => gT n D (s + 2 ^ z - 2 ^ i)) n := by
        rcases mxP_at (s := s) (f := fun i => gT n D (s - 2 ^ i)) (k := n) with w | ⟨i, hi, hx, w⟩
        · have a : gT n D (s + 2 ^ z - 2 ^ j) ≤ mxP (s + 2 ^ z) (fun i => gT n D (s + 2 ^ z - 2 ^ i)) n := mxP_ge (f := fun i => gT n D (s + 2 ^ z - 2 ^ i)) (ti j hj hjb) hj
          have b := fi j hj hjb
          omega
        · have a : gT n D (s + 2 ^ z - 2 ^ i) ≤ mxP (s + 2 ^ z) (fun i => gT n D (s + 2 ^ z - 2 ^ i)) n := mxP_ge (f := fun i => gT n D (s + 2 ^ z - 2 ^ i)) (ti i hi hx) hi
          have b := fi i hi hx
          have w : gT n D (s - 2 ^ i) = mxP s (fun i => gT n D (s - 2 ^ i)) n := w
          omega
      omega
def soN (n : Nat) (D : SDt) (k : Nat) : Nat := itr (fun i a => a + if bl n D i = 0 then 0 else 2 ^ i) 0 k
def zzN (n : Nat) (D : SDt) (k : Nat) : Nat := itr (fun i a => a + if bl n D i = 0 then 2 ^ i else 0) 0 k
def zcN (n : Nat) (D : SDt) (k : Nat) : Nat := itr (fun i a => a + if bl n D i = 0 then 1 else 0) 0 k
theorem so_s (n : Nat) (D : SDt) (k : Nat) : soN n D (k + 1) = soN n D k + if bl n D k = 0 then 0 else 2 ^ k := rfl
theorem zz_s (n : Nat) (D : SDt) (k : Nat) : zzN n D (k + 1) = zzN n D k + if bl n D k = 0 then 2 ^ k else 0 := rfl
theorem zc_s (n : Nat) (D : SDt) (k : Nat) : zcN n D (k + 1) = zcN n D k + if bl n D k = 0 then 1 else 0 := rfl
theorem so_zz (n : Nat) (D : SDt) : ∀ k, soN n D k + zzN n D k + 1 = 2 ^ k
  | 0 => rfl
  | k + 1 => by
    have := so_zz n D k
    rw [so_s, zz_s, Nat.pow_succ]
    split <;> omega
theorem zz_mo (n : Nat) (D : SDt) : ∀ {k j : Nat}, k ≤ j → zzN n D k ≤ zzN n D j
  | k, 0, h => by rw [show k = 0 by omega]; exact Nat.le_refl _
  | k, j + 1, h => by
    rcases Nat.lt_or_ge j k with z | z
    · rw [show k = j + 1 by omega]; exact Nat.le_refl _
    · have := zz_mo n D (k := k) (j := j) z
      rw [zz_s]
      omega
theorem so_b (n : Nat) (D : SDt) : ∀ k, k ≤ 8 → ∀ j, j < 8 → (soN n D k).testBit j = (decide (j < k) && !decide (bl n D j = 0))
  | 0, _, j, _ => by show (0 : Nat).testBit j = _; rw [Nat.zero_testBit]; simp
  | k + 1, h, j, hj => by
    have ih := so_b n D k (by omega)
    have l := so_zz n D k
    have b2 := two_l k (by omega)
    rw [so_s]
    by_cases z : bl n D k = 0
    · rw [if_pos z, Nat.add_zero, ih j hj]
      by_cases y : j = k
      · subst y; simp [z]
      · have : (j < k + 1) = (j < k) := by simp; omega
        simp [this]
    · rw [if_neg z, tins _ (by omega) k (by omega) (by rw [ih k (by omega)]; simp) j hj, ih j hj]
      by_cases y : j = k
      · subst y; simp [z]
      · have : (j < k + 1) = (j < k) := by simp; omega
        simp [this, y]
theorem az_b {n : Nat} (D : SDt) (h8 : n ≤ 8) : ∀ k, k ≤ n → ∀ j, j < n → (soN n D n + zzN n D k).testBit j = (decide (j < k) || !decide (bl n D j = 0))
  | 0, _, j, hj => by
    show (soN n D n + 0).testBit j = _
    rw [Nat.add_zero, so_b n D n h8 j (by omega)]
    simp [hj]
  | k + 1, h, j, hj => by
    have ih := az_b D h8 k (by omega)
    have l := so_zz n D n
    have mo := zz_mo n D (show k ≤ n by omega)
    have b2 := two_l n (by omega)
    rw [zz_s]
    by_cases z : bl n D k = 0
    · rw [if_pos z, ← Nat.add_assoc, tins _ (by omega) k (by omega) (by rw [ih k (by omega)]; simp [z]) j (by omega), ih j hj]
      by_cases y : j = k
      · subst y; simp
      · have : (j < k + 1) = (j < k) := by simp; omega
        simp [this, y]
    · rw [if_neg z, Nat.add_zero, ih j hj]
      by_cases y : j = k
      · subst y; simp [z]
      · have : (j < k + 1) = (j < k) := by simp; omega
        simp [this]
theorem az_g {n : Nat} (D : SDt) (h8 : n ≤ 8) : ∀ k, k ≤ n → gT n D (soN n D n + zzN n D k) = gT n D (soN n D n) + zcN n D k
  | 0, _ => rfl
  | k + 1, h => by
    have ih := az_g D h8 k (by omega)
    have l := so_zz n D n
    have mo := zz_mo n D (show k ≤ n by omega)
    rw [zz_s, zc_s]
    by_cases z : bl n D k = 0
    · rw [if_pos z, if_pos z, ← Nat.add_assoc, gT_ins h8 (by omega) z _ (by omega) (by rw [az_b D h8 k (by omega) k (by omega)]; simp [z]), ih]
      omega
    · rw [if_neg z, if_neg z]
      exact ih
theorem so_pc {n : Nat} (D : SDt) (h8 : n ≤ 8) : ∀ k, k ≤ 8 → pcK (soN n D n) k + zcN n D (min k n) = min k n
  | 0, _ => by rw [Nat.zero_min]; rfl
  | k + 1, h => by
    have ih := so_pc D h8 k (by omega)
    rw [pcS, so_b n D n h8 k (by omega)]
    by_cases y : k < n
    · rw [Nat.min_eq_left (by omega)] at ih ⊢
      rw [zc_s]
      by_cases z : bl n D k = 0
      · simp [y, z]; omega
      · simp [y, z]; omega
    · rw [Nat.min_eq_right (by omega)] at ih ⊢
      simp [y]
      exact ih
theorem pay_eq {n : Nat} (D : SDt) (h8 : n ≤ 8) : nI n - nI (gT n D (2 ^ n - 1)) = nI (pc (soN n D n)) - nI (gT n D (soN n D n)) := by
  have a := az_g D h8 n (Nat.le_refl _)
  have b := so_pc D h8 8 (Nat.le_refl _)
  have c := so_zz n D n
  rw [Nat.min_eq_right h8] at b
  rw [show soN n D n + zzN n D n = 2 ^ n - 1 by omega] at a
  have e : pc (soN n D n) + zcN n D n = n := b
  have e2 : nI n = nI (pc (soN n D n)) + nI (zcN n D n) := by rw [nI_add, e]
  rw [a, e2, ← nI_add]
  have : ∀ x y z : Int32, x + z - (y + z) = x - y := fun x y z => by grind
  exact this _ _ _

def PyI (n : Nat) (D : SDt) (m0 m : Mem) (k : Nat) : Prop := Fr m0 m ∧ SeR n D m ∧ (∀ s, s < 2 ^ n → gI m (0, 16, 0) s = su (bl n D) n s) ∧ ∀ t, t < k → gI m (0, 17, 0) t = nI (gT n D t)
theorem nI_max {a b : Nat} (ha : a < 2 ^ 31) (hb : b < 2 ^ 31) : (if nI a < nI b then nI b else nI a) = nI (if a < b then b else a) := by
  by_cases z : a < b
  · rw [if_pos z, if_pos ((nI_ltI ha hb).mpr z)]
  · rw [if_neg z, if_neg (mt (nI_ltI ha hb).mp z)]

theorem l_Se_fewestPayments30 {d n : Nat} {D : SDt} {m0 m : Mem} {K : Option Vv → Mem → Prop} {s : Nat} (H : PyI n D m0 m s) (hs : s < 2 ^ n) (h : Go (cW (d + 1)) i_Se_fewestPayments (0, 0) K 51 [vo 0 14 0, vo 0 5 0, vi (nI s), vi (nI (mxP s (fun i => gT n D (s - 2 ^ i)) n)), vi (nI n)] [] m 0 0) (k : Nat) (hk : k ≤ n) : Go (cW (d + 1)) i_Se_fewestPayments (0, 0) K 30 [vo 0 14 0, vo 0 5 0, vi (nI s), vi (nI (mxP s (fun i => gT n D (s - 2 ^ i)) k)), vi (nI k)] [] m 0 0 := by
  have hE := H.2.1
  have hR := hE.1.ok
  have h8 := hE.1.le
  have q1 : gI m (0, 14, 0) 4 = nI n := hE.2.2.1
  have bb2 := two_l n (by omega)
  have b9 := two_l k (by omega)
  have te := two_e k (by omega)
  refine Go.runR (callT_mono MT _) [30, 51] 200 hR ?_
  refine And.intro (fun c33 => ?_) (fun c33 => ?_)
  · try dsimp only at c33
    have hk2 := lq_e c33 q1 rfl hk (by omega)
    subst hk2
    exact h
  · try dsimp only at c33
    have hk2 := lq_m c33 q1 rfl hk (by omega)
    have key : ∀ b, b = nI (mxP s (fun i => gT n D (s - 2 ^ i)) (k + 1)) → Go (cW (d + 1)) i_Se_fewestPayments (0, 0) K 30 [vo 0 14 0, vo 0 5 0, vi (nI s), vi b, vi (nI k + 1)] [] m 0 0 := fun b z => go_eq (by rw [z, ← nI_succ]) rfl (l_Se_fewestPayments30 H hs h (k + 1) hk2)
    refine m_X_contains (by repeat' (first | exact hR | apply OKR.pI | apply OKR.pL | apply OKR.cpI | apply OKR.wI)) (s := s) (i := k) rfl rfl (by omega) (by omega) (And.intro (by repeat' (first | exact hR | apply OKR.pI | apply OKR.pL | apply OKR.cpI | apply OKR.wI)) ?_)
    refine And.intro (fun c37 => ?_) (fun c37 => ?_)
    · try dsimp only at c37
      first
      | exact key _ (by
          show (if nI (mxP s (fun i => gT n D (s - 2 ^ i)) k) < gI m (0, 17, 0) (nI s - (1 : Int32) <<< (nI k &&& 31)).toNatClampNeg then gI m (0, 17, 0) (nI s - (1 : Int32) <<< (nI k &&& 31)).toNatClampNeg else nI (mxP s (fun i => gT n D (s - 2 ^ i)) k)) = _
          rw [ec, H.2.2.2 _ (by omega), nI_max (by omega) (by omega), mxPs, if_pos hb])
      | exact key _ (by rw [mxPs, if_neg (tb_e0 c37)])
    · try dsimp only at c37
      have hb := tb_n0 c37
      have pl := tb_le hb
      have pp := two_p k
      have ei : nI s - (1 : Int32) <<< (nI k &&& 31) = nI (s - 2 ^ k) := by rw [te, pk_sub pl]
      have ec : (nI s - (1 : Int32) <<< (nI k &&& 31)).toNatClampNeg = s - 2 ^ k := by rw [ei, nI_clamp (by omega)]
      have gl := gT_le n D (s - 2 ^ k)
      have ml := mxP_le (s := s) (B := 256) (f := fun i => gT n D (s - 2 ^ i)) (k := k) fun i _ _ => by have := gT_le n D (s - 2 ^ i); have := two_p i; show gT n D (s - 2 ^ i) ≤ 256; omega
      refine And.intro ⟨(by first | decide | assumption | omega), (by first | decide | assumption | omega)⟩ ?_
      refine And.intro (by show vp_in (nI s - (1 : Int32) <<< (nI k &&& 31)) 256; rw [ei]; exact vp_nI (by omega) (by decide)) ?_
      first
      | exact key _ (by
          show (if nI (mxP s (fun i => gT n D (s - 2 ^ i)) k) < gI m (0, 17, 0) (nI s - (1 : Int32) <<< (nI k &&& 31)).toNatClampNeg then gI m (0, 17, 0) (nI s - (1 : Int32) <<< (nI k &&& 31)).toNatClampNeg else nI (mxP s (fun i => gT n D (s - 2 ^ i)) k)) = _
          rw [ec, H.2.2.2 _ (by omega), nI_max (by omega) (by omega), mxPs, if_pos hb])
      | exact key _ (by rw [mxPs, if_neg (tb_e0 c37)])
termination_by n - k
decreasing_by all_goals omega

theorem l_Se_fewestPayments22 {d n : Nat} {D : SDt} {m0 : Mem} {K : Option Vv → Mem → Prop} (h : ∀ m, Fr m0 m → K (some (vi (nI n - nI (gT n D (2 ^ n - 1))))) m) (k : Nat) (m : Mem) (x y : Vv) (H : PyI n D m0 m k) (hk : k ≤ 2 ^ n) (hk0 : 0 < k) : Go (cW (d + 1)) i_Se_fewestPayments (0, 0) K 22 [vo 0 14 0, vo 0 5 0, vi (nI k), x, y] [] m 0 0 := by
  have hE := H.2.1
  have hR := hE.1.ok
  have h8 := hE.1.le
  have q1 : gI m (0, 14, 0) 3 = nI (2 ^ n) := hE.2.1
  have q4 : gI m (0, 14, 0) 4 = nI n := hE.2.2.1
  have bb2 := two_l n (by omega)
  have q5 : (gI m (0, 14, 0) 3 - 1).toNatClampNeg = 2 ^ n - 1 := by rw [q1, two_n n (by omega), nI_clamp (by omega)]
  refine Go.runR (callT_mono MT _) [22, 30] 200 hR ?_
  refine And.intro (fun c25 => ?_) (fun c25 => ?_)
  · try dsimp only at c25
    have hk2 := lq_e c25 q1 rfl hk (by omega)
    refine And.intro ⟨(by first | decide | assumption | omega), (by first | decide | assumption | omega)⟩ ?_
    refine And.intro (by show vp_in (gI m (0, 14, 0) 3 - 1) 256; rw [q1, two_n n (by omega)]; exact vp_nI (by omega) (by decide)) ?_
    refine And.intro trivial ?_
    refine (?_ : K (some (vi (gI m (0, 14, 0) 4 - gI m (0, 17, 0) (gI m (0, 14, 0) 3 - 1).toNatClampNeg))) m)
    rw [q4, q5, H.2.2.2 _ (by omega)]
    exact h m H.1
  · try dsimp only at c25
    have hk2 := lq_m c25 q1 rfl hk (by omega)
    refine go_eq (ls' := [vo 0 14 0, vo 0 5 0, vi (nI k), vi (nI (mxP k (fun i => gT n D (k - 2 ^ i)) 0)), vi (nI 0)]) rfl rfl (l_Se_fewestPayments30 H hk2 ?_ 0 (Nat.zero_le _))
    have e0 : (nI k).toNatClampNeg = k := nI_clamp (by omega)
    have e6 : gI m (0, 16, 0) (nI k).toNatClampNeg = su (bl n D) n k := by rw [e0]; exact H.2.2.1 k hk2
    have hg := gT_s n D hk0
    refine Go.runR (callT_mono MT _) [22] 200 hR ?_
    refine And.intro ⟨(by first | decide | assumption | omega), (by first | decide | assumption | omega)⟩ ?_
    refine And.intro ⟨(by first | decide | assumption | omega), (by first | decide | assumption | omega)⟩ ?_
    refine And.intro (vp_nI (k := k) (N := 256) (by omega) (by decide)) ?_
    refine And.intro (fun c59 => ?_) (fun c59 => ?_)
    · try dsimp only at c59
      rw [e6] at c59
      rw [if_pos c59] at hg
      refine And.intro (vp_nI (k := k) (N := 256) (by omega) (by decide)) ?_
      refine (fun (x' y' : Vv) (m' : Mem) H' => go_eq (ls' := [vo 0 14 0, vo 0 5 0, vi (nI (k + 1)), x', y']) (by rw [nI_succ]) rfl (l_Se_fewestPayments22 h (k + 1) m' x' y' H' hk2 (by omega)) : ∀ (x' y' : Vv) (m' : Mem), PyI n D m0 m' (k + 1) → Go (cW (d + 1)) i_Se_fewestPayments (0, 0) K 22 [vo 0 14 0, vo 0 5 0, vi (nI k + 1), x', y'] [] m' 0 0) _ _ _ ⟨H.1.p0 (by omega), hE.p17, H.2.2.1, fun t ht => ?_⟩
      rw [rd00, e0]
      by_cases z : t = k
      · rw [if_pos ⟨rfl, rfl, z⟩, z, hg, ← nI_add]
        rfl
      · rw [if_neg (fun y => z y.2.2)]
        exact H.2.2.2 t (by omega)
    · try dsimp only at c59
      rw [e6] at c59
      rw [if_neg c59] at hg
      refine And.intro (vp_nI (k := k) (N := 256) (by omega) (by decide)) ?_
      refine (fun (x' y' : Vv) (m' : Mem) H' => go_eq (ls' := [vo 0 14 0, vo 0 5 0, vi (nI (k + 1)), x', y']) (by rw [nI_succ]) rfl (l_Se_fewestPayments22 h (k + 1) m' x' y' H' hk2 (by omega)) : ∀ (x' y' : Vv) (m' : Mem), PyI n D m0 m' (k + 1) → Go (cW (d + 1)) i_Se_fewestPayments (0, 0) K 22 [vo 0 14 0, vo 0 5 0, vi (nI k + 1), x', y'] [] m' 0 0) _ _ _ ⟨H.1.p0 (by omega), hE.p17, H.2.2.1, fun t ht => ?_⟩
      rw [rd00, e0]
      by_cases z : t = k
      · rw [if_pos ⟨rfl, rfl, z⟩, z, hg, ← nI_add]
        rfl
      · rw [if_neg (fun y => z y.2.2)]
        exact H.2.2.2 t (by omega)
termination_by 2 ^ n - k
decreasing_by all_goals omega

theorem l_Se_fewestPayments2 {d n : Nat} {D : SDt} {m0 : Mem} {K : Option Vv → Mem → Prop} (h : ∀ m, Fr m0 m → K (some (vi (nI n - nI (gT n D (2 ^ n - 1))))) m) (k : Nat) (m : Mem) (H : Fr m0 m ∧ SeR n D m ∧ ∀ s, s < 2 ^ k → gI m (0, 16, 0) s = su (bl n D) k s) (hk : k ≤ n) : Go (cW (d + 3)) i_Se_fewestPayments (0, 0) K 2 [vo 0 14 0, vo 0 5 0, vi (nI k), vu, vu] [] m 0 0 := by
  have hE := H.2.1
  have hR := hE.1.ok
  have h8 := hE.1.le
  have q1 : gI m (0, 14, 0) 4 = nI n := hE.2.2.1
  have bb2 := two_l n (by omega)
  refine Go.runR (callT_mono MT _) [2, 22] 200 hR ?_
  refine And.intro (fun c5 => ?_) (fun c5 => ?_)
  · try dsimp only at c5
    have hk2 := lq_e c5 q1 rfl hk (by omega)
    rw [hk2] at H
    refine And.intro ⟨(by first | decide | assumption | omega), (by first | decide | assumption | omega)⟩ ?_
    refine And.intro (vp_nI (k := 0) (N := 256) (by omega) (by decide)) ?_
    refine go_eq (ls' := [vo 0 14 0, vo 0 5 0, vi (nI 1), vu, vu]) rfl rfl (l_Se_fewestPayments22 h 1 _ _ _ ⟨H.1.p0 (by omega), hE.p17, H.2.2, fun t ht => ?_⟩ (two_p n) (by omega))
    obtain rfl : t = 0 := by omega
    rfl
  · try dsimp only at c5
    have hk2 := lq_m c5 q1 rfl hk (by omega)
    refine And.intro ⟨(by first | decide | assumption | omega), (by first | decide | assumption | omega)⟩ ?_
    refine m_St_balanceOf (by exact hE.1) (i := k) rfl hk2 (And.intro (by repeat' (first | exact hR | apply OKR.pI | apply OKR.pL | apply OKR.cpI | apply OKR.wI)) ?_)
    refine m_Se_addHouse16 (by repeat' (first | exact hR | apply OKR.pI | apply OKR.pL | apply OKR.cpI | apply OKR.wI)) rfl (by omega) (And.intro (by repeat' (first | exact hR | apply OKR.wI | apply OKR.pI)) ?_)
    refine go_eq (ls' := [vo 0 14 0, vo 0 5 0, vi (nI (k + 1)), vu, vu]) (by rw [nI_succ]; rfl) rfl (l_Se_fewestPayments2 h (k + 1) _ ⟨H.1.s0 (Or.inr (Or.inr ⟨Or.inr rfl, adFz _ _ _ _⟩)), hE.s16, fun s hs => ?_⟩ hk2)
    rw [sI00, if_pos ⟨rfl, rfl⟩]
    exact su_step H.2.2 s hs
termination_by n - k
decreasing_by all_goals omega

theorem m_Se_fewestPayments {d n : Nat} {D : SDt} {m : Mem} {K : Option Vv → Mem → Prop} (hE : SeR n D m) (h : ∀ m', Fr m m' → K (some (vi (nI n - nI (gT n D (2 ^ n - 1))))) m') : cW (d + 4) n_Se_fewestPayments [vo 0 14 0, vo 0 5 0] m K := by
  have hR := hE.1.ok
  refine w_Se_fewestPayments (Go.runR (callT_mono MT _) [2] 200 hR ?_)
  refine go_eq (ls' := [vo 0 14 0, vo 0 5 0, vi (nI 0), vu, vu]) rfl rfl (l_Se_fewestPayments2 h 0 m ⟨Fr.refl hR, hE, fun s hs => ?_⟩ (Nat.zero_le _))
  obtain rfl : s = 0 := by omega
  exact hE.2.2.2.2.2

def PyJ (n : Nat) (D : SDt) (m0 m : Mem) (k : Nat) : Prop := Fr m0 m ∧ ∀ t, t < k → gI m (1, 19, 0) t = nI (gT n D t)
theorem xbit : ∀ s, s < 256 → ∀ i, i < 8 → s.testBit i = true → nI s &&& (((1 : Int32) <<< (nI i &&& 31)) ^^^ (-1)) = nI (s - 2 ^ i) := by decide +kernel
theorem so_or (n : Nat) (D : SDt) {k : Nat} (hk : k < 8) : nI (soN n D k) ||| (1 : Int32) <<< (nI k &&& 31) = nI (soN n D k + 2 ^ k) := by
  have l := so_zz n D k
  have := Nat.two_pow_add_eq_or_of_lt (i := k) (b := soN n D k) (by omega) 1
  rw [Nat.mul_one] at this
  rw [two_e k (by omega), nI_or, Nat.add_comm, this, Nat.or_comm]

theorem l_M_payments39 {d n : Nat} {D : SDt} {m0 m : Mem} {K : Option Vv → Mem → Prop} {s : Nat} {c : Vv} (hS0 : SC n D m0) (H : PyJ n D m0 m s) (hs : s < 2 ^ n) (h : ∀ y, Go (cW (d + 1)) i_M_payments (0, 0) K 73 [vo 1 0 0, c, vi (nI s), vi (su (bl n D) n s), vi (nI (mxP s (fun i => gT n D (s - 2 ^ i)) n)), vi (nI n), y] [] m 0 0) (k : Nat) (x : Vv) (hk : k ≤ n) : Go (cW (d + 1)) i_M_payments (0, 0) K 39 [vo 1 0 0, c, vi (nI s), vi (su (bl n D) k s), vi (nI (mxP s (fun i => gT n D (s - 2 ^ i)) k)), vi (nI k), x] [] m 0 0 := by
  have hS := H.1.sc hS0
  have hR := hS.ok
  have h8 := hS.le
  have q2 := hS.nB
  have bb2 := two_l n (by omega)
  have b9 := two_l k (by omega)
  refine Go.runR (callT_mono MT _) [39, 73] 200 hR ?_
  refine And.intro (fun c42 => ?_) (fun c42 => ?_)
  · try dsimp only at c42
    have hk2 := lq_e c42 q2 rfl hk (by omega)
    subst hk2
    exact h _
  · try dsimp only at c42
    have hk2 := lq_m c42 q2 rfl hk (by omega)
    have key : ∀ a b y, a = su (bl n D) (k + 1) s → b = nI (mxP s (fun i => gT n D (s - 2 ^ i)) (k + 1)) → Go (cW (d + 1)) i_M_payments (0, 0) K 39 [vo 1 0 0, c, vi (nI s), vi a, vi b, vi (nI k + 1), y] [] m 0 0 := fun a b y z w => go_eq (by rw [z, w, ← nI_succ]) rfl (l_M_payments39 hS0 H hs h (k + 1) y hk2)
    refine m_M_has (by repeat' (first | exact hR | apply OKR.pI | apply OKR.pL | apply OKR.cpI | apply OKR.wI)) (s := s) (i := k) rfl rfl (by omega) (by omega) (And.intro (by repeat' (first | exact hR | apply OKR.pI | apply OKR.pL | apply OKR.cpI | apply OKR.wI)) ?_)
    refine And.intro (fun c46 => ?_) (fun c46 => ?_)
    · try dsimp only at c46
      first
      | exact key _ _ _ (su_s0 (tb_e0 c46)).symm (by rw [mxPs, if_neg (tb_e0 c46)])
      | exact key _ _ _ (su_s1 hb).symm (by rw [mxPs, if_pos hb, if_neg (by omega)])
      | exact key _ _ _ (su_s1 hb).symm (by rw [mxPs, if_pos hb, if_pos (by omega)]; exact gv)
    · try dsimp only at c46
      have hb := tb_n0 c46
      have pl := tb_le hb
      have pp := two_p k
      have ei := xbit s (by omega) k (by omega) hb
      have ec : (nI s &&& (((1 : Int32) <<< (nI k &&& 31)) ^^^ (-1))).toNatClampNeg = s - 2 ^ k := by rw [ei, nI_clamp (by omega)]
      have gl := gT_le n D (s - 2 ^ k)
      have gv : gI m (1, 19, 0) (nI s &&& (((1 : Int32) <<< (nI k &&& 31)) ^^^ (-1))).toNatClampNeg = nI (gT n D (s - 2 ^ k)) := by rw [ec]; exact H.2 _ (by omega)
      have ml := mxP_le (s := s) (B := 256) (f := fun i => gT n D (s - 2 ^ i)) (k := k) fun i _ _ => by have := gT_le n D (s - 2 ^ i); have := two_p i; show gT n D (s - 2 ^ i) ≤ 256; omega
      have i1 : nI (gT n D (s - 2 ^ k)) ≤ nI (mxP s (fun i => gT n D (s - 2 ^ i)) k) ↔ gT n D (s - 2 ^ k) ≤ mxP s (fun i => gT n D (s - 2 ^ i)) k := nI_leI (by omega) (by omega)
      refine m_M_balanceOf (by exact hS) rfl hk2 (And.intro (by repeat' (first | exact hR | apply OKR.pI | apply OKR.pL | apply OKR.cpI | apply OKR.wI)) ?_)
      refine And.intro ⟨rfl, rfl, rfl⟩ ?_
      refine And.intro (by show vp_in (nI s &&& (((1 : Int32) <<< (nI k &&& 31)) ^^^ (-1))) 256; rw [ei]; exact vp_nI (by omega) (by decide)) ?_
      refine And.intro (fun c66 => ?_) (fun c66 => ?_)
      · try dsimp only at c66
        have z := i1.mp (by rw [← gv]; exact c66)
        first
        | exact key _ _ _ (su_s0 (tb_e0 c46)).symm (by rw [mxPs, if_neg (tb_e0 c46)])
        | exact key _ _ _ (su_s1 hb).symm (by rw [mxPs, if_pos hb, if_neg (by omega)])
        | exact key _ _ _ (su_s1 hb).symm (by rw [mxPs, if_pos hb, if_pos (by omega)]; exact gv)
      · try dsimp only at c66
        have z := mt i1.mpr (by rw [← gv]; exact c66)
        first
        | exact key _ _ _ (su_s0 (tb_e0 c46)).symm (by rw [mxPs, if_neg (tb_e0 c46)])
        | exact key _ _ _ (su_s1 hb).symm (by rw [mxPs, if_pos hb, if_neg (by omega)])
        | exact key _ _ _ (su_s1 hb).symm (by rw [mxPs, if_pos hb, if_pos (by omega)]; exact gv)
termination_by n - k
decreasing_by all_goals omega

theorem l_M_payments29 {d n : Nat} {D : SDt} {m0 : Mem} {K : Option Vv → Mem → Prop} (hS0 : SC n D m0) (h : ∀ m, Fr m0 m → K (some (vi (nI (pc (soN n D n)) - nI (gT n D (soN n D n))))) m) (k : Nat) (m : Mem) (x y z w : Vv) (H : PyJ n D m0 m k) (hk : k ≤ 2 ^ n) (hk0 : 0 < k) : Go (cW (d + 2)) i_M_payments (0, 0) K 29 [vo 1 0 0, vi (nI (soN n D n)), vi (nI k), x, y, z, w] [] m 0 0 := by
  have hS := H.1.sc hS0
  have hR := hS.ok
  have h8 := hS.le
  have bb2 := two_l n (by omega)
  have bb3 := two_p n
  have sz := so_zz n D n
  have es : (nI (soN n D n)).toNatClampNeg = soN n D n := nI_clamp (by omega)
  refine Go.runR (callT_mono MT _) [29, 39] 200 hR ?_
  refine m_M_all (by exact hS)  (And.intro (by repeat' (first | exact hR | apply OKR.pI | apply OKR.pL | apply OKR.cpI | apply OKR.wI)) ?_)
  refine And.intro (fun c32 => ?_) (fun c32 => ?_)
  · try dsimp only at c32
    have hk2 := lq0 c32 rfl rfl bb3 hk (by omega)
    refine m_M_sizeOf (by repeat' (first | exact hR | apply OKR.pI | apply OKR.pL | apply OKR.cpI | apply OKR.wI)) (s := soN n D n) rfl (by omega) (And.intro (by repeat' (first | exact hR | apply OKR.pI | apply OKR.pL | apply OKR.cpI | apply OKR.wI)) ?_)
    refine And.intro ⟨rfl, rfl, rfl⟩ ?_
    refine And.intro (vp_nI (k := soN n D n) (N := 256) (by omega) (by decide)) ?_
    refine And.intro trivial ?_
    refine (?_ : K (some (vi (nI (pc (soN n D n)) - gI m (1, 19, 0) (nI (soN n D n)).toNatClampNeg))) m)
    rw [es, H.2 _ (by omega)]
    exact h m H.1
  · try dsimp only at c32
    have hk2 := lq1 c32 rfl rfl bb3 hk (by omega)
    refine go_eq (ls' := [vo 1 0 0, vi (nI (soN n D n)), vi (nI k), vi (su (bl n D) 0 k), vi (nI (mxP k (fun i => gT n D (k - 2 ^ i)) 0)), vi (nI 0), w]) rfl rfl (l_M_payments39 (d := d + 1) hS0 H hk2 (fun y => ?_) 0 _ (Nat.zero_le _))
    have e0 : (nI k).toNatClampNeg = k := nI_clamp (by omega)
    have hg := gT_s n D hk0
    refine Go.runR (callT_mono MT _) [29] 200 hR ?_
    refine And.intro ⟨rfl, rfl, rfl⟩ ?_
    refine And.intro (fun c78 => ?_) (fun c78 => ?_)
    · try dsimp only at c78
      rw [if_pos c78] at hg
      refine And.intro (vp_nI (k := k) (N := 256) (by omega) (by decide)) ?_
      refine (fun (x' y' z' w' : Vv) (m' : Mem) H' => go_eq (ls' := [vo 1 0 0, vi (nI (soN n D n)), vi (nI (k + 1)), x', y', z', w']) (by rw [nI_succ]) rfl (l_M_payments29 hS0 h (k + 1) m' x' y' z' w' H' hk2 (by omega)) : ∀ (x' y' z' w' : Vv) (m' : Mem), PyJ n D m0 m' (k + 1) → Go (cW (d + 2)) i_M_payments (0, 0) K 29 [vo 1 0 0, vi (nI (soN n D n)), vi (nI k + 1), x', y', z', w'] [] m' 0 0) _ _ _ _ _ ⟨H.1.p1 (by omega), fun t ht => ?_⟩
      rw [rd11, e0]
      by_cases z : t = k
      · rw [if_pos ⟨rfl, rfl, z⟩, z, hg, ← nI_add]
        rfl
      · rw [if_neg (fun y => z y.2.2)]
        exact H.2 t (by omega)
    · try dsimp only at c78
      rw [if_neg c78] at hg
      refine And.intro (vp_nI (k := k) (N := 256) (by omega) (by decide)) ?_
      refine (fun (x' y' z' w' : Vv) (m' : Mem) H' => go_eq (ls' := [vo 1 0 0, vi (nI (soN n D n)), vi (nI (k + 1)), x', y', z', w']) (by rw [nI_succ]) rfl (l_M_payments29 hS0 h (k + 1) m' x' y' z' w' H' hk2 (by omega)) : ∀ (x' y' z' w' : Vv) (m' : Mem), PyJ n D m0 m' (k + 1) → Go (cW (d + 2)) i_M_payments (0, 0) K 29 [vo 1 0 0, vi (nI (soN n D n)), vi (nI k + 1), x', y', z', w'] [] m' 0 0) _ _ _ _ _ ⟨H.1.p1 (by omega), fun t ht => ?_⟩
      rw [rd11, e0]
      by_cases z : t = k
      · rw [if_pos ⟨rfl, rfl, z⟩, z, hg, ← nI_add]
        rfl
      · rw [if_neg (fun y => z y.2.2)]
        exact H.2 t (by omega)
termination_by 2 ^ n - k
decreasing_by all_goals omega

theorem l_M_payments4 {d n : Nat} {D : SDt} {m : Mem} {K : Option Vv → Mem → Prop} (hS : SC n D m) (h : ∀ m', Fr m m' → K (some (vi (nI (pc (soN n D n)) - nI (gT n D (soN n D n))))) m') (k : Nat) (hk : k ≤ n) : Go (cW (d + 2)) i_M_payments (0, 0) K 4 [vo 1 0 0, vi (nI (soN n D k)), vi (nI k), vu, vu, vu, vu] [] m 0 0 := by
  have hR := hS.ok
  have h8 := hS.le
  have q2 := hS.nB
  refine Go.runR (callT_mono MT _) [4, 29] 200 hR ?_
  refine And.intro (fun c7 => ?_) (fun c7 => ?_)
  · try dsimp only at c7
    have hk2 := lq_e c7 q2 rfl hk (by omega)
    rw [hk2]
    refine And.intro ⟨rfl, rfl, rfl⟩ ?_
    refine And.intro (vp_nI (k := 0) (N := 256) (by omega) (by decide)) ?_
    refine go_eq (ls' := [vo 1 0 0, vi (nI (soN n D n)), vi (nI 1), vu, vu, vu, vu]) rfl rfl (l_M_payments29 hS h 1 _ _ _ _ _ ⟨(Fr.refl hR).p1 (by omega), fun t ht => ?_⟩ (two_p n) (by omega))
    obtain rfl : t = 0 := by omega
    rfl
  · try dsimp only at c7
    have hk2 := lq_m c7 q2 rfl hk (by omega)
    have key : ∀ b, b = nI (soN n D (k + 1)) → Go (cW (d + 2)) i_M_payments (0, 0) K 4 [vo 1 0 0, vi b, vi (nI k + 1), vu, vu, vu, vu] [] m 0 0 := fun b z => go_eq (by rw [z, ← nI_succ]) rfl (l_M_payments4 hS h (k + 1) hk2)
    refine m_M_balanceOf (by exact hS) (i := k) rfl hk2 (And.intro (by repeat' (first | exact hR | apply OKR.pI | apply OKR.pL | apply OKR.cpI | apply OKR.wI)) ?_)
    refine And.intro (fun c12 => ?_) (fun c12 => ?_)
    · try dsimp only at c12
      first
      | exact key _ (by rw [so_s, if_pos c12]; exact i_or0 _)
      | exact key _ (by rw [so_s, if_neg c12]; exact so_or n D (by omega))
    · try dsimp only at c12
      first
      | exact key _ (by rw [so_s, if_pos c12]; exact i_or0 _)
      | exact key _ (by rw [so_s, if_neg c12]; exact so_or n D (by omega))
termination_by n - k
decreasing_by all_goals omega

theorem p_payments {d : Nat} {m : Mem} {K : Option Vv → Option Vv → Mem → Prop} (R : RelAB m) (h : ∀ v m', RelAB m' → K v v m') : cW (d + 6) n_X_payments [vo 0 0 0] m (fun u m1 => cW (d + 6) n_M_payments [vo 1 0 0] m1 (fun w m2 => K u w m2)) := by
  have hR := R.1
  obtain ⟨n, hc⟩ := R.2.2.2.2
  obtain ⟨D, hS⟩ := hc.sc hR
  have ht := R.2.2.2.1
  obtain ⟨q1, q2⟩ := hc.many
  have h8 := hc.le
  have hz : gI m (0, 15, 0) 0 = 0 ∧ gI m (0, 16, 0) 0 = 0 := ht.2.2.2.2.2
  refine w_X_payments (Go.runR (callT_mono MT _) [] 200 (by repeat' (first | exact hR | exact g1.ok | exact g2.ok | exact g3.ok | apply OKR.pI | apply OKR.pL | apply OKR.cpI | apply OKR.wI)) ?_)
  refine And.intro ⟨(by first | decide | assumption | omega), (by first | decide | assumption | omega)⟩ ?_
  refine And.intro ⟨(by first | decide | assumption | omega), (by first | decide | assumption | omega)⟩ ?_
  refine m_Se_lookAt (by exact hS) hz (fun m1 g1 hE => And.intro g1.ok ?_)
  refine And.intro ⟨(by first | decide | assumption | omega), (by first | decide | assumption | omega)⟩ ?_
  refine And.intro ⟨(by first | decide | assumption | omega), (by first | decide | assumption | omega)⟩ ?_
  refine m_Se_fewestPayments hE (fun m2 g2 => And.intro g2.ok ?_)
  refine And.intro trivial ?_
  refine w_M_payments (Go.runR (callT_mono MT _) [4] 200 (by repeat' (first | exact hR | exact g1.ok | exact g2.ok | exact g3.ok | apply OKR.pI | apply OKR.pL | apply OKR.cpI | apply OKR.wI)) ?_)
  exact go_eq (ls' := [vo 1 0 0, vi (nI (soN n D 0)), vi (nI 0), vu, vu, vu, vu]) rfl rfl (l_M_payments4 (g2.sc hE.1) (fun m3 g3 => by
  rw [pay_eq D h8]
  exact h _ _ (((g1.trans g2).trans g3).rel R)) 0 (Nat.zero_le _))
