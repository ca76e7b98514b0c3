/-! Written by a program (wip/whole/p50.py): rises, wedding. -/
theorem nI_and (a b : Nat) : nI a &&& nI b = nI (a &&& b) := Int32.toBitVec_inj.mp (by
  show BitVec.ofNat 32 a &&& BitVec.ofNat 32 b = BitVec.ofNat 32 (a &&& b)
  exact BitVec.ofNat_and.symm)
theorem nI_or (a b : Nat) : nI a ||| nI b = nI (a ||| b) := Int32.toBitVec_inj.mp (by
  show BitVec.ofNat 32 a ||| BitVec.ofNat 32 b = BitVec.ofNat 32 (a ||| b)
  exact BitVec.ofNat_or.symm)
theorem nt_e : ∀ t, t < 256 → nI 255 &&& (nI t ^^^ (-1)) = nI (255 ^^^ t) := by decide +kernel
theorem nt_s : ∀ s, s < 256 → s &&& 255 = s := by decide +kernel
theorem nt_b : ∀ i, i < 8 → (255 : Nat).testBit i = true := by decide +kernel
theorem andnot {s t : Nat} (hs : s < 256) (ht : t < 256) : nI s &&& (nI t ^^^ (-1)) = nI (s &&& (255 ^^^ t)) := by
  have a : nI s = nI s &&& nI 255 := by rw [nI_and, nt_s s hs]
  rw [a, Int32.and_assoc, nt_e t ht, nI_and]
theorem and_lt256 {s t : Nat} (hs : s < 256) : s &&& t < 256 := Nat.lt_of_le_of_lt Nat.and_le_left hs
def mN (D : SDt) (k : Nat) : Nat := itr (fun k a => a ||| if dK D k = 4 then 2 ^ k else 0) 0 k
theorem mNs (D : SDt) (k : Nat) : mN D (k + 1) = mN D k ||| if dK D k = 4 then 2 ^ k else 0 := rfl
theorem mN_lt (D : SDt) : ∀ k, mN D k < 2 ^ k
  | 0 => Nat.one_pos
  | k + 1 => by
    have := mN_lt D k
    rw [mNs]
    refine Nat.or_lt_two_pow (by rw [Nat.pow_succ]; omega) ?_
    have := two_p k
    split
    · rw [Nat.pow_succ]; omega
    · exact two_p _
theorem mN_b (D : SDt) : ∀ k i, i < k → (mN D k).testBit i = decide (dK D i = 4)
  | 0, _, h => absurd h (by omega)
  | k + 1, i, h => by
    rw [mNs, Nat.testBit_or]
    rcases Nat.lt_or_ge i k with q | q
    · rw [mN_b D k i q]
      split
      · rw [Nat.testBit_two_pow_of_ne (by omega), Bool.or_false]
      · rw [Nat.zero_testBit, Bool.or_false]
    · obtain rfl : i = k := by omega
      rw [Nat.testBit_lt_two_pow (mN_lt D i), Bool.false_or]
      by_cases z : dK D i = 4
      · rw [if_pos z, Nat.testBit_two_pow_self]; simp [z]
      · rw [if_neg z, Nat.zero_testBit]; simp [z]
theorem muE (D : SDt) : ∀ k, k ≤ 8 → mu k D = nI (mN D k)
  | 0, _ => rfl
  | k + 1, h => by
    have ih := muE D k (by omega)
    rw [mNs, ← nI_or, ← ih]
    by_cases z : dK D k = 4
    · rw [mu_s1 z, if_pos z, two_e k (by omega)]
    · rw [mu_s0 z, if_neg z]
      exact (i_or0 _).symm
/-- without the MUTE ones -/
theorem rs_mute {n : Nat} {D : SDt} (h8 : n ≤ 8) {s : Nat} (hs : s < 256) : rs n D (s &&& (255 ^^^ mN D n)) = rs n D s := by
  have key : ∀ k, k ≤ n → rs k D (s &&& (255 ^^^ mN D n)) = rs k D s := by
    intro k
    induction k with
    | zero => intro _; rfl
    | succ k ih =>
      intro hk
      have b : (s &&& (255 ^^^ mN D n)).testBit k = (s.testBit k && !decide (dK D k = 4)) := by
        rw [Nat.testBit_and, Nat.testBit_xor, nt_b k (by omega), mN_b D n k (by omega), Bool.true_xor]
      have i := ih (by omega)
      by_cases z : dK D k = 4
      · have r0 : rp D k = 0 := by unfold rp sn snd; rw [z]; exact Nat.zero_sub _
        have e1 : rs (k + 1) D (s &&& (255 ^^^ mN D n)) = rs k D (s &&& (255 ^^^ mN D n)) := rs_s0 (by rw [b]; simp [z])
        rw [e1, i]
        by_cases y : s.testBit k = true
        · rw [rs_s1 y, r0]; rfl
        · rw [rs_s0 y]
      · by_cases y : s.testBit k = true
        · rw [rs_s1 y, rs_s1 (by rw [b]; simp [z, y]), i]
        · rw [rs_s0 y, rs_s0 (by rw [b]; simp [y]), i]
  exact key n (Nat.le_refl _)
def saw (n : Nat) (D : SDt) (k v : Nat) : Bool := itr (fun s a => a || decide (rs n D s = v)) false k
theorem saws (n : Nat) (D : SDt) (k v : Nat) : saw n D (k + 1) v = (saw n D k v || decide (rs n D k = v)) := rfl
def uR (n : Nat) (D : SDt) (k : Nat) : Nat := itr (fun s a => a + if saw n D s (rs n D s) = true then 0 else 1) 0 k
theorem uRs (n : Nat) (D : SDt) (k : Nat) : uR n D (k + 1) = uR n D k + if saw n D k (rs n D k) = true then 0 else 1 := rfl
def mxv (n : Nat) (D : SDt) (k : Nat) : Nat := itr (fun s a => if a < rs n D s then rs n D s else a) 0 k
theorem mxs (n : Nat) (D : SDt) (k : Nat) : mxv n D (k + 1) = if mxv n D k < rs n D k then rs n D k else mxv n D k := rfl
theorem rs_mono {D : SDt} {s t : Nat} : ∀ {k : Nat}, (∀ i, i < k → s.testBit i = true → t.testBit i = true) → rs k D s ≤ rs k D t
  | 0, _ => Nat.le_refl _
  | k + 1, h => by
    have ih := rs_mono (D := D) (s := s) (t := t) (k := k) fun i hi => h i (by omega)
    by_cases y : s.testBit k = true
    · rw [rs_s1 y, rs_s1 (h k (by omega) y)]; omega
    · rw [rs_s0 y]
      by_cases z : t.testBit k = true
      · rw [rs_s1 z]; omega
      · rw [rs_s0 z]; exact ih
theorem rs_top {n : Nat} {D : SDt} (s : Nat) : rs n D s ≤ rs n D (2 ^ n - 1) := rs_mono fun i hi _ => by rw [Nat.testBit_two_pow_sub_one]; simp [hi]
theorem mx_le {n : Nat} {D : SDt} : ∀ k, mxv n D k ≤ rs n D (2 ^ n - 1)
  | 0 => Nat.zero_le _
  | k + 1 => by
    have a := mx_le (n := n) (D := D) k
    have b := rs_top (n := n) (D := D) k
    rw [mxs]
    split
    · exact b
    · exact a
theorem mx_top (n : Nat) (D : SDt) : mxv n D (2 ^ n) = rs n D (2 ^ n - 1) := by
  have p := two_p n
  obtain ⟨j, hj⟩ : ∃ j, 2 ^ n = j + 1 := ⟨2 ^ n - 1, by omega⟩
  have a := mx_le (n := n) (D := D) (2 ^ n)
  have b : rs n D (2 ^ n - 1) ≤ mxv n D (2 ^ n) := by
    rw [hj, mxs, Nat.add_sub_cancel]
    split <;> omega
  omega
def sat (b : Bool) : Int32 := if b = true then 1 else 0
theorem sat_f {b : Bool} (h : sat b = 0) : b = false := by
  cases b with
  | false => rfl
  | true => exact absurd h (by decide)
theorem sat_t {b : Bool} (h : ¬ sat b = 0) : b = true := by
  cases b with
  | false => exact absurd rfl h
  | true => rfl

theorem m_Se_greatestRise {d n : Nat} {D : SDt} {m : Mem} {K : Option Vv → Mem → Prop} (hE : SeR n D m) (h : K (some (vi (nI (rs n D (2 ^ n - 1))))) m) : cW (d + 1) n_Se_greatestRise [vo 0 14 0] m K := by
  have hR := hE.1.ok
  have h8 := hE.1.le
  have bb2 := two_l n (by omega)
  have bb3 := two_p n
  have q1 : gI m (0, 14, 0) 3 - 1 = nI (2 ^ n - 1) := by rw [hE.2.1]; exact two_n n (by omega)
  refine w_Se_greatestRise (Go.runR (callT_mono MT _) [] 200 hR ?_)
  refine And.intro ⟨(by first | decide | assumption | omega), (by first | decide | assumption | omega)⟩ ?_
  refine And.intro (by show vp_in (gI m (0, 14, 0) 3 - 1) 256; rw [q1]; exact vp_nI (by omega) (by decide)) ?_
  refine And.intro trivial ?_
  refine kvi ?_ h
  show gI m (0, 15, 0) (gI m (0, 14, 0) 3 - 1).toNatClampNeg = _
  rw [q1, nI_clamp (by omega)]
  exact hE.2.2.2.2.1 _ (by omega)

def UrI (n : Nat) (D : SDt) (m0 m : Mem) (k : Nat) : Prop := Fr m0 m ∧ SeR n D m ∧ ∀ v, v < 256 → gI m (0, 17, 0) v = sat (saw n D k v)
theorem SeR.p17 {n : Nat} {D : SDt} {m : Mem} (H : SeR n D m) {k : Nat} {v : Int32} : SeR n D (pI m (0, 17, 0) k v) := ⟨H.1.p0 (by omega), H.2.1, H.2.2.1, H.2.2.2.1, H.2.2.2.2.1, H.2.2.2.2.2⟩

theorem l_Se_unlikeRises18 {d n : Nat} {D : SDt} {m0 : Mem} {K : Option Vv → Mem → Prop} (h : ∀ m, Fr m0 m → SeR n D m → K (some (vi (nI (uR n D (2 ^ n))))) m) (k : Nat) (m : Mem) (x : Vv) (H : UrI n D m0 m k) (hk : k ≤ 2 ^ n) : Go (cW d) i_Se_unlikeRises (0, 0) K 18 [vo 0 14 0, vi (nI (uR n D k)), vi (nI k), x] [] m 0 0 := by
  have hE := H.2.1
  have hR := hE.1.ok
  have h8 := hE.1.le
  have q1 : gI m (0, 14, 0) 3 = nI (2 ^ n) := hE.2.1
  have bb2 := two_l n (by omega)
  have r0 := rsL hE.1 k
  refine Go.runR (callT_mono MT _) [18] 200 hR ?_
  refine And.intro (fun c21 => ?_) (fun c21 => ?_)
  · try dsimp only at c21
    have hk2 := lq_e c21 q1 rfl hk (by omega)
    refine And.intro trivial ?_
    rw [hk2]; exact h m H.1 hE
  · try dsimp only at c21
    have hk2 := lq_m c21 q1 rfl hk (by omega)
    have e0 : (nI k).toNatClampNeg = k := nI_clamp (by omega)
    have e1 : gI m (0, 15, 0) (nI k).toNatClampNeg = nI (rs n D k) := by rw [e0]; exact hE.2.2.2.2.1 k hk2
    have e2 : (gI m (0, 15, 0) (nI k).toNatClampNeg).toNatClampNeg = rs n D k := by rw [e1]; exact nI_clamp (by omega)
    have e3 := H.2.2 (rs n D k) (by omega)
    refine And.intro ⟨(by first | decide | assumption | omega), (by first | decide | assumption | omega)⟩ ?_
    refine And.intro (by exact vp_nI (k := k) (N := 256) (by omega) (by decide)) ?_
    refine And.intro (fun c28 => ?_) (fun c28 => ?_)
    · exact absurd c28 (by rw [e1]; exact nI_pos (by omega))
    · try dsimp only at c28
      refine And.intro ⟨(by first | decide | assumption | omega), (by first | decide | assumption | omega)⟩ ?_
      refine And.intro (fun c33 => ?_) (fun c33 => ?_)
      · exact absurd c33 (by show ¬ nI 256 ≤ _; rw [e1]; exact nI_ge (by omega) (by decide))
      · try dsimp only at c33
        refine And.intro ⟨(by first | decide | assumption | omega), (by first | decide | assumption | omega)⟩ ?_
        refine And.intro (by first | exact vp_nI (k := k) (N := 256) (by omega) (by decide) | (show vp_in (gI m (0, 15, 0) (nI k).toNatClampNeg) 256; rw [e1]; exact vp_nI (N := 256) (by omega) (by decide))) ?_
        refine And.intro (fun c38 => ?_) (fun c38 => ?_)
        · try dsimp only at c38
          have hs : saw n D k (rs n D k) = false := sat_f (by rw [e2, e3] at c38; exact c38)
          refine And.intro ⟨(by first | decide | assumption | omega), (by first | decide | assumption | omega)⟩ ?_
          refine And.intro (by first | exact vp_nI (k := k) (N := 256) (by omega) (by decide) | (show vp_in (gI m (0, 15, 0) (nI k).toNatClampNeg) 256; rw [e1]; exact vp_nI (N := 256) (by omega) (by decide))) ?_
          first
          | (have key : Go (cW d) i_Se_unlikeRises (0, 0) K 18 [vo 0 14 0, vi (nI (uR n D k) + 1), vi (nI k + 1), vi (gI m (0, 15, 0) (nI k).toNatClampNeg)] [] (pI m (0, 17, 0) (gI m (0, 15, 0) (nI k).toNatClampNeg).toNatClampNeg 1) 0 0 := by
               refine go_eq (ls' := [vo 0 14 0, vi (nI (uR n D (k + 1))), vi (nI (k + 1)), vi (gI m (0, 15, 0) (nI k).toNatClampNeg)]) (by rw [nI_succ, uRs, hs, ← nI_add]; rfl) rfl (l_Se_unlikeRises18 h (k + 1) _ _ ⟨H.1.p0 (by omega), hE.p17, fun v hv => ?_⟩ hk2)
               rw [rd00, e2, saws]
               by_cases z : v = rs n D k
               · rw [if_pos ⟨rfl, rfl, z⟩, z]; simp [sat]
               · rw [if_neg (fun y => z y.2.2), H.2.2 v hv]; simp [Ne.symm z]
             exact key)
          | (have key : Go (cW d) i_Se_unlikeRises (0, 0) K 18 [vo 0 14 0, vi (nI (uR n D k)), vi (nI k + 1), vi (gI m (0, 15, 0) (nI k).toNatClampNeg)] [] m 0 0 := by
               refine go_eq (ls' := [vo 0 14 0, vi (nI (uR n D (k + 1))), vi (nI (k + 1)), vi (gI m (0, 15, 0) (nI k).toNatClampNeg)]) (by rw [nI_succ, uRs, hs]; rfl) rfl (l_Se_unlikeRises18 h (k + 1) _ _ ⟨H.1, hE, fun v hv => ?_⟩ hk2)
               rw [saws]
               by_cases z : v = rs n D k
               · rw [H.2.2 v hv, z, hs]; rfl
               · rw [H.2.2 v hv]; simp [Ne.symm z]
             exact key)
        · try dsimp only at c38
          have hs : saw n D k (rs n D k) = true := sat_t (by rw [e2, e3] at c38; exact c38)
          first
          | (have key : Go (cW d) i_Se_unlikeRises (0, 0) K 18 [vo 0 14 0, vi (nI (uR n D k) + 1), vi (nI k + 1), vi (gI m (0, 15, 0) (nI k).toNatClampNeg)] [] (pI m (0, 17, 0) (gI m (0, 15, 0) (nI k).toNatClampNeg).toNatClampNeg 1) 0 0 := by
               refine go_eq (ls' := [vo 0 14 0, vi (nI (uR n D (k + 1))), vi (nI (k + 1)), vi (gI m (0, 15, 0) (nI k).toNatClampNeg)]) (by rw [nI_succ, uRs, hs, ← nI_add]; rfl) rfl (l_Se_unlikeRises18 h (k + 1) _ _ ⟨H.1.p0 (by omega), hE.p17, fun v hv => ?_⟩ hk2)
               rw [rd00, e2, saws]
               by_cases z : v = rs n D k
               · rw [if_pos ⟨rfl, rfl, z⟩, z]; simp [sat]
               · rw [if_neg (fun y => z y.2.2), H.2.2 v hv]; simp [Ne.symm z]
             exact key)
          | (have key : Go (cW d) i_Se_unlikeRises (0, 0) K 18 [vo 0 14 0, vi (nI (uR n D k)), vi (nI k + 1), vi (gI m (0, 15, 0) (nI k).toNatClampNeg)] [] m 0 0 := by
               refine go_eq (ls' := [vo 0 14 0, vi (nI (uR n D (k + 1))), vi (nI (k + 1)), vi (gI m (0, 15, 0) (nI k).toNatClampNeg)]) (by rw [nI_succ, uRs, hs]; rfl) rfl (l_Se_unlikeRises18 h (k + 1) _ _ ⟨H.1, hE, fun v hv => ?_⟩ hk2)
               rw [saws]
               by_cases z : v = rs n D k
               · rw [H.2.2 v hv, z, hs]; rfl
               · rw [H.2.2 v hv]; simp [Ne.symm z]
             exact key)
termination_by 2 ^ n - k
decreasing_by all_goals omega

theorem l_Se_unlikeRises2 {d n : Nat} {D : SDt} {m0 : Mem} {K : Option Vv → Mem → Prop} (h : ∀ m, Fr m0 m → SeR n D m → K (some (vi (nI (uR n D (2 ^ n))))) m) (k : Nat) (m : Mem) (H : Fr m0 m ∧ SeR n D m ∧ ∀ v, v < k → gI m (0, 17, 0) v = 0) (hk : k ≤ 256) : Go (cW d) i_Se_unlikeRises (0, 0) K 2 [vo 0 14 0, vi (nI k), vu, vu] [] m 0 0 := by
  have hE := H.2.1
  have hR := hE.1.ok
  have e0 : (nI k).toNatClampNeg = k := nI_clamp (by omega)
  refine Go.runR (callT_mono MT _) [2, 18] 200 hR ?_
  refine And.intro ⟨(by first | decide | assumption | omega), (by first | decide | assumption | omega)⟩ ?_
  refine And.intro (fun c6 => ?_) (fun c6 => ?_)
  · try dsimp only at c6
    have hk2 := lq_e (n := 256) c6 rfl rfl hk (by omega)
    exact go_eq (ls' := [vo 0 14 0, vi (nI (uR n D 0)), vi (nI 0), vu]) rfl rfl (l_Se_unlikeRises18 h 0 m vu ⟨H.1, hE, fun v hv => H.2.2 v (by omega)⟩ (Nat.zero_le _))
  · try dsimp only at c6
    have hk2 := lq_m (n := 256) c6 rfl rfl hk (by omega)
    refine And.intro ⟨(by first | decide | assumption | omega), (by first | decide | assumption | omega)⟩ ?_
    refine And.intro (by exact vp_nI (k := k) (N := 256) (by omega) (by decide)) ?_
    refine go_eq (ls' := [vo 0 14 0, vi (nI (k + 1)), vu, vu]) (by rw [nI_succ]; rfl) rfl (l_Se_unlikeRises2 h (k + 1) _ ⟨H.1.p0 (by omega), hE.p17, fun v hv => ?_⟩ hk2)
    rw [rd00, e0]
    split
    · rfl
    · rename_i z
      exact H.2.2 v (by omega)
termination_by 256 - k
decreasing_by all_goals omega

theorem m_Se_unlikeRises {d n : Nat} {D : SDt} {m : Mem} {K : Option Vv → Mem → Prop} (hE : SeR n D m) (h : ∀ m', Fr m m' → SeR n D m' → K (some (vi (nI (uR n D (2 ^ n))))) m') : cW (d + 1) n_Se_unlikeRises [vo 0 14 0] m K := by
  have hR := hE.1.ok
  refine w_Se_unlikeRises (Go.runR (callT_mono MT _) [2] 200 hR ?_)
  exact go_eq (ls' := [vo 0 14 0, vi (nI 0), vu, vu]) rfl rfl (l_Se_unlikeRises2 h 0 m ⟨Fr.refl hR, hE, fun v hv => absurd hv (by omega)⟩ (by omega))

theorem l_M_rises26 {d n : Nat} {D : SDt} {m0 : Mem} {K : Option Vv → Mem → Prop} (hS0 : SC n D m0) (h : ∀ m, Fr m0 m → K (some (vi (nI (uR n D (2 ^ n))))) (askM m (nI (rs n D (2 ^ n - 1))))) (k : Nat) (m : Mem) (x : Vv) (H : Fr m0 m ∧ ∀ v, v < 160 → gI m (1, 15, 0) v = sat (saw n D k v)) (hk : k ≤ 2 ^ n) : Go (cW (d + 3)) i_M_rises (0, 0) K 26 [vo 1 0 0, vi (mu n D), vi (nI (uR n D k)), vi (nI (mxv n D k)), vi (nI k), x] [] m 0 0 := by
  have hS := H.1.sc hS0
  have hR := hS.ok
  have h8 := hS.le
  have bb2 := two_l n (by omega)
  have bb3 := two_p n
  have r0 := rsL hS k
  refine Go.runR (callT_mono MT _) [26] 200 hR ?_
  refine m_M_all (by exact hS)  (And.intro (by repeat' (first | exact hR | apply OKR.pI | apply OKR.pL | apply OKR.cpI | apply OKR.wI)) ?_)
  refine And.intro (fun c29 => ?_) (fun c29 => ?_)
  · try dsimp only at c29
    have hk2 := lq0 c29 rfl rfl bb3 hk (by omega)
    refine m_M_ask (by repeat' (first | exact hR | apply OKR.pI | apply OKR.pL | apply OKR.cpI | apply OKR.wI))  (And.intro (by repeat' (first | exact hR | apply OKR.pI | apply OKR.pL | apply OKR.cpI | apply OKR.wI)) ?_)
    refine And.intro trivial ?_
    rw [hk2, mx_top]; exact h m H.1
  · try dsimp only at c29
    have hk2 := lq1 c29 rfl rfl bb3 hk (by omega)
    have e2 : (nI (rs n D k)).toNatClampNeg = rs n D k := nI_clamp (by omega)
    have e3 := H.2 (rs n D k) (by omega)
    have mL := mx_le (n := n) (D := D) k
    have r1 := rsL hS (2 ^ n - 1)
    have i2 : nI (rs n D k) ≤ nI (mxv n D k) ↔ rs n D k ≤ mxv n D k := nI_leI (by omega) (by omega)
    have key : ∀ (m' : Mem) (a b : Int32) (y : Vv), m' = pI m (1, 15, 0) (nI (rs n D k)).toNatClampNeg 1 → a = nI (uR n D (k + 1)) → b = nI (mxv n D (k + 1)) → Go (cW (d + 3)) i_M_rises (0, 0) K 26 [vo 1 0 0, vi (mu n D), vi a, vi b, vi (nI k + 1), y] [] m' 0 0 := fun m' a b y z1 z2 z3 => by
      subst z1; subst z2; subst z3
      refine go_eq (by rw [← nI_succ]) rfl (l_M_rises26 hS0 h (k + 1) _ y ⟨H.1.p1 (by omega), fun v hv => ?_⟩ hk2)
      rw [rd11, e2, saws]
      by_cases z : v = rs n D k
      · rw [if_pos ⟨rfl, rfl, z⟩, z]; simp [sat]
      · rw [if_neg (fun y => z y.2.2), H.2 v hv]; simp [Ne.symm z]
    rw [uRs, mxs] at key
    refine m_M_ripples (by exact hS) (s := k &&& (255 ^^^ mN D n)) (by rw [muE D n (by omega)]; exact andnot (by omega) (Nat.lt_of_lt_of_le (mN_lt D n) bb2)) (and_lt256 (by omega)) (And.intro (by repeat' (first | exact hR | apply OKR.pI | apply OKR.pL | apply OKR.cpI | apply OKR.wI)) ?_)
    rw [rs_mute (by omega) (by omega)]
    refine And.intro ⟨rfl, rfl, rfl⟩ ?_
    refine And.intro (by exact vp_nI (k := rs n D k) (N := 160) (by omega) (by decide)) ?_
    refine And.intro (fun c43 => ?_) (fun c43 => ?_)
    · try dsimp only at c43
      have hs : saw n D k (rs n D k) = false := sat_f (by rw [e2, e3] at c43; exact c43)
      rw [hs] at key
      refine And.intro ⟨rfl, rfl, rfl⟩ ?_
      refine And.intro ⟨(by exact vp_nI (k := rs n D k) (N := 160) (by omega) (by decide)), (by first | exact Or.inl rfl | exact Or.inr rfl)⟩ ?_
      refine And.intro (fun c56 => ?_) (fun c56 => ?_)
      · try dsimp only at c56
        rw [if_neg (by have := i2.mp c56; omega : ¬ mxv n D k < rs n D k)] at key
        exact key _ _ _ _ rfl (by first | exact (nI_add _ _) | rfl) rfl
      · try dsimp only at c56
        rw [if_pos (by have := mt i2.mpr c56; omega : mxv n D k < rs n D k)] at key
        exact key _ _ _ _ rfl (by first | exact (nI_add _ _) | rfl) rfl
    · try dsimp only at c43
      have hs : saw n D k (rs n D k) = true := sat_t (by rw [e2, e3] at c43; exact c43)
      rw [hs] at key
      refine And.intro ⟨rfl, rfl, rfl⟩ ?_
      refine And.intro ⟨(by exact vp_nI (k := rs n D k) (N := 160) (by omega) (by decide)), (by first | exact Or.inl rfl | exact Or.inr rfl)⟩ ?_
      refine And.intro (fun c56 => ?_) (fun c56 => ?_)
      · try dsimp only at c56
        rw [if_neg (by have := i2.mp c56; omega : ¬ mxv n D k < rs n D k)] at key
        exact key _ _ _ _ rfl (by first | exact (nI_add _ _) | rfl) rfl
      · try dsimp only at c56
        rw [if_pos (by have := mt i2.mpr c56; omega : mxv n D k < rs n D k)] at key
        exact key _ _ _ _ rfl (by first | exact (nI_add _ _) | rfl) rfl
termination_by 2 ^ n - k
decreasing_by all_goals omega

theorem l_M_rises7 {d n : Nat} {D : SDt} {m0 : Mem} {K : Option Vv → Mem → Prop} (hS0 : SC n D m0) (h : ∀ m, Fr m0 m → K (some (vi (nI (uR n D (2 ^ n))))) (askM m (nI (rs n D (2 ^ n - 1))))) (k : Nat) (m : Mem) (H : Fr m0 m ∧ ∀ v, v < k → gI m (1, 15, 0) v = 0) (hk : k ≤ 160) : Go (cW (d + 3)) i_M_rises (0, 0) K 7 [vo 1 0 0, vi (nI k), vu, vu, vu, vu] [] m 0 0 := by
  have hS := H.1.sc hS0
  have hR := hS.ok
  have e0 : (nI k).toNatClampNeg = k := nI_clamp (by omega)
  refine Go.runR (callT_mono MT _) [7, 26] 200 hR ?_
  refine And.intro (fun c9 => ?_) (fun c9 => ?_)
  · try dsimp only at c9
    have hk2 := lq_e (n := 160) c9 rfl rfl hk (by omega)
    refine m_M_mutes (by exact hS)  (And.intro (by repeat' (first | exact hR | apply OKR.pI | apply OKR.pL | apply OKR.cpI | apply OKR.wI)) ?_)
    exact go_eq (ls' := [vo 1 0 0, vi (mu n D), vi (nI (uR n D 0)), vi (nI (mxv n D 0)), vi (nI 0), vu]) rfl rfl (l_M_rises26 hS0 h 0 m vu ⟨H.1, fun v hv => H.2 v (by omega)⟩ (Nat.zero_le _))
  · try dsimp only at c9
    have hk2 := lq_m (n := 160) c9 rfl rfl hk (by omega)
    refine And.intro ⟨rfl, rfl, rfl⟩ ?_
    refine And.intro ⟨(by exact vp_nI (k := k) (N := 160) (by omega) (by decide)), (by first | exact Or.inl rfl | exact Or.inr rfl)⟩ ?_
    refine go_eq (ls' := [vo 1 0 0, vi (nI (k + 1)), vu, vu, vu, vu]) (by rw [nI_succ]; rfl) rfl (l_M_rises7 hS0 h (k + 1) _ ⟨H.1.p1 (by omega), fun v hv => ?_⟩ hk2)
    rw [rd11, e0]
    split
    · rfl
    · rename_i z
      exact H.2 v (by omega)
termination_by 160 - k
decreasing_by all_goals omega

theorem p_rises {d : Nat} {m : Mem} {K : Option Vv → Option Vv → Mem → Prop} (R : RelAB m) (h : ∀ v m', RelAB m' → K v v m') : cW (d + 6) n_X_rises [vo 0 0 0] m (fun u m1 => cW (d + 6) n_M_rises [vo 1 0 0] m1 (fun w m2 => K u w m2)) := by
  have hR := R.1
  obtain ⟨n, hc⟩ := R.2.2.2.2
  obtain ⟨D, hS⟩ := hc.sc hR
  have ht := R.2.2.2.1
  obtain ⟨q1, q2⟩ := hc.many
  have h8 := hc.le
  have hz : gI m (0, 15, 0) 0 = 0 ∧ gI m (0, 16, 0) 0 = 0 := ht.2.2.2.2.2
  rcases Nat.eq_zero_or_pos n with z | z
  · subst z
    refine w_X_rises (Go.runR (callT_mono MT _) [] 200 (by repeat' (first | exact hR | exact g1.ok | exact g2.ok | exact g3.ok | apply OKR.pI | apply OKR.pL | apply OKR.cpI | apply OKR.wI)) ?_)
    refine And.intro ⟨(by first | decide | assumption | omega), (by first | decide | assumption | omega)⟩ ?_
    refine And.intro (fun c3 => ?_) (fun c3 => ?_)
    · try dsimp only at c3
      refine And.intro trivial ?_
      refine w_M_rises (Go.runR (callT_mono MT _) [7] 200 (by repeat' (first | exact hR | exact g1.ok | exact g2.ok | exact g3.ok | apply OKR.pI | apply OKR.pL | apply OKR.cpI | apply OKR.wI)) ?_)
      refine And.intro (fun c2 => ?_) (fun c2 => ?_)
      · try dsimp only at c2
        refine And.intro trivial ?_
        exact h _ _ R
      · exact absurd q2 c2
    · exact absurd q1 c3
  · refine w_X_rises (Go.runR (callT_mono MT _) [] 200 (by repeat' (first | exact hR | exact g1.ok | exact g2.ok | exact g3.ok | apply OKR.pI | apply OKR.pL | apply OKR.cpI | apply OKR.wI)) ?_)
    refine And.intro ⟨(by first | decide | assumption | omega), (by first | decide | assumption | omega)⟩ ?_
    refine And.intro (fun c3 => ?_) (fun c3 => ?_)
    · exact absurd (q1.symm.trans c3) (sz0 z (by omega))
    · try dsimp only at c3
      refine And.intro ⟨(by first | decide | assumption | omega), (by first | decide | assumption | omega)⟩ ?_
      refine And.intro ⟨(by first | decide | assumption | omega), (by first | decide | assumption | omega)⟩ ?_
      refine m_Se_lookAt (by exact hS) hz (fun m1 g1 hE => And.intro g1.ok ?_)
      refine And.intro ⟨(by first | decide | assumption | omega), (by first | decide | assumption | omega)⟩ ?_
      refine m_Se_greatestRise hE  (And.intro (by repeat' (first | exact hR | exact g1.ok | exact g2.ok | exact g3.ok | apply OKR.pI | apply OKR.pL | apply OKR.cpI | apply OKR.wI)) ?_)
      refine And.intro ⟨(by first | decide | assumption | omega), (by first | decide | assumption | omega)⟩ ?_
      refine m_Se_unlikeRises hE (fun m2 g2 hE2 => And.intro g2.ok ?_)
      refine m_X_tell (by repeat' (first | exact hR | exact g1.ok | exact g2.ok | exact g3.ok | apply OKR.pI | apply OKR.pL | apply OKR.cpI | apply OKR.wI))  (And.intro (by repeat' (first | exact hR | exact g1.ok | exact g2.ok | exact g3.ok | apply OKR.pI | apply OKR.pL | apply OKR.cpI | apply OKR.wI)) ?_)
      refine And.intro trivial ?_
      refine w_M_rises (Go.runR (callT_mono MT _) [7] 200 (by repeat' (first | exact hR | exact g1.ok | exact g2.ok | exact g3.ok | apply OKR.pI | apply OKR.pL | apply OKR.cpI | apply OKR.wI)) ?_)
      refine And.intro (fun c2 => ?_) (fun c2 => ?_)
      · exact absurd (hE2.1.tell.nB.symm.trans c2) (sz0 z (by omega))
      · try dsimp only at c2
        exact l_M_rises7 hE2.1.tell (fun m3 g3 => h _ _ (R.tell2 (g1.trans g2) g3)) 0 _ ⟨Fr.refl (by repeat' (first | exact hR | exact g1.ok | exact g2.ok | exact g3.ok | apply OKR.pI | apply OKR.pL | apply OKR.cpI | apply OKR.wI)), fun v hv => absurd hv (by omega)⟩ (by omega)
