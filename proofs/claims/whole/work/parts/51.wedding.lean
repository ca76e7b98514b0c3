/-! Written by a program (wip/whole/p51.py): wedding. -/
def su (f : Nat → Int32) (k s : Nat) : Int32 := itr (fun i a => a + if s.testBit i = true then f i else 0) 0 k
theorem su_s1 {f : Nat → Int32} {k s : Nat} (h : s.testBit k = true) : su f (k + 1) s = su f k s + f k := by unfold su; rw [itS, if_pos h]
theorem su_s0 {f : Nat → Int32} {k s : Nat} (h : ¬ s.testBit k = true) : su f (k + 1) s = su f k s := by unfold su; rw [itS, if_neg h]; exact i_add0 _
theorem su_lo {f : Nat → Int32} {k s : Nat} (h : s < 2 ^ k) : su f (k + 1) s = su f k s := su_s0 (by rw [Nat.testBit_lt_two_pow h]; decide)
theorem su_cg {f : Nat → Int32} {s t : Nat} : ∀ {k : Nat}, (∀ i, i < k → s.testBit i = t.testBit i) → su f k s = su f k t
  | 0, _ => rfl
  | k + 1, h => by
    have := su_cg (f := f) (k := k) fun i hi => h i (by omega)
    unfold su at *
    rw [itS, itS, this, h k (by omega)]
theorem su_hi {f : Nat → Int32} {k s : Nat} (h : s < 2 ^ k) : su f (k + 1) (2 ^ k + s) = su f k s + f k := by
  rw [su_s1 (tb_add h).2, su_cg (tb_add h).1]
theorem su_step {f g : Nat → Int32} {k : Nat} (H : ∀ s, s < 2 ^ k → g s = su f k s) : ∀ s, s < 2 ^ (k + 1) → adF g k (2 ^ k) (f k) s = su f (k + 1) s := fun s hs => by
  unfold adF
  rw [Nat.pow_succ] at hs
  split
  · rename_i z
    rw [H (s - 2 ^ k) (by omega)]
    have := su_hi (f := f) (k := k) (s := s - 2 ^ k) (by omega)
    rw [show 2 ^ k + (s - 2 ^ k) = s by omega] at this
    rw [this]
  · rw [H s (by omega), su_lo (by omega)]
theorem SeR.s16 {n : Nat} {D : SDt} {m : Mem} (H : SeR n D m) {i k : Nat} {v : Int32} : SeR n D (sI m (0, 16, 0) (adF (gI m (0, 16, 0)) i k v)) :=
  ⟨((Fr.refl H.1.ok).s0 (Or.inr (Or.inr ⟨Or.inr rfl, adFz _ _ _ _⟩))).sc H.1, H.2.1, H.2.2.1, H.2.2.2.1, H.2.2.2.2.1, (adFz _ _ _ _).trans H.2.2.2.2.2⟩
def ssF (D : SDt) (i : Nat) : Int32 := nI (sn D i)
def woF (n : Nat) (D : SDt) (v : Int32) (s : Nat) (a : Option Nat) : Option Nat := match a with
  | none => if v ≤ su (ssF D) n s then some s else none
  | some b => if v ≤ su (ssF D) n s ∧ rs n D s < rs n D b then some s else some b
def woN (n : Nat) (D : SDt) (v : Int32) (k : Nat) : Option Nat := itr (woF n D v) none k
theorem wos (n : Nat) (D : SDt) (v : Int32) (k : Nat) : woN n D v (k + 1) = woF n D v k (woN n D v k) := rfl
theorem wo_skip {n : Nat} {D : SDt} {v : Int32} {k : Nat} (h : ¬ v ≤ su (ssF D) n k) : woN n D v (k + 1) = woN n D v k := by
  rw [wos]
  cases woN n D v k with
  | none => exact if_neg h
  | some b => exact if_neg (fun z => h z.1)
theorem wo_new {n : Nat} {D : SDt} {v : Int32} {k : Nat} (h : v ≤ su (ssF D) n k) (z : woN n D v k = none) : woN n D v (k + 1) = some k := by
  rw [wos, z]
  exact if_pos h
theorem wo_less {n : Nat} {D : SDt} {v : Int32} {k b : Nat} (h : v ≤ su (ssF D) n k) (z : woN n D v k = some b) (y : rs n D k < rs n D b) : woN n D v (k + 1) = some k := by
  rw [wos, z]
  exact if_pos ⟨h, y⟩
theorem wo_keep {n : Nat} {D : SDt} {v : Int32} {k b : Nat} (z : woN n D v k = some b) (y : ¬ rs n D k < rs n D b) : woN n D v (k + 1) = some b := by
  rw [wos, z]
  exact if_neg (fun x => y x.2)
def WoA (n : Nat) (D : SDt) (v : Int32) (k : Nat) (a : Int32) : Prop := (woN n D v k = none ∧ a = -1) ∨ ∃ b, b < k ∧ woN n D v k = some b ∧ a = nI b
def WoB (n : Nat) (D : SDt) (v : Int32) (k : Nat) (a l : Int32) : Prop := (woN n D v k = none ∧ a = -9) ∨ ∃ b, b < k ∧ woN n D v k = some b ∧ a = nI b ∧ l = nI (rs n D b)

theorem l_Se_cheapest21 {d n : Nat} {D : SDt} {m : Mem} {K : Option Vv → Mem → Prop} {v : Int32} (hE : SeR n D m) (hs : ∀ s, s < 2 ^ n → gI m (0, 16, 0) s = su (ssF D) n s) (h : ∀ a, WoA n D v (2 ^ n) a → K (some (vi a)) m) (k : Nat) (a : Int32) (H : WoA n D v k a) (hk : k ≤ 2 ^ n) : Go (cW d) i_Se_cheapestSounding (0, 0) K 21 [vo 0 14 0, vo 0 5 0, vi v, vi a, vi (nI k)] [] m 0 0 := by
  have hR := hE.1.ok
  have h8 := hE.1.le
  have q1 : gI m (0, 14, 0) 3 = nI (2 ^ n) := hE.2.1
  have bb2 := two_l n (by omega)
  have r0 := rsL hE.1 k
  refine Go.runR (callT_mono MT _) [21] 200 hR ?_
  refine And.intro (fun c24 => ?_) (fun c24 => ?_)
  · try dsimp only at c24
    have hk2 := lq_e c24 q1 rfl hk (by omega)
    refine And.intro trivial ?_
    rw [hk2] at H; exact h a H
  · try dsimp only at c24
    have hk2 := lq_m c24 q1 rfl hk (by omega)
    have e0 : (nI k).toNatClampNeg = k := nI_clamp (by omega)
    have e1 : gI m (0, 15, 0) (nI k).toNatClampNeg = nI (rs n D k) := by rw [e0]; exact hE.2.2.2.2.1 k hk2
    have e2 : gI m (0, 16, 0) (nI k).toNatClampNeg = su (ssF D) n k := by rw [e0]; exact hs k hk2
    have key : ∀ a', WoA n D v (k + 1) a' → Go (cW d) i_Se_cheapestSounding (0, 0) K 21 [vo 0 14 0, vo 0 5 0, vi v, vi a', vi (nI k + 1)] [] m 0 0 := fun a' z => go_eq (by rw [← nI_succ]) rfl (l_Se_cheapest21 hE hs h (k + 1) a' z hk2)
    refine And.intro ⟨(by first | decide | assumption | omega), (by first | decide | assumption | omega)⟩ ?_
    refine And.intro (vp_nI (k := k) (N := 256) (by omega) (by decide)) ?_
    refine And.intro (fun c30 => ?_) (fun c30 => ?_)
    · try dsimp only at c30
      rw [e2] at c30
      first
      | exact key _ (by
          have e := wo_skip (Int32.not_le.mpr c30)
          rcases H with z | ⟨b, y1, y2, y3⟩
          · exact Or.inl ⟨e.trans z.1, z.2⟩
          · exact Or.inr ⟨b, by omega, e.trans y2, y3⟩)
      | exact key _ (Or.inr ⟨b, by omega, wo_keep y2 (by omega), rfl⟩)
      | exact key _ (Or.inr ⟨k, by omega, wo_less c30 y2 (by omega), rfl⟩)
      | exact key _ (Or.inr ⟨k, by omega, wo_new c30 z, rfl⟩)
    · try dsimp only at c30
      rw [e2] at c30
      have c30 := Int32.not_lt.mp c30
      refine And.intro (fun c32 => ?_) (fun c32 => ?_)
      · try dsimp only at c32
        have z := (H.resolve_right (fun ⟨b, y1, y2, y3⟩ => by rw [y3] at c32; exact nI_pos (by omega) c32)).1
        first
        | exact key _ (by
            have e := wo_skip (Int32.not_le.mpr c30)
            rcases H with z | ⟨b, y1, y2, y3⟩
            · exact Or.inl ⟨e.trans z.1, z.2⟩
            · exact Or.inr ⟨b, by omega, e.trans y2, y3⟩)
        | exact key _ (Or.inr ⟨b, by omega, wo_keep y2 (by omega), rfl⟩)
        | exact key _ (Or.inr ⟨k, by omega, wo_less c30 y2 (by omega), rfl⟩)
        | exact key _ (Or.inr ⟨k, by omega, wo_new c30 z, rfl⟩)
      · try dsimp only at c32
        obtain ⟨b, y1, y2, rfl⟩ := H.resolve_left (fun z => by rw [z.2] at c32; exact c32 (by decide))
        have f0 : (nI b).toNatClampNeg = b := nI_clamp (by omega)
        have f1 : gI m (0, 15, 0) (nI b).toNatClampNeg = nI (rs n D b) := by rw [f0]; exact hE.2.2.2.2.1 b (by omega)
        have r1 := rsL hE.1 b
        have i1 : nI (rs n D b) ≤ nI (rs n D k) ↔ rs n D b ≤ rs n D k := nI_leI (by omega) (by omega)
        refine And.intro ⟨(by first | decide | assumption | omega), (by first | decide | assumption | omega)⟩ ?_
        refine And.intro (vp_nI (k := k) (N := 256) (by omega) (by decide)) ?_
        refine And.intro ⟨(by first | decide | assumption | omega), (by first | decide | assumption | omega)⟩ ?_
        refine And.intro (vp_nI (k := b) (N := 256) (by omega) (by decide)) ?_
        refine And.intro (fun c41 => ?_) (fun c41 => ?_)
        · try dsimp only at c41
          have z := i1.mp (by rw [← f1, ← e1]; exact c41)
          first
          | exact key _ (by
              have e := wo_skip (Int32.not_le.mpr c30)
              rcases H with z | ⟨b, y1, y2, y3⟩
              · exact Or.inl ⟨e.trans z.1, z.2⟩
              · exact Or.inr ⟨b, by omega, e.trans y2, y3⟩)
          | exact key _ (Or.inr ⟨b, by omega, wo_keep y2 (by omega), rfl⟩)
          | exact key _ (Or.inr ⟨k, by omega, wo_less c30 y2 (by omega), rfl⟩)
          | exact key _ (Or.inr ⟨k, by omega, wo_new c30 z, rfl⟩)
        · try dsimp only at c41
          have z := mt i1.mpr (by rw [← f1, ← e1]; exact c41)
          first
          | exact key _ (by
              have e := wo_skip (Int32.not_le.mpr c30)
              rcases H with z | ⟨b, y1, y2, y3⟩
              · exact Or.inl ⟨e.trans z.1, z.2⟩
              · exact Or.inr ⟨b, by omega, e.trans y2, y3⟩)
          | exact key _ (Or.inr ⟨b, by omega, wo_keep y2 (by omega), rfl⟩)
          | exact key _ (Or.inr ⟨k, by omega, wo_less c30 y2 (by omega), rfl⟩)
          | exact key _ (Or.inr ⟨k, by omega, wo_new c30 z, rfl⟩)
termination_by 2 ^ n - k
decreasing_by all_goals omega

theorem l_Se_cheapest2 {d n : Nat} {D : SDt} {m0 : Mem} {K : Option Vv → Mem → Prop} {v : Int32} (h : ∀ m a, Fr m0 m → SeR n D m → WoA n D v (2 ^ n) a → K (some (vi a)) m) (k : Nat) (m : Mem) (H : Fr m0 m ∧ SeR n D m ∧ ∀ s, s < 2 ^ k → gI m (0, 16, 0) s = su (ssF D) k s) (hk : k ≤ n) : Go (cW (d + 1)) i_Se_cheapestSounding (0, 0) K 2 [vo 0 14 0, vo 0 5 0, vi v, vi (nI k), vu] [] m 0 0 := by
  have hE := H.2.1
  have hR := hE.1.ok
  have h8 := hE.1.le
  have q1 : gI m (0, 14, 0) 4 = nI n := hE.2.2.1
  have e0 : (nI k).toNatClampNeg = k := nI_clamp (by omega)
  refine Go.runR (callT_mono MT _) [2, 21] 200 hR ?_
  refine And.intro (fun c5 => ?_) (fun c5 => ?_)
  · try dsimp only at c5
    have hk2 := lq_e c5 q1 rfl hk (by omega)
    rw [hk2] at H
    exact go_eq (ls' := [vo 0 14 0, vo 0 5 0, vi v, vi (-1), vi (nI 0)]) rfl rfl (l_Se_cheapest21 hE H.2.2 (fun a z => h m a H.1 hE z) 0 (-1) (Or.inl ⟨rfl, rfl⟩) (Nat.zero_le _))
  · try dsimp only at c5
    have hk2 := lq_m c5 q1 rfl hk (by omega)
    refine And.intro ⟨(by first | decide | assumption | omega), (by first | decide | assumption | omega)⟩ ?_
    refine And.intro ⟨(by first | decide | assumption | omega), (by first | decide | assumption | omega)⟩ ?_
    refine And.intro ⟨(vp_nI (k := k) (N := 8) (by omega) (by decide)), ⟨(by decide), by rw [e0]; omega⟩⟩ ?_
    refine m_Ho_sound (by exact hE.1) (i := k) (by rw [e0]; omega) hk2 (And.intro (by repeat' (first | exact hR | apply OKR.pI | apply OKR.pL | apply OKR.cpI | apply OKR.wI)) ?_)
    refine m_Se_addHouse16 (by repeat' (first | exact hR | apply OKR.pI | apply OKR.pL | apply OKR.cpI | apply OKR.wI)) rfl (by omega) (And.intro (by repeat' (first | exact hR | apply OKR.wI | apply OKR.pI)) ?_)
    refine go_eq (ls' := [vo 0 14 0, vo 0 5 0, vi v, vi (nI (k + 1)), vu]) (by rw [nI_succ]; rfl) rfl (l_Se_cheapest2 h (k + 1) _ ⟨H.1.s0 (Or.inr (Or.inr ⟨Or.inr rfl, adFz _ _ _ _⟩)), hE.s16, fun s hs => ?_⟩ hk2)
    rw [sI00, if_pos ⟨rfl, rfl⟩]
    exact su_step H.2.2 s hs
termination_by n - k
decreasing_by all_goals omega

theorem m_Se_cheapestSounding {d n : Nat} {D : SDt} {m : Mem} {K : Option Vv → Mem → Prop} {v : Int32} (hE : SeR n D m) (h : ∀ m' a, Fr m m' → SeR n D m' → WoA n D v (2 ^ n) a → K (some (vi a)) m') : cW (d + 2) n_Se_cheapestSounding [vo 0 14 0, vo 0 5 0, vi v] m K := by
  have hR := hE.1.ok
  refine w_Se_cheapestSounding (Go.runR (callT_mono MT _) [2] 200 hR ?_)
  refine go_eq (ls' := [vo 0 14 0, vo 0 5 0, vi v, vi (nI 0), vu]) rfl rfl (l_Se_cheapest2 h 0 m ⟨Fr.refl hR, hE, fun s hs => ?_⟩ (Nat.zero_le _))
  obtain rfl : s = 0 := by omega
  exact hE.2.2.2.2.2

theorem m_Se_ripplesOf {d n : Nat} {D : SDt} {m : Mem} {K : Option Vv → Mem → Prop} {u : Int32} {s : Nat} (hE : SeR n D m) (hu : u = nI s) (hs : s < 2 ^ n) (h : K (some (vi (nI (rs n D s)))) m) : cW (d + 1) n_Se_ripplesOf [vo 0 14 0, vi u] m K := by
  subst hu
  have hR := hE.1.ok
  have h8 := hE.1.le
  have bb2 := two_l n (by omega)
  have q1 : gI m (0, 14, 0) 3 = nI (2 ^ n) := hE.2.1
  refine w_Se_ripplesOf (Go.runR (callT_mono MT _) [] 200 hR ?_)
  refine And.intro (fun c1 => ?_) (fun c1 => ?_)
  · exact absurd c1 (nI_pos (by omega))
  · try dsimp only at c1
    refine And.intro (fun c5 => ?_) (fun c5 => ?_)
    · exact absurd c5 (by show ¬ gI m (0, 14, 0) 3 ≤ nI s; rw [q1]; exact nI_ge hs (by omega))
    · try dsimp only at c5
      refine And.intro ⟨(by first | decide | assumption | omega), (by first | decide | assumption | omega)⟩ ?_
      refine And.intro (vp_nI (k := s) (N := 256) (by omega) (by decide)) ?_
      refine And.intro trivial ?_
      exact kvi (by show gI m (0, 15, 0) (nI s).toNatClampNeg = _; rw [nI_clamp (by omega)]; exact hE.2.2.2.2.1 s hs) h

theorem l_M_wedding19 {d n : Nat} {D : SDt} {m : Mem} {K : Option Vv → Mem → Prop} {v a l : Int32} {k : Nat} {y : Vv} (hS : SC n D m) (hk : k < 256) (h : Go (cW (d + 1)) i_M_wedding (0, 0) K 37 [vo 1 0 0, vi v, vi a, vi l, vi (nI k), vi (su (ssF D) n k), vi (nI n), y] [] m 0 0) (j : Nat) (hj : j ≤ n) : Go (cW (d + 1)) i_M_wedding (0, 0) K 19 [vo 1 0 0, vi v, vi a, vi l, vi (nI k), vi (su (ssF D) j k), vi (nI j), y] [] m 0 0 := by
  have hR := hS.ok
  have h8 := hS.le
  have q2 := hS.nB
  refine Go.runR (callT_mono MT _) [19, 37] 200 hR ?_
  refine And.intro (fun c22 => ?_) (fun c22 => ?_)
  · try dsimp only at c22
    have hj2 := lq_e c22 q2 rfl hj (by omega)
    subst hj2
    exact h
  · try dsimp only at c22
    have hj2 := lq_m c22 q2 rfl hj (by omega)
    have key : ∀ b, b = su (ssF D) (j + 1) k → Go (cW (d + 1)) i_M_wedding (0, 0) K 19 [vo 1 0 0, vi v, vi a, vi l, vi (nI k), vi b, vi (nI j + 1), y] [] m 0 0 := fun b z => by
      subst z
      exact go_eq (by rw [← nI_succ]) rfl (l_M_wedding19 hS hk h (j + 1) hj2)
    have key := key
    refine m_M_has (by repeat' (first | exact hR | apply OKR.pI | apply OKR.pL | apply OKR.cpI | apply OKR.wI)) (s := k) (i := j) rfl rfl hk (by omega) (And.intro (by repeat' (first | exact hR | apply OKR.pI | apply OKR.pL | apply OKR.cpI | apply OKR.wI)) ?_)
    refine And.intro (fun c27 => ?_) (fun c27 => ?_)
    · try dsimp only at c27
      exact key _ (by first | (rw [su_s1 (tb_n0 c27)]; rfl) | (rw [su_s0 (tb_e0 c27)]; exact i_add0 _))
    · try dsimp only at c27
      refine m_M_soundOf (by exact hS) rfl hj2 (And.intro (by repeat' (first | exact hR | apply OKR.pI | apply OKR.pL | apply OKR.cpI | apply OKR.wI)) ?_)
      exact key _ (by first | (rw [su_s1 (tb_n0 c27)]; rfl) | (rw [su_s0 (tb_e0 c27)]; exact i_add0 _))
termination_by n - j
decreasing_by all_goals omega

theorem l_M_wedding11 {d n : Nat} {D : SDt} {m : Mem} {K : Option Vv → Mem → Prop} {v : Int32} (hS : SC n D m) (h0 : woN n D v (2 ^ n) = none → K (some (vi (-9))) m) (h1 : ∀ b, b < 2 ^ n → woN n D v (2 ^ n) = some b → K (some (vi (nI (rs n D b)))) (askM m (nI b))) (k : Nat) (a l : Int32) (x y z : Vv) (H : WoB n D v k a l) (hk : k ≤ 2 ^ n) : Go (cW (d + 3)) i_M_wedding (0, 0) K 11 [vo 1 0 0, vi v, vi a, vi l, vi (nI k), x, y, z] [] m 0 0 := by
  have hR := hS.ok
  have h8 := hS.le
  have bb2 := two_l n (by omega)
  have bb3 := two_p n
  have r0 := rsL hS k
  refine Go.runR (callT_mono MT _) [11, 19] 200 hR ?_
  refine m_M_all (by exact hS)  (And.intro (by repeat' (first | exact hR | apply OKR.pI | apply OKR.pL | apply OKR.cpI | apply OKR.wI)) ?_)
  refine And.intro (fun c14 => ?_) (fun c14 => ?_)
  · try dsimp only at c14
    have hk2 := lq0 c14 rfl rfl bb3 hk (by omega)
    refine And.intro (fun c70 => ?_) (fun c70 => ?_)
    · try dsimp only at c70
      refine And.intro trivial ?_
      rw [hk2] at H
      first
      | exact h0 ((H.resolve_right (fun ⟨b, y1, y2, y3, _⟩ => by rw [y3] at c70; exact m9 (by omega) c70)).1)
      | (obtain ⟨b, y1, y2, rfl, rfl⟩ := H.resolve_left (fun z => c70 z.2)
         exact h1 b y1 y2)
    · try dsimp only at c70
      refine m_M_ask (by repeat' (first | exact hR | apply OKR.pI | apply OKR.pL | apply OKR.cpI | apply OKR.wI))  (And.intro (by repeat' (first | exact hR | apply OKR.pI | apply OKR.pL | apply OKR.cpI | apply OKR.wI)) ?_)
      refine And.intro trivial ?_
      rw [hk2] at H
      first
      | exact h0 ((H.resolve_right (fun ⟨b, y1, y2, y3, _⟩ => by rw [y3] at c70; exact m9 (by omega) c70)).1)
      | (obtain ⟨b, y1, y2, rfl, rfl⟩ := H.resolve_left (fun z => c70 z.2)
         exact h1 b y1 y2)
  · try dsimp only at c14
    have hk2 := lq1 c14 rfl rfl bb3 hk (by omega)
    refine go_eq (ls' := [vo 1 0 0, vi v, vi a, vi l, vi (nI k), vi (su (ssF D) 0 k), vi (nI 0), z]) rfl rfl (l_M_wedding19 (d := d + 2) hS (by omega) ?_ 0 (Nat.zero_le _))
    have key : ∀ (a' l' : Int32) (x' y' z' : Vv), WoB n D v (k + 1) a' l' → Go (cW (d + 3)) i_M_wedding (0, 0) K 11 [vo 1 0 0, vi v, vi a', vi l', vi (nI k + 1), x', y', z'] [] m 0 0 := fun a' l' x' y' z' w => go_eq (by rw [← nI_succ]) rfl (l_M_wedding11 hS h0 h1 (k + 1) a' l' x' y' z' w hk2)
    refine Go.runR (callT_mono MT _) [11] 200 hR ?_
    refine m_M_ripples (by exact hS) rfl (by omega) (And.intro (by repeat' (first | exact hR | apply OKR.pI | apply OKR.pL | apply OKR.cpI | apply OKR.wI)) ?_)
    refine And.intro (fun c43 => ?_) (fun c43 => ?_)
    · try dsimp only at c43
      refine And.intro (fun c55 => ?_) (fun c55 => ?_)
      · try dsimp only at c55
        refine And.intro (fun c61 => ?_) (fun c61 => ?_)
        · try dsimp only at c61
          first
          | exact absurd c55 (by decide)
          | exact absurd rfl c55
          | exact absurd c61 (by decide)
          | exact absurd rfl c61
          | exact key _ _ _ _ _ (by
              have e := wo_skip (Int32.not_le.mpr c43)
              rcases H with z | ⟨b, y1, y2, y3⟩
              · exact Or.inl ⟨e.trans z.1, z.2⟩
              · exact Or.inr ⟨b, by omega, e.trans y2, y3⟩)
          | exact key _ _ _ _ _ (Or.inr ⟨b, by omega, wo_keep y2 (by omega), rfl, rfl⟩)
          | exact key _ _ _ _ _ (Or.inr ⟨k, by omega, wo_less c43 y2 (by omega), rfl, rfl⟩)
          | exact key _ _ _ _ _ (Or.inr ⟨k, by omega, wo_new c43 z, rfl, rfl⟩)
        · try dsimp only at c61
          first
          | exact absurd c55 (by decide)
          | exact absurd rfl c55
          | exact absurd c61 (by decide)
          | exact absurd rfl c61
          | exact key _ _ _ _ _ (by
              have e := wo_skip (Int32.not_le.mpr c43)
              rcases H with z | ⟨b, y1, y2, y3⟩
              · exact Or.inl ⟨e.trans z.1, z.2⟩
              · exact Or.inr ⟨b, by omega, e.trans y2, y3⟩)
          | exact key _ _ _ _ _ (Or.inr ⟨b, by omega, wo_keep y2 (by omega), rfl, rfl⟩)
          | exact key _ _ _ _ _ (Or.inr ⟨k, by omega, wo_less c43 y2 (by omega), rfl, rfl⟩)
          | exact key _ _ _ _ _ (Or.inr ⟨k, by omega, wo_new c43 z, rfl, rfl⟩)
      · try dsimp only at c55
        refine And.intro (fun c61 => ?_) (fun c61 => ?_)
        · try dsimp only at c61
          first
          | exact absurd c55 (by decide)
          | exact absurd rfl c55
          | exact absurd c61 (by decide)
          | exact absurd rfl c61
          | exact key _ _ _ _ _ (by
              have e := wo_skip (Int32.not_le.mpr c43)
              rcases H with z | ⟨b, y1, y2, y3⟩
              · exact Or.inl ⟨e.trans z.1, z.2⟩
              · exact Or.inr ⟨b, by omega, e.trans y2, y3⟩)
          | exact key _ _ _ _ _ (Or.inr ⟨b, by omega, wo_keep y2 (by omega), rfl, rfl⟩)
          | exact key _ _ _ _ _ (Or.inr ⟨k, by omega, wo_less c43 y2 (by omega), rfl, rfl⟩)
          | exact key _ _ _ _ _ (Or.inr ⟨k, by omega, wo_new c43 z, rfl, rfl⟩)
        · try dsimp only at c61
          first
          | exact absurd c55 (by decide)
          | exact absurd rfl c55
          | exact absurd c61 (by decide)
          | exact absurd rfl c61
          | exact key _ _ _ _ _ (by
              have e := wo_skip (Int32.not_le.mpr c43)
              rcases H with z | ⟨b, y1, y2, y3⟩
              · exact Or.inl ⟨e.trans z.1, z.2⟩
              · exact Or.inr ⟨b, by omega, e.trans y2, y3⟩)
          | exact key _ _ _ _ _ (Or.inr ⟨b, by omega, wo_keep y2 (by omega), rfl, rfl⟩)
          | exact key _ _ _ _ _ (Or.inr ⟨k, by omega, wo_less c43 y2 (by omega), rfl, rfl⟩)
          | exact key _ _ _ _ _ (Or.inr ⟨k, by omega, wo_new c43 z, rfl, rfl⟩)
    · try dsimp only at c43
      have c43 := Int32.not_lt.mp c43
      refine And.intro (fun c46 => ?_) (fun c46 => ?_)
      · try dsimp only at c46
        have z := (H.resolve_right (fun ⟨b, y1, y2, y3, _⟩ => by rw [y3] at c46; exact m9 (by omega) c46)).1
        refine And.intro (fun c55 => ?_) (fun c55 => ?_)
        · try dsimp only at c55
          refine And.intro (fun c61 => ?_) (fun c61 => ?_)
          · try dsimp only at c61
            first
            | exact absurd c55 (by decide)
            | exact absurd rfl c55
            | exact absurd c61 (by decide)
            | exact absurd rfl c61
            | exact key _ _ _ _ _ (by
                have e := wo_skip (Int32.not_le.mpr c43)
                rcases H with z | ⟨b, y1, y2, y3⟩
                · exact Or.inl ⟨e.trans z.1, z.2⟩
                · exact Or.inr ⟨b, by omega, e.trans y2, y3⟩)
            | exact key _ _ _ _ _ (Or.inr ⟨b, by omega, wo_keep y2 (by omega), rfl, rfl⟩)
            | exact key _ _ _ _ _ (Or.inr ⟨k, by omega, wo_less c43 y2 (by omega), rfl, rfl⟩)
            | exact key _ _ _ _ _ (Or.inr ⟨k, by omega, wo_new c43 z, rfl, rfl⟩)
          · try dsimp only at c61
            first
            | exact absurd c55 (by decide)
            | exact absurd rfl c55
            | exact absurd c61 (by decide)
            | exact absurd rfl c61
            | exact key _ _ _ _ _ (by
                have e := wo_skip (Int32.not_le.mpr c43)
                rcases H with z | ⟨b, y1, y2, y3⟩
                · exact Or.inl ⟨e.trans z.1, z.2⟩
                · exact Or.inr ⟨b, by omega, e.trans y2, y3⟩)
            | exact key _ _ _ _ _ (Or.inr ⟨b, by omega, wo_keep y2 (by omega), rfl, rfl⟩)
            | exact key _ _ _ _ _ (Or.inr ⟨k, by omega, wo_less c43 y2 (by omega), rfl, rfl⟩)
            | exact key _ _ _ _ _ (Or.inr ⟨k, by omega, wo_new c43 z, rfl, rfl⟩)
        · try dsimp only at c55
          refine And.intro (fun c61 => ?_) (fun c61 => ?_)
          · try dsimp only at c61
            first
            | exact absurd c55 (by decide)
            | exact absurd rfl c55
            | exact absurd c61 (by decide)
            | exact absurd rfl c61
            | exact key _ _ _ _ _ (by
                have e := wo_skip (Int32.not_le.mpr c43)
                rcases H with z | ⟨b, y1, y2, y3⟩
                · exact Or.inl ⟨e.trans z.1, z.2⟩
                · exact Or.inr ⟨b, by omega, e.trans y2, y3⟩)
            | exact key _ _ _ _ _ (Or.inr ⟨b, by omega, wo_keep y2 (by omega), rfl, rfl⟩)
            | exact key _ _ _ _ _ (Or.inr ⟨k, by omega, wo_less c43 y2 (by omega), rfl, rfl⟩)
            | exact key _ _ _ _ _ (Or.inr ⟨k, by omega, wo_new c43 z, rfl, rfl⟩)
          · try dsimp only at c61
            first
            | exact absurd c55 (by decide)
            | exact absurd rfl c55
            | exact absurd c61 (by decide)
            | exact absurd rfl c61
            | exact key _ _ _ _ _ (by
                have e := wo_skip (Int32.not_le.mpr c43)
                rcases H with z | ⟨b, y1, y2, y3⟩
                · exact Or.inl ⟨e.trans z.1, z.2⟩
                · exact Or.inr ⟨b, by omega, e.trans y2, y3⟩)
            | exact key _ _ _ _ _ (Or.inr ⟨b, by omega, wo_keep y2 (by omega), rfl, rfl⟩)
            | exact key _ _ _ _ _ (Or.inr ⟨k, by omega, wo_less c43 y2 (by omega), rfl, rfl⟩)
            | exact key _ _ _ _ _ (Or.inr ⟨k, by omega, wo_new c43 z, rfl, rfl⟩)
      · try dsimp only at c46
        obtain ⟨b, y1, y2, rfl, rfl⟩ := H.resolve_left (fun z => c46 z.2)
        have r1 := rsL hS b
        have i1 : nI (rs n D b) ≤ nI (rs n D k) ↔ rs n D b ≤ rs n D k := nI_leI (by omega) (by omega)
        refine And.intro (fun c49 => ?_) (fun c49 => ?_)
        · try dsimp only at c49
          have z := i1.mp c49
          refine And.intro (fun c55 => ?_) (fun c55 => ?_)
          · try dsimp only at c55
            refine And.intro (fun c61 => ?_) (fun c61 => ?_)
            · try dsimp only at c61
              first
              | exact absurd c55 (by decide)
              | exact absurd rfl c55
              | exact absurd c61 (by decide)
              | exact absurd rfl c61
              | exact key _ _ _ _ _ (by
                  have e := wo_skip (Int32.not_le.mpr c43)
                  rcases H with z | ⟨b, y1, y2, y3⟩
                  · exact Or.inl ⟨e.trans z.1, z.2⟩
                  · exact Or.inr ⟨b, by omega, e.trans y2, y3⟩)
              | exact key _ _ _ _ _ (Or.inr ⟨b, by omega, wo_keep y2 (by omega), rfl, rfl⟩)
              | exact key _ _ _ _ _ (Or.inr ⟨k, by omega, wo_less c43 y2 (by omega), rfl, rfl⟩)
              | exact key _ _ _ _ _ (Or.inr ⟨k, by omega, wo_new c43 z, rfl, rfl⟩)
            · try dsimp only at c61
              first
              | exact absurd c55 (by decide)
              | exact absurd rfl c55
              | exact absurd c61 (by decide)
              | exact absurd rfl c61
              | exact key _ _ _ _ _ (by
                  have e := wo_skip (Int32.not_le.mpr c43)
                  rcases H with z | ⟨b, y1, y2, y3⟩
                  · exact Or.inl ⟨e.trans z.1, z.2⟩
                  · exact Or.inr ⟨b, by omega, e.trans y2, y3⟩)
              | exact key _ _ _ _ _ (Or.inr ⟨b, by omega, wo_keep y2 (by omega), rfl, rfl⟩)
              | exact key _ _ _ _ _ (Or.inr ⟨k, by omega, wo_less c43 y2 (by omega), rfl, rfl⟩)
              | exact key _ _ _ _ _ (Or.inr ⟨k, by omega, wo_new c43 z, rfl, rfl⟩)
          · try dsimp only at c55
            refine And.intro (fun c61 => ?_) (fun c61 => ?_)
            · try dsimp only at c61
              first
              | exact absurd c55 (by decide)
              | exact absurd rfl c55
              | exact absurd c61 (by decide)
              | exact absurd rfl c61
              | exact key _ _ _ _ _ (by
                  have e := wo_skip (Int32.not_le.mpr c43)
                  rcases H with z | ⟨b, y1, y2, y3⟩
                  · exact Or.inl ⟨e.trans z.1, z.2⟩
                  · exact Or.inr ⟨b, by omega, e.trans y2, y3⟩)
              | exact key _ _ _ _ _ (Or.inr ⟨b, by omega, wo_keep y2 (by omega), rfl, rfl⟩)
              | exact key _ _ _ _ _ (Or.inr ⟨k, by omega, wo_less c43 y2 (by omega), rfl, rfl⟩)
              | exact key _ _ _ _ _ (Or.inr ⟨k, by omega, wo_new c43 z, rfl, rfl⟩)
            · try dsimp only at c61
              first
              | exact absurd c55 (by decide)
              | exact absurd rfl c55
              | exact absurd c61 (by decide)
              | exact absurd rfl c61
              | exact key _ _ _ _ _ (by
                  have e := wo_skip (Int32.not_le.mpr c43)
                  rcases H with z | ⟨b, y1, y2, y3⟩
                  · exact Or.inl ⟨e.trans z.1, z.2⟩
                  · exact Or.inr ⟨b, by omega, e.trans y2, y3⟩)
              | exact key _ _ _ _ _ (Or.inr ⟨b, by omega, wo_keep y2 (by omega), rfl, rfl⟩)
              | exact key _ _ _ _ _ (Or.inr ⟨k, by omega, wo_less c43 y2 (by omega), rfl, rfl⟩)
              | exact key _ _ _ _ _ (Or.inr ⟨k, by omega, wo_new c43 z, rfl, rfl⟩)
        · try dsimp only at c49
          have z := mt i1.mpr c49
          refine And.intro (fun c55 => ?_) (fun c55 => ?_)
          · try dsimp only at c55
            refine And.intro (fun c61 => ?_) (fun c61 => ?_)
            · try dsimp only at c61
              first
              | exact absurd c55 (by decide)
              | exact absurd rfl c55
              | exact absurd c61 (by decide)
              | exact absurd rfl c61
              | exact key _ _ _ _ _ (by
                  have e := wo_skip (Int32.not_le.mpr c43)
                  rcases H with z | ⟨b, y1, y2, y3⟩
                  · exact Or.inl ⟨e.trans z.1, z.2⟩
                  · exact Or.inr ⟨b, by omega, e.trans y2, y3⟩)
              | exact key _ _ _ _ _ (Or.inr ⟨b, by omega, wo_keep y2 (by omega), rfl, rfl⟩)
              | exact key _ _ _ _ _ (Or.inr ⟨k, by omega, wo_less c43 y2 (by omega), rfl, rfl⟩)
              | exact key _ _ _ _ _ (Or.inr ⟨k, by omega, wo_new c43 z, rfl, rfl⟩)
            · try dsimp only at c61
              first
              | exact absurd c55 (by decide)
              | exact absurd rfl c55
              | exact absurd c61 (by decide)
              | exact absurd rfl c61
              | exact key _ _ _ _ _ (by
                  have e := wo_skip (Int32.not_le.mpr c43)
                  rcases H with z | ⟨b, y1, y2, y3⟩
                  · exact Or.inl ⟨e.trans z.1, z.2⟩
                  · exact Or.inr ⟨b, by omega, e.trans y2, y3⟩)
              | exact key _ _ _ _ _ (Or.inr ⟨b, by omega, wo_keep y2 (by omega), rfl, rfl⟩)
              | exact key _ _ _ _ _ (Or.inr ⟨k, by omega, wo_less c43 y2 (by omega), rfl, rfl⟩)
              | exact key _ _ _ _ _ (Or.inr ⟨k, by omega, wo_new c43 z, rfl, rfl⟩)
          · try dsimp only at c55
            refine And.intro (fun c61 => ?_) (fun c61 => ?_)
            · try dsimp only at c61
              first
              | exact absurd c55 (by decide)
              | exact absurd rfl c55
              | exact absurd c61 (by decide)
              | exact absurd rfl c61
              | exact key _ _ _ _ _ (by
                  have e := wo_skip (Int32.not_le.mpr c43)
                  rcases H with z | ⟨b, y1, y2, y3⟩
                  · exact Or.inl ⟨e.trans z.1, z.2⟩
                  · exact Or.inr ⟨b, by omega, e.trans y2, y3⟩)
              | exact key _ _ _ _ _ (Or.inr ⟨b, by omega, wo_keep y2 (by omega), rfl, rfl⟩)
              | exact key _ _ _ _ _ (Or.inr ⟨k, by omega, wo_less c43 y2 (by omega), rfl, rfl⟩)
              | exact key _ _ _ _ _ (Or.inr ⟨k, by omega, wo_new c43 z, rfl, rfl⟩)
            · try dsimp only at c61
              first
              | exact absurd c55 (by decide)
              | exact absurd rfl c55
              | exact absurd c61 (by decide)
              | exact absurd rfl c61
              | exact key _ _ _ _ _ (by
                  have e := wo_skip (Int32.not_le.mpr c43)
                  rcases H with z | ⟨b, y1, y2, y3⟩
                  · exact Or.inl ⟨e.trans z.1, z.2⟩
                  · exact Or.inr ⟨b, by omega, e.trans y2, y3⟩)
              | exact key _ _ _ _ _ (Or.inr ⟨b, by omega, wo_keep y2 (by omega), rfl, rfl⟩)
              | exact key _ _ _ _ _ (Or.inr ⟨k, by omega, wo_less c43 y2 (by omega), rfl, rfl⟩)
              | exact key _ _ _ _ _ (Or.inr ⟨k, by omega, wo_new c43 z, rfl, rfl⟩)
termination_by 2 ^ n - k
decreasing_by all_goals omega

theorem p_wedding {d : Nat} {m : Mem} {K : Option Vv → Option Vv → Mem → Prop} (R : RelAB m) {v : Int32} (h : ∀ v m', RelAB m' → K v v m') : cW (d + 6) n_X_wedding [vo 0 0 0, vi v] m (fun u m1 => cW (d + 6) n_M_wedding [vo 1 0 0, vi v] m1 (fun w m2 => K u w m2)) := by
  have hR := R.1
  obtain ⟨n, hc⟩ := R.2.2.2.2
  obtain ⟨D, hS⟩ := hc.sc hR
  have ht := R.2.2.2.1
  obtain ⟨q1, q2⟩ := hc.many
  have h8 := hc.le
  have hz : gI m (0, 15, 0) 0 = 0 ∧ gI m (0, 16, 0) 0 = 0 := ht.2.2.2.2.2
  have bb2 := two_l n (by omega)
  by_cases q : 0 ≤ v ∧ v ≤ 200
  · refine w_X_wedding (Go.runR (callT_mono MT _) [] 200 (by repeat' (first | exact hR | exact g1.ok | exact g2.ok | exact g3.ok | apply OKR.pI | apply OKR.pL | apply OKR.cpI | apply OKR.wI)) ?_)
    refine m_X_isRise (by repeat' (first | exact hR | exact g1.ok | exact g2.ok | exact g3.ok | apply OKR.pI | apply OKR.pL | apply OKR.cpI | apply OKR.wI)) (And.intro (by repeat' (first | exact hR | exact g1.ok | exact g2.ok | exact g3.ok | apply OKR.pI | apply OKR.pL | apply OKR.cpI | apply OKR.wI)) ?_)
    rw [show b2 (0 ≤ v ∧ v ≤ 200) = 1 from if_pos q]
    refine And.intro (fun c2 => ?_) (fun c2 => ?_)
    · first | exact absurd c2 (by decide) | exact absurd (by decide) c2 | (exfalso; grind)
    · try dsimp only at c2
      refine And.intro ⟨(by first | decide | assumption | omega), (by first | decide | assumption | omega)⟩ ?_
      refine And.intro ⟨(by first | decide | assumption | omega), (by first | decide | assumption | omega)⟩ ?_
      refine m_Se_lookAt (by exact hS) hz (fun m1 g1 hE => And.intro g1.ok ?_)
      refine And.intro ⟨(by first | decide | assumption | omega), (by first | decide | assumption | omega)⟩ ?_
      refine And.intro ⟨(by first | decide | assumption | omega), (by first | decide | assumption | omega)⟩ ?_
      refine m_Se_cheapestSounding hE (fun m2 a g2 hE2 H => And.intro g2.ok ?_)
      refine And.intro (fun c18 => ?_) (fun c18 => ?_)
      · try dsimp only at c18
        obtain ⟨b, y1, y2, rfl⟩ := H.resolve_left (fun z => by rw [z.2] at c18; exact absurd c18 (by decide))
        refine And.intro ⟨(by first | decide | assumption | omega), (by first | decide | assumption | omega)⟩ ?_
        refine m_Se_ripplesOf hE2 rfl (by exact y1) (And.intro (by repeat' (first | exact hR | exact g1.ok | exact g2.ok | exact g3.ok | apply OKR.pI | apply OKR.pL | apply OKR.cpI | apply OKR.wI)) ?_)
        refine m_X_tell (by repeat' (first | exact hR | exact g1.ok | exact g2.ok | exact g3.ok | apply OKR.pI | apply OKR.pL | apply OKR.cpI | apply OKR.wI))  (And.intro (by repeat' (first | exact hR | exact g1.ok | exact g2.ok | exact g3.ok | apply OKR.pI | apply OKR.pL | apply OKR.cpI | apply OKR.wI)) ?_)
        refine And.intro trivial ?_
        refine w_M_wedding (Go.runR (callT_mono MT _) [11] 200 (by repeat' (first | exact hR | exact g1.ok | exact g2.ok | exact g3.ok | apply OKR.pI | apply OKR.pL | apply OKR.cpI | apply OKR.wI)) ?_)
        refine m_M_isRise (by repeat' (first | exact hR | exact g1.ok | exact g2.ok | exact g3.ok | apply OKR.pI | apply OKR.pL | apply OKR.cpI | apply OKR.wI)) (And.intro (by repeat' (first | exact hR | exact g1.ok | exact g2.ok | exact g3.ok | apply OKR.pI | apply OKR.pL | apply OKR.cpI | apply OKR.wI)) ?_)
        rw [show b2 (0 ≤ v ∧ v ≤ 200) = 1 from if_pos q]
        refine And.intro (fun c2 => ?_) (fun c2 => ?_)
        · first | exact absurd c2 (by decide) | exact absurd (by decide) c2 | (exfalso; grind)
        · try dsimp only at c2
          first
          | exact l_M_wedding11 hE2.1 (fun _ => h _ _ ((g1.trans g2).rel R)) (fun b _ y => absurd (z.symm.trans y) (by simp)) 0 (-9) 0 _ _ _ (Or.inl ⟨rfl, rfl⟩) (Nat.zero_le _)
          | exact l_M_wedding11 hE2.1.tell (fun y => absurd (y.symm.trans y2) (by simp)) (fun b' _ y => by
              obtain rfl := Option.some.inj (y.symm.trans y2)
              exact h _ _ (R.tell2 (g1.trans g2) (Fr.refl hE2.1.tell.ok))) 0 (-9) 0 _ _ _ (Or.inl ⟨rfl, rfl⟩) (Nat.zero_le _)
      · try dsimp only at c18
        have z := (H.resolve_right (fun ⟨b, y1, y2, y3⟩ => by rw [y3] at c18; exact c18 (nI_pos' (by omega)))).1
        refine And.intro trivial ?_
        refine w_M_wedding (Go.runR (callT_mono MT _) [11] 200 (by repeat' (first | exact hR | exact g1.ok | exact g2.ok | exact g3.ok | apply OKR.pI | apply OKR.pL | apply OKR.cpI | apply OKR.wI)) ?_)
        refine m_M_isRise (by repeat' (first | exact hR | exact g1.ok | exact g2.ok | exact g3.ok | apply OKR.pI | apply OKR.pL | apply OKR.cpI | apply OKR.wI)) (And.intro (by repeat' (first | exact hR | exact g1.ok | exact g2.ok | exact g3.ok | apply OKR.pI | apply OKR.pL | apply OKR.cpI | apply OKR.wI)) ?_)
        rw [show b2 (0 ≤ v ∧ v ≤ 200) = 1 from if_pos q]
        refine And.intro (fun c2 => ?_) (fun c2 => ?_)
        · first | exact absurd c2 (by decide) | exact absurd (by decide) c2 | (exfalso; grind)
        · try dsimp only at c2
          first
          | exact l_M_wedding11 hE2.1 (fun _ => h _ _ ((g1.trans g2).rel R)) (fun b _ y => absurd (z.symm.trans y) (by simp)) 0 (-9) 0 _ _ _ (Or.inl ⟨rfl, rfl⟩) (Nat.zero_le _)
          | exact l_M_wedding11 hE2.1.tell (fun y => absurd (y.symm.trans y2) (by simp)) (fun b' _ y => by
              obtain rfl := Option.some.inj (y.symm.trans y2)
              exact h _ _ (R.tell2 (g1.trans g2) (Fr.refl hE2.1.tell.ok))) 0 (-9) 0 _ _ _ (Or.inl ⟨rfl, rfl⟩) (Nat.zero_le _)
  · refine w_X_wedding (Go.runR (callT_mono MT _) [] 200 (by repeat' (first | exact hR | exact g1.ok | exact g2.ok | exact g3.ok | apply OKR.pI | apply OKR.pL | apply OKR.cpI | apply OKR.wI)) ?_)
    refine m_X_isRise (by repeat' (first | exact hR | exact g1.ok | exact g2.ok | exact g3.ok | apply OKR.pI | apply OKR.pL | apply OKR.cpI | apply OKR.wI)) (And.intro (by repeat' (first | exact hR | exact g1.ok | exact g2.ok | exact g3.ok | apply OKR.pI | apply OKR.pL | apply OKR.cpI | apply OKR.wI)) ?_)
    rw [show b2 (0 ≤ v ∧ v ≤ 200) = 0 from if_neg q]
    refine And.intro (fun c2 => ?_) (fun c2 => ?_)
    · try dsimp only at c2
      refine And.intro trivial ?_
      refine w_M_wedding (Go.runR (callT_mono MT _) [11] 200 (by repeat' (first | exact hR | exact g1.ok | exact g2.ok | exact g3.ok | apply OKR.pI | apply OKR.pL | apply OKR.cpI | apply OKR.wI)) ?_)
      refine m_M_isRise (by repeat' (first | exact hR | exact g1.ok | exact g2.ok | exact g3.ok | apply OKR.pI | apply OKR.pL | apply OKR.cpI | apply OKR.wI)) (And.intro (by repeat' (first | exact hR | exact g1.ok | exact g2.ok | exact g3.ok | apply OKR.pI | apply OKR.pL | apply OKR.cpI | apply OKR.wI)) ?_)
      rw [show b2 (0 ≤ v ∧ v ≤ 200) = 0 from if_neg q]
      refine And.intro (fun c2 => ?_) (fun c2 => ?_)
      · try dsimp only at c2
        refine And.intro trivial ?_
        exact h _ _ R
      · first | exact absurd c2 (by decide) | exact absurd (by decide) c2 | (exfalso; grind)
    · first | exact absurd c2 (by decide) | exact absurd (by decide) c2 | (exfalso; grind)
