/-! Written by a program (wip/whole/p54.py): is it a set; hours. -/
theorem bv_split (x y : BitVec 32) (h : x &&& (y ^^^ (-1)) = 0) : x = x &&& y := by
  apply BitVec.eq_of_getLsbD_eq
  intro i hi
  have := congrArg (fun z => z.getLsbD i) h
  rw [show (-1 : BitVec 32) = BitVec.allOnes 32 from rfl] at this
  simp only [BitVec.getLsbD_and, BitVec.getLsbD_xor, BitVec.getLsbD_allOnes, hi, decide_true, Bool.xor_true] at this
  rw [BitVec.getLsbD_and]
  have z : (0 : BitVec 32).getLsbD i = false := by simp
  rw [z] at this
  cases a : x.getLsbD i <;> cases b : y.getLsbD i <;> simp_all
theorem set_of {v : Int32} {n : Nat} (hn : n ≤ 8) (h : v &&& (nI (2 ^ n - 1) ^^^ (-1)) = 0) : ∃ s, s < 2 ^ n ∧ v = nI s := by
  have b2 := two_l n (by omega)
  have p := two_p n
  have e : v = v &&& nI (2 ^ n - 1) := Int32.toBitVec_inj.mp (bv_split _ _ (congrArg Int32.toBitVec h))
  have g := pk_and v (m := nI (2 ^ n - 1)) n (pk_tn (by omega))
  exact ⟨_, Nat.mod_lt _ p, e.trans g⟩
theorem set_in {s n : Nat} (hn : n ≤ 8) (hs : s < 2 ^ n) : nI s &&& (nI (2 ^ n - 1) ^^^ (-1)) = 0 := by
  have b2 := two_l n (by omega)
  rw [sb_z (by omega) (by omega)]
  exact Nat.and_two_pow_sub_one_of_lt_two_pow hs
theorem setCase {n : Nat} (v : Int32) : (∃ s, s < 2 ^ n ∧ v = nI s) ∨ ¬ ∃ s, s < 2 ^ n ∧ v = nI s := Classical.em _

theorem m_St_hasSet1 {d n : Nat} {D : SDt} {m : Mem} {K : Option Vv → Mem → Prop} (hS : SC n D m) {v : Int32} {s : Nat} (hv : v = nI s) (hs : s < 2 ^ n) (h : K (some (vi 1)) m) : cW (d + 2) n_St_hasSet [vo 0 5 0, vi v] m K := by
  have hR := hS.ok
  have h8 := hS.le
  have q1 := hS.nA
  have q2 := hS.nB
  subst hv
  refine w_St_hasSet (Go.runR (callT_mono MT _) [] 200 hR ?_)
  refine m_St_allHouses (by exact hS)  (And.intro (by repeat' (first | exact hR | apply OKR.pI | apply OKR.pL | apply OKR.cpI | apply OKR.wI)) ?_)
  refine And.intro (fun c6 => ?_) (fun c6 => ?_)
  · try dsimp only at c6
    refine And.intro (by first | exact Or.inl rfl | exact Or.inr rfl | grind) ?_
    exact h
  · exact absurd (set_in h8 hs) c6

theorem m_M_isSet1 {d n : Nat} {D : SDt} {m : Mem} {K : Option Vv → Mem → Prop} (hS : SC n D m) {v : Int32} {s : Nat} (hv : v = nI s) (hs : s < 2 ^ n) (h : K (some (vi 1)) m) : cW (d + 2) n_M_isSet [vo 1 0 0, vi v] m K := by
  have hR := hS.ok
  have h8 := hS.le
  have q1 := hS.nA
  have q2 := hS.nB
  subst hv
  refine w_M_isSet (Go.runR (callT_mono MT _) [] 200 hR ?_)
  refine m_M_all (by exact hS)  (And.intro (by repeat' (first | exact hR | apply OKR.pI | apply OKR.pL | apply OKR.cpI | apply OKR.wI)) ?_)
  refine m_M_in (by repeat' (first | exact hR | apply OKR.pI | apply OKR.pL | apply OKR.cpI | apply OKR.wI))  (And.intro (by repeat' (first | exact hR | apply OKR.pI | apply OKR.pL | apply OKR.cpI | apply OKR.wI)) ?_)
  refine And.intro (by first | exact Or.inl rfl | exact Or.inr rfl | (unfold b2; split; exact Or.inr rfl; exact Or.inl rfl)) ?_
  refine kvi ?_ h
  have bb2 := two_l n (by omega)
  exact if_pos ⟨nI_pos' (by omega), nI_le (by omega) (by omega)⟩

theorem m_St_hasSet0 {d n : Nat} {D : SDt} {m : Mem} {K : Option Vv → Mem → Prop} (hS : SC n D m) {v : Int32} (q : ¬ ∃ s, s < 2 ^ n ∧ v = nI s) (h : K (some (vi 0)) m) : cW (d + 2) n_St_hasSet [vo 0 5 0, vi v] m K := by
  have hR := hS.ok
  have h8 := hS.le
  have q1 := hS.nA
  have q2 := hS.nB
  refine w_St_hasSet (Go.runR (callT_mono MT _) [] 200 hR ?_)
  refine m_St_allHouses (by exact hS)  (And.intro (by repeat' (first | exact hR | apply OKR.pI | apply OKR.pL | apply OKR.cpI | apply OKR.wI)) ?_)
  refine And.intro (fun c6 => ?_) (fun c6 => ?_)
  · exact absurd (set_of h8 c6) q
  · try dsimp only at c6
    refine And.intro (by first | exact Or.inl rfl | exact Or.inr rfl | grind) ?_
    exact h

theorem m_M_isSet0 {d n : Nat} {D : SDt} {m : Mem} {K : Option Vv → Mem → Prop} (hS : SC n D m) {v : Int32} (q : ¬ ∃ s, s < 2 ^ n ∧ v = nI s) (h : K (some (vi 0)) m) : cW (d + 2) n_M_isSet [vo 1 0 0, vi v] m K := by
  have hR := hS.ok
  have h8 := hS.le
  have q1 := hS.nA
  have q2 := hS.nB
  refine w_M_isSet (Go.runR (callT_mono MT _) [] 200 hR ?_)
  refine m_M_all (by exact hS)  (And.intro (by repeat' (first | exact hR | apply OKR.pI | apply OKR.pL | apply OKR.cpI | apply OKR.wI)) ?_)
  refine m_M_in (by repeat' (first | exact hR | apply OKR.pI | apply OKR.pL | apply OKR.cpI | apply OKR.wI))  (And.intro (by repeat' (first | exact hR | apply OKR.pI | apply OKR.pL | apply OKR.cpI | apply OKR.wI)) ?_)
  refine And.intro (by first | exact Or.inl rfl | exact Or.inr rfl | (unfold b2; split; exact Or.inr rfl; exact Or.inl rfl)) ?_
  refine kvi ?_ h
  refine if_neg (fun z => q ?_)
  have bb2 := two_l n (by omega)
  have bb3 := two_p n
  obtain ⟨j, hj, rfl⟩ := nI_of (Int32.not_lt.mpr z.1)
  exact ⟨j, by have := (nI_leI hj (by omega)).mp z.2; omega, rfl⟩

def HcI (n : Nat) (D : SDt) (w : Nat) (m0 m : Mem) (T : Nat → Nat) (k : Nat) : Prop := Fr m0 m ∧ SeR n D m ∧ ∀ t, t < k → t &&& w = t → gI m (0, 17, 0) t = nI (T t)
theorem nI_min {a b : Nat} (ha : a < 2 ^ 31) (hb : b < 2 ^ 31) : (if nI b < nI a then nI b else nI a) = nI (if b < a then b else a) := by
  by_cases z : b < a
  · rw [if_pos z, if_pos ((nI_ltI hb ha).mpr z)]
  · rw [if_neg z, if_neg (mt (nI_ltI hb ha).mp z)]
theorem sb_and {p w : Nat} (h : p &&& w = p) : ((p - 1) &&& w) &&& w = (p - 1) &&& w := by rw [Nat.and_assoc, Nat.and_self]
theorem pred_and {p s : Nat} (h : 0 < p) : (nI p - 1) &&& nI s = nI ((p - 1) &&& s) := by
  rw [show (1 : Int32) = nI 1 from rfl, pk_sub (by omega), nI_and]
theorem sb_tr {p s w : Nat} (h : p &&& s = p) (g : s &&& w = s) : p &&& w = p := by rw [← h, Nat.and_assoc, g]

theorem l_Se_fewestHours24 {d n : Nat} {D : SDt} {m0 : Mem} {K : Option Vv → Mem → Prop} {w c s : Nat} {T : Nat → Nat} (hc : c ≤ 200) (hw : w < 256) (hs0 : 0 < s) (hs : s < 2 ^ n) (hsw : s &&& w = s) (hT : ∀ t, t < s → t &&& w = t → T t ≤ 9) (h : ∀ m v, HcI n D w m0 m T s → gI m (0, 17, 0) s = nI v → Mn 9 (vaB n D c) s T 0 v → Go (cW d) i_Se_fewestHours (0, 0) K 56 [vo 0 14 0, vi (nI w), vi (nI c), vi (nI s), vi (nI 0)] [] m 0 0) (p : Nat) (m : Mem) (v : Nat) (H : HcI n D w m0 m T s) (hv : gI m (0, 17, 0) s = nI v) (hM : Mn 9 (vaB n D c) s T p v) (hp : p &&& s = p) : Go (cW d) i_Se_fewestHours (0, 0) K 24 [vo 0 14 0, vi (nI w), vi (nI c), vi (nI s), vi (nI p)] [] m 0 0 := by
  have hE := H.2.1
  have hR := hE.1.ok
  have h8 := hE.1.le
  have bb2 := two_l n (by omega)
  have ple := sb_le hp
  have e0 : (nI s).toNatClampNeg = s := nI_clamp (by omega)
  have ep : (nI p).toNatClampNeg = p := nI_clamp (by omega)
  have r0 := rsL hE.1 p
  have er : gI m (0, 15, 0) (nI p).toNatClampNeg = nI (rs n D p) := by rw [ep]; exact hE.2.2.2.2.1 p (by omega)
  have i1 : nI c < nI (rs n D p) ↔ c < rs n D p := nI_ltI (by omega) (by omega)
  have v9 := hM.1
  refine Go.runR (callT_mono MT _) [24, 56] 200 hR ?_
  refine And.intro (fun c25 => ?_) (fun c25 => ?_)
  · try dsimp only at c25
    have hp0 : p = 0 := by have := mt (nI_nle (n := p)) ; rcases Nat.eq_zero_or_pos p with z | z; exact z; exact absurd c25 (nI_nle z (by omega))
    subst hp0
    exact h m v H hv hM
  · try dsimp only at c25
    have hp0 : 0 < p := by rcases Nat.eq_zero_or_pos p with z | z; subst z; exact absurd (show nI 0 ≤ 0 by decide) c25; exact z
    have lt : (p - 1) &&& s < p := Nat.lt_of_le_of_lt Nat.and_le_left (by omega)
    have es : (nI s - nI p).toNatClampNeg = s - p := by rw [pk_sub ple, nI_clamp (by omega)]
    have et := H.2.2 (s - p) (by omega) (sb_rest (by omega) hp hsw)
    have t9 := hT (s - p) (by omega) (sb_rest (by omega) hp hsw)
    refine And.intro ⟨(by first | decide | assumption | omega), (by first | decide | assumption | omega)⟩ ?_
    refine And.intro (vp_nI (k := p) (N := 256) (by omega) (by decide)) ?_
    refine And.intro (fun c31 => ?_) (fun c31 => ?_)
    · try dsimp only at c31
      rw [er] at c31
      have nv : ¬ vaB n D c p := fun z => by have := i1.mp c31; have z : rs n D p ≤ c := z; omega
      first
      | exact go_eq (ls' := [vo 0 14 0, vi (nI w), vi (nI c), vi (nI s), vi (nI ((p - 1) &&& s))]) (by rw [← pred_and hp0]; rfl) rfl (l_Se_fewestHours24 hc hw hs0 hs hsw hT h ((p - 1) &&& s) m v H hv (hM.step hp0 hp (Or.inr ⟨nv, rfl⟩)) (sb_and hp))
      | (refine go_eq (ls' := [vo 0 14 0, vi (nI w), vi (nI c), vi (nI s), vi (nI ((p - 1) &&& s))]) (by rw [← pred_and hp0]; rfl) rfl (l_Se_fewestHours24 hc hw hs0 hs hsw hT h ((p - 1) &&& s) _ (if T (s - p) + 1 < v then T (s - p) + 1 else v) ⟨H.1.p0 (by omega), hE.p17, fun t ht htw => ?_⟩ ?_ (hM.step hp0 hp (Or.inl ⟨yv, rfl⟩)) (sb_and hp))
         · rw [rd00, if_neg (by rw [e0]; omega)]
           exact H.2.2 t ht htw
         · rw [rd00, if_pos ⟨rfl, rfl, e0.symm⟩]
           show (if gI m (0, 17, 0) (nI s - nI p).toNatClampNeg + 1 < gI m (0, 17, 0) (nI s).toNatClampNeg then gI m (0, 17, 0) (nI s - nI p).toNatClampNeg + 1 else gI m (0, 17, 0) (nI s).toNatClampNeg) = _
           rw [es, et, e0, hv, nI_1, nI_min (by omega) (by omega)])
    · try dsimp only at c31
      rw [er] at c31
      have yv : vaB n D c p := by have := mt i1.mpr c31; show rs n D p ≤ c; omega
      refine And.intro ⟨(by first | decide | assumption | omega), (by first | decide | assumption | omega)⟩ ?_
      refine And.intro ⟨(by first | decide | assumption | omega), (by first | decide | assumption | omega)⟩ ?_
      refine And.intro (by first | exact vp_nI (k := s) (N := 256) (by omega) (by decide) | exact vp_nI (k := p) (N := 256) (by omega) (by decide) | (show vp_in (nI s - nI p) 256; rw [pk_sub ple]; exact vp_nI (by omega) (by decide))) ?_
      refine And.intro ⟨(by first | decide | assumption | omega), (by first | decide | assumption | omega)⟩ ?_
      refine And.intro (by first | exact vp_nI (k := s) (N := 256) (by omega) (by decide) | exact vp_nI (k := p) (N := 256) (by omega) (by decide) | (show vp_in (nI s - nI p) 256; rw [pk_sub ple]; exact vp_nI (by omega) (by decide))) ?_
      refine And.intro (by first | exact vp_nI (k := s) (N := 256) (by omega) (by decide) | exact vp_nI (k := p) (N := 256) (by omega) (by decide) | (show vp_in (nI s - nI p) 256; rw [pk_sub ple]; exact vp_nI (by omega) (by decide))) ?_
      first
      | exact go_eq (ls' := [vo 0 14 0, vi (nI w), vi (nI c), vi (nI s), vi (nI ((p - 1) &&& s))]) (by rw [← pred_and hp0]; rfl) rfl (l_Se_fewestHours24 hc hw hs0 hs hsw hT h ((p - 1) &&& s) m v H hv (hM.step hp0 hp (Or.inr ⟨nv, rfl⟩)) (sb_and hp))
      | (refine go_eq (ls' := [vo 0 14 0, vi (nI w), vi (nI c), vi (nI s), vi (nI ((p - 1) &&& s))]) (by rw [← pred_and hp0]; rfl) rfl (l_Se_fewestHours24 hc hw hs0 hs hsw hT h ((p - 1) &&& s) _ (if T (s - p) + 1 < v then T (s - p) + 1 else v) ⟨H.1.p0 (by omega), hE.p17, fun t ht htw => ?_⟩ ?_ (hM.step hp0 hp (Or.inl ⟨yv, rfl⟩)) (sb_and hp))
         · rw [rd00, if_neg (by rw [e0]; omega)]
           exact H.2.2 t ht htw
         · rw [rd00, if_pos ⟨rfl, rfl, e0.symm⟩]
           show (if gI m (0, 17, 0) (nI s - nI p).toNatClampNeg + 1 < gI m (0, 17, 0) (nI s).toNatClampNeg then gI m (0, 17, 0) (nI s - nI p).toNatClampNeg + 1 else gI m (0, 17, 0) (nI s).toNatClampNeg) = _
           rw [es, et, e0, hv, nI_1, nI_min (by omega) (by omega)])
termination_by p
decreasing_by all_goals omega

theorem l_Se_fewestHours7 {d n : Nat} {D : SDt} {m0 : Mem} {K : Option Vv → Mem → Prop} {w c : Nat} (hc : c ≤ 200) (hw : w < 2 ^ n) (h : ∀ m T, Fr m0 m → SeR n D m → HtR 9 n D c w T → (∀ t, t < 2 ^ n → t &&& w = t → gI m (0, 17, 0) t = nI (T t)) → K (some (vi (nI (T w)))) m) (k : Nat) (m : Mem) (x : Vv) (T : Nat → Nat) (H : HcI n D w m0 m T k) (hT : HtK 9 n D c w T k) (hk0 : 0 < k) (hk : k ≤ 2 ^ n) : Go (cW d) i_Se_fewestHours (0, 0) K 7 [vo 0 14 0, vi (nI w), vi (nI c), vi (nI k), x] [] m 0 0 := by
  have hE := H.2.1
  have hR := hE.1.ok
  have h8 := hE.1.le
  have bb2 := two_l n (by omega)
  have q1 : gI m (0, 14, 0) 3 = nI (2 ^ n) := hE.2.1
  have e0 : (nI k).toNatClampNeg = k := nI_clamp (by omega)
  have ew : (nI w).toNatClampNeg = w := nI_clamp (by omega)
  have t9 : ∀ t, t < k → t &&& w = t → T t ≤ 9 := fun t ht htw => by
    rcases Nat.eq_zero_or_pos t with z | z
    · rw [z, hT.1]; omega
    · exact (hT.2 t z htw ht).1
  refine Go.runR (callT_mono MT _) [7, 24] 200 hR ?_
  refine And.intro (fun c10 => ?_) (fun c10 => ?_)
  · try dsimp only at c10
    have hk2 := lq_e c10 q1 rfl hk (by omega)
    refine And.intro (fun c59 => ?_) (fun c59 => ?_)
    · exact absurd c59 (nI_pos (by omega))
    · try dsimp only at c59
      refine And.intro (fun c63 => ?_) (fun c63 => ?_)
      · exact absurd c63 (by show ¬ gI m (0, 14, 0) 3 ≤ nI w; rw [q1]; exact nI_ge hw (by omega))
      · try dsimp only at c63
        refine And.intro ⟨(by first | decide | assumption | omega), (by first | decide | assumption | omega)⟩ ?_
        refine And.intro (vp_nI (k := w) (N := 256) (by omega) (by decide)) ?_
        refine And.intro trivial ?_
        rw [hk2] at H hT
        refine (?_ : K (some (vi (gI m (0, 17, 0) (nI w).toNatClampNeg))) m)
        rw [ew, H.2.2 w hw (Nat.and_self w)]
        exact h m T H.1 hE ⟨hT.1, fun s h0 h1 h2 => hT.2 s h0 h1 (Nat.lt_of_le_of_lt (sb_le h1) hw)⟩ H.2.2
  · try dsimp only at c10
    have hk2 := lq_m c10 q1 rfl hk (by omega)
    have si : nI k &&& (nI w ^^^ (-1)) = 0 ↔ k &&& w = k := sb_z (by omega) (by omega)
    refine And.intro ⟨(by first | decide | assumption | omega), (by first | decide | assumption | omega)⟩ ?_
    refine And.intro (vp_nI (k := k) (N := 256) (by omega) (by decide)) ?_
    refine And.intro (fun c21 => ?_) (fun c21 => ?_)
    · try dsimp only at c21
      have yk := si.mp c21
      refine l_Se_fewestHours24 (T := T) hc (by omega) hk0 hk2 yk t9 (fun m' v H' hv hM => ?_) k _ 9 ⟨H.1.p0 (by omega), hE.p17, fun t ht htw => ?_⟩ (by rw [rd00, if_pos ⟨rfl, rfl, e0.symm⟩]; rfl) (Mn.top _ _ _ _) (Nat.and_self k)
      · refine Go.runR (callT_mono MT _) [7] 200 H'.1.ok ?_
        exact go_eq (ls' := [vo 0 14 0, vi (nI w), vi (nI c), vi (nI (k + 1)), vi (nI 0)]) (by rw [nI_succ]; rfl) rfl (l_Se_fewestHours7 hc hw h (k + 1) m' _ (fun s => if s = k then v else T s) ⟨H'.1, H'.2.1, fun t ht htw => by
        show gI m' (0, 17, 0) t = nI (if t = k then v else T t)
        by_cases z : t = k
        · rw [if_pos z, z]; exact hv
        · rw [if_neg z]; exact H'.2.2 t (by omega) htw⟩ (hT.next hk0 (fun _ => hM)) (by omega) hk2)
      · rw [rd00, if_neg (by rw [e0]; omega)]
        exact H.2.2 t ht htw
    · try dsimp only at c21
      have nk := mt si.mpr c21
      refine (fun (m' : Mem) H' => go_eq (ls' := [vo 0 14 0, vi (nI w), vi (nI c), vi (nI (k + 1)), x]) (by rw [nI_succ]) rfl (l_Se_fewestHours7 hc hw h (k + 1) m' x (fun s => if s = k then 9 else T s) H' (hT.next hk0 (fun z => absurd z nk)) (by omega) hk2) : ∀ m', HcI n D w m0 m' (fun s => if s = k then 9 else T s) (k + 1) → Go (cW d) i_Se_fewestHours (0, 0) K 7 [vo 0 14 0, vi (nI w), vi (nI c), vi (nI k + 1), x] [] m' 0 0) _ ⟨H.1.p0 (by omega), hE.p17, fun t ht htw => ?_⟩
      have ne : t ≠ k := fun z => nk (z ▸ htw)
      rw [rd00, if_neg (by rw [e0]; exact fun z => ne z.2.2)]
      show gI m (0, 17, 0) t = nI (if t = k then 9 else T t)
      rw [if_neg ne]
      exact H.2.2 t (by omega) htw
termination_by 2 ^ n - k
decreasing_by all_goals omega

theorem m_Se_fewestHours {d n : Nat} {D : SDt} {m : Mem} {K : Option Vv → Mem → Prop} {w c : Nat} {u v : Int32} (hE : SeR n D m) (hu : u = nI w) (hv : v = nI c) (hc : c ≤ 200) (hw : w < 2 ^ n) (h : ∀ m' T, Fr m m' → SeR n D m' → HtR 9 n D c w T → (∀ t, t < 2 ^ n → t &&& w = t → gI m' (0, 17, 0) t = nI (T t)) → K (some (vi (nI (T w)))) m') : cW (d + 1) n_Se_fewestHours [vo 0 14 0, vi u, vi v] m K := by
  subst hu; subst hv
  have hR := hE.1.ok
  refine w_Se_fewestHours (Go.runR (callT_mono MT _) [7] 200 hR ?_)
  refine And.intro ⟨(by first | decide | assumption | omega), (by first | decide | assumption | omega)⟩ ?_
  refine And.intro (vp_nI (k := 0) (N := 256) (by omega) (by decide)) ?_
  refine go_eq (ls' := [vo 0 14 0, vi (nI w), vi (nI c), vi (nI 1), vu]) rfl rfl (l_Se_fewestHours7 hc hw h 1 _ vu (fun _ => 0) ⟨(Fr.refl hR).p0 (by omega), hE.p17, fun t ht htw => ?_⟩ ⟨rfl, fun s h0 _ h1 => absurd h0 (by omega)⟩ (by omega) (two_p n))
  obtain rfl : t = 0 := by omega
  rfl

theorem l_Se_firstHour {d n : Nat} {D : SDt} {m : Mem} {K : Option Vv → Mem → Prop} {w c : Nat} {T : Nat → Nat} (hE : SeR n D m) (hc : c ≤ 200) (hw : w < 2 ^ n) (hT : ∀ t, t < 2 ^ n → t &&& w = t → gI m (0, 17, 0) t = nI (T t) ∧ T t ≤ 9) (h : ∀ v, FiR n D c w T 0 v → K (some (vi (nI v))) m) (p : Nat) (x : Vv) (hp0 : 0 < p) (hn : ∀ q, 0 < q → q < p → ¬ Fo n D c w T q) (hp : p ≤ w + 1) : Go (cW d) i_Se_firstHour (0, 0) K 2 [vo 0 14 0, vi (nI w), vi (nI c), vi (nI p), x] [] m 0 0 := by
  have hR := hE.1.ok
  have h8 := hE.1.le
  have bb2 := two_l n (by omega)
  have q1 : gI m (0, 14, 0) 3 = nI (2 ^ n) := hE.2.1
  have ew : (nI w).toNatClampNeg = w := nI_clamp (by omega)
  have fw := hT w hw (Nat.and_self w)
  refine Go.runR (callT_mono MT _) [2] 200 hR ?_
  refine And.intro (fun c4 => ?_) (fun c4 => ?_)
  · try dsimp only at c4
    have hk2 := lq0 (N := w + 1) c4 rfl rfl (by omega) hp (by omega)
    refine And.intro trivial ?_
    exact h 0 (Or.inl ⟨rfl, fun q h1 h2 => hn q h1 (by have := sb_le h2.1; omega) h2⟩)
  · try dsimp only at c4
    have hk2 := lq1 (N := w + 1) c4 rfl rfl (by omega) hp (by omega)
    have ep : (nI p).toNatClampNeg = p := nI_clamp (by omega)
    have r0 := rsL hE.1 p
    have er : gI m (0, 15, 0) (nI p).toNatClampNeg = nI (rs n D p) := by rw [ep]; exact hE.2.2.2.2.1 p (by omega)
    have i1 : nI c < nI (rs n D p) ↔ c < rs n D p := nI_ltI (by omega) (by omega)
    have si : nI p &&& (nI w ^^^ (-1)) = 0 ↔ p &&& w = p := sb_z (by omega) (by omega)
    have es : (nI w - nI p).toNatClampNeg = w - p := by rw [pk_sub (by omega), nI_clamp (by omega)]
    have key : ∀ y, ¬ Fo n D c w T p → Go (cW d) i_Se_firstHour (0, 0) K 2 [vo 0 14 0, vi (nI w), vi (nI c), vi (nI p + 1), y] [] m 0 0 := fun y z => go_eq (by rw [← nI_succ]) rfl (l_Se_firstHour hE hc hw hT h (p + 1) y (by omega) (fun q h1 h2 => by
      rcases Nat.lt_or_ge q p with u | u
      · exact hn q h1 u
      · rw [show q = p by omega]; exact z) (by omega))
    have key := key
    refine And.intro (fun c8 => ?_) (fun c8 => ?_)
    · exact absurd c8 (by show ¬ gI m (0, 14, 0) 3 ≤ nI w; rw [q1]; exact nI_ge hw (by omega))
    · try dsimp only at c8
      refine And.intro (fun c14 => ?_) (fun c14 => ?_)
      · try dsimp only at c14
        have pw := si.mp c14
        have et := hT (w - p) (by omega) (sb_rest (by omega) pw (Nat.and_self w))
        have ee : gI m (0, 17, 0) (nI w - nI p).toNatClampNeg + 1 = gI m (0, 17, 0) (nI w).toNatClampNeg ↔ T (w - p) + 1 = T w := by rw [es, et.1, ew, fw.1, nI_1]; exact nI_eq (by omega) (by omega)
        refine And.intro ⟨(by first | decide | assumption | omega), (by first | decide | assumption | omega)⟩ ?_
        refine And.intro (vp_nI (k := p) (N := 256) (by omega) (by decide)) ?_
        refine And.intro (fun c20 => ?_) (fun c20 => ?_)
        · try dsimp only at c20
          rw [er] at c20
          have nf : ¬ Fo n D c w T p := fun z => by have := i1.mp c20; have y : rs n D p ≤ c := z.2.1; omega
          refine And.intro (fun c26 => ?_) (fun c26 => ?_)
          · try dsimp only at c26
            first
            | exact absurd rfl c26
            | exact absurd c26 (by decide)
            | exact key _ nf
            | exact key _ (fun z => c39 (ee.mpr z.2.2))
          · try dsimp only at c26
            refine And.intro ⟨(by first | decide | assumption | omega), (by first | decide | assumption | omega)⟩ ?_
            refine And.intro (by show vp_in (nI w - nI p) 256; rw [pk_sub (by omega)]; exact vp_nI (by omega) (by decide)) ?_
            refine And.intro ⟨(by first | decide | assumption | omega), (by first | decide | assumption | omega)⟩ ?_
            refine And.intro (vp_nI (k := w) (N := 256) (by omega) (by decide)) ?_
            refine And.intro (fun c39 => ?_) (fun c39 => ?_)
            · try dsimp only at c39
              refine And.intro trivial ?_
              first
              | exact absurd c26 (by decide)
              | exact absurd rfl c26
              | exact h p (Or.inr ⟨hp0, ⟨pw, pv, ee.mp c39⟩, fun q h1 h2 => by
                  rcases Nat.lt_or_ge q p with z | z
                  · exact absurd h2 (hn q h1 z)
                  · exact z⟩)
            · try dsimp only at c39
              first
              | exact absurd rfl c26
              | exact absurd c26 (by decide)
              | exact key _ nf
              | exact key _ (fun z => c39 (ee.mpr z.2.2))
        · try dsimp only at c20
          rw [er] at c20
          have pv : vaB n D c p := by have := mt i1.mpr c20; show rs n D p ≤ c; omega
          refine And.intro (fun c26 => ?_) (fun c26 => ?_)
          · try dsimp only at c26
            first
            | exact absurd rfl c26
            | exact absurd c26 (by decide)
            | exact key _ nf
            | exact key _ (fun z => c39 (ee.mpr z.2.2))
          · try dsimp only at c26
            refine And.intro ⟨(by first | decide | assumption | omega), (by first | decide | assumption | omega)⟩ ?_
            refine And.intro (by show vp_in (nI w - nI p) 256; rw [pk_sub (by omega)]; exact vp_nI (by omega) (by decide)) ?_
            refine And.intro ⟨(by first | decide | assumption | omega), (by first | decide | assumption | omega)⟩ ?_
            refine And.intro (vp_nI (k := w) (N := 256) (by omega) (by decide)) ?_
            refine And.intro (fun c39 => ?_) (fun c39 => ?_)
            · try dsimp only at c39
              refine And.intro trivial ?_
              first
              | exact absurd c26 (by decide)
              | exact absurd rfl c26
              | exact h p (Or.inr ⟨hp0, ⟨pw, pv, ee.mp c39⟩, fun q h1 h2 => by
                  rcases Nat.lt_or_ge q p with z | z
                  · exact absurd h2 (hn q h1 z)
                  · exact z⟩)
            · try dsimp only at c39
              first
              | exact absurd rfl c26
              | exact absurd c26 (by decide)
              | exact key _ nf
              | exact key _ (fun z => c39 (ee.mpr z.2.2))
      · try dsimp only at c14
        have nf : ¬ Fo n D c w T p := fun z => c14 (si.mpr z.1)
        refine And.intro (fun c26 => ?_) (fun c26 => ?_)
        · try dsimp only at c26
          first
          | exact absurd rfl c26
          | exact absurd c26 (by decide)
          | exact key _ nf
          | exact key _ (fun z => c39 (ee.mpr z.2.2))
        · try dsimp only at c26
          refine And.intro ⟨(by first | decide | assumption | omega), (by first | decide | assumption | omega)⟩ ?_
          refine And.intro (by show vp_in (nI w - nI p) 256; rw [pk_sub (by omega)]; exact vp_nI (by omega) (by decide)) ?_
          refine And.intro ⟨(by first | decide | assumption | omega), (by first | decide | assumption | omega)⟩ ?_
          refine And.intro (vp_nI (k := w) (N := 256) (by omega) (by decide)) ?_
          refine And.intro (fun c39 => ?_) (fun c39 => ?_)
          · try dsimp only at c39
            refine And.intro trivial ?_
            first
            | exact absurd c26 (by decide)
            | exact absurd rfl c26
            | exact h p (Or.inr ⟨hp0, ⟨pw, pv, ee.mp c39⟩, fun q h1 h2 => by
                rcases Nat.lt_or_ge q p with z | z
                · exact absurd h2 (hn q h1 z)
                · exact z⟩)
          · try dsimp only at c39
            first
            | exact absurd rfl c26
            | exact absurd c26 (by decide)
            | exact key _ nf
            | exact key _ (fun z => c39 (ee.mpr z.2.2))
termination_by w + 1 - p
decreasing_by all_goals omega

theorem m_Se_firstHour {d n : Nat} {D : SDt} {m : Mem} {K : Option Vv → Mem → Prop} {w c : Nat} {u v : Int32} {T : Nat → Nat} (hE : SeR n D m) (hu : u = nI w) (hv : v = nI c) (hc : c ≤ 200) (hw : w < 2 ^ n) (hT : ∀ t, t < 2 ^ n → t &&& w = t → gI m (0, 17, 0) t = nI (T t) ∧ T t ≤ 9) (h : ∀ v, FiR n D c w T 0 v → K (some (vi (nI v))) m) : cW (d + 1) n_Se_firstHour [vo 0 14 0, vi u, vi v] m K := by
  subst hu; subst hv
  have hR := hE.1.ok
  refine w_Se_firstHour (Go.runR (callT_mono MT _) [2] 200 hR ?_)
  exact l_Se_firstHour hE hc hw hT h 1 _ (by omega) (fun q h1 h2 => absurd h1 (by omega)) (by omega)
