/-! Written by a program (wip/whole/p55.py): hours, the reference's side; both sides. -/
def HmI (w : Nat) (m0 m : Mem) (T : Nat → Nat) (k : Nat) : Prop := Fr m0 m ∧ ∀ t, t < k → t &&& w = t → gI m (1, 17, 0) t = nI (T t)
theorem rest_e {s p : Nat} (hs : s < 256) (hp : p &&& s = p) : nI s &&& (nI p ^^^ (-1)) = nI (s - p) := by
  have := sb_le hp
  rw [andnot hs (by omega), sb_sub s hs p (by omega) hp]
theorem eq_pred {a b : Nat} (ha : a < 1000) (hb : b < 1000) : nI a = nI b - 1 ↔ a + 1 = b := by
  have e : nI a = nI b - 1 ↔ nI (a + 1) = nI b := by
    rw [nI_succ]
    constructor
    · intro h; rw [h]; grind
    · intro h; rw [← h]; grind
  rw [e]
  exact nI_eq (by omega) (by omega)

theorem l_M_hours34 {d n : Nat} {D : SDt} {m0 : Mem} {K : Option Vv → Mem → Prop} {w c s : Nat} {T : Nat → Nat} (hS0 : SC n D m0) (hc : c ≤ 200) (hw : w < 256) (hs0 : 0 < s) (hs : s < 2 ^ n) (hsw : s &&& w = s) (hT : ∀ t, t < s → t &&& w = t → T t ≤ 100) (h : ∀ m v y, HmI w m0 m T s → gI m (1, 17, 0) s = nI v → Mn 100 (vaB n D c) s T 0 v → Go (cW (d + 3)) i_M_hours (0, 0) K 75 [vo 1 0 0, vi (nI w), vi (nI c), vi (nI s), vi (nI 0), y] [] m 0 0) (p : Nat) (m : Mem) (v : Nat) (x : Vv) (H : HmI w m0 m T s) (hv : gI m (1, 17, 0) s = nI v) (hM : Mn 100 (vaB n D c) s T p v) (hp : p &&& s = p) : Go (cW (d + 3)) i_M_hours (0, 0) K 34 [vo 1 0 0, vi (nI w), vi (nI c), vi (nI s), vi (nI p), x] [] m 0 0 := by
  have hS := H.1.sc hS0
  have hR := hS.ok
  have h8 := hS.le
  have bb2 := two_l n (by omega)
  have ple := sb_le hp
  have e0 : (nI s).toNatClampNeg = s := nI_clamp (by omega)
  have r0 := rsL hS p
  have i1 : nI c < nI (rs n D p) ↔ c < rs n D p := nI_ltI (by omega) (by omega)
  have v9 := hM.1
  refine Go.runR (callT_mono MT _) [34, 75] 200 hR ?_
  refine And.intro (fun c35 => ?_) (fun c35 => ?_)
  · try dsimp only at c35
    have hp0 : p = 0 := by rcases Nat.eq_zero_or_pos p with z | z; exact z; exact absurd c35 (nI_nle z (by omega))
    subst hp0
    exact h m v _ H hv hM
  · try dsimp only at c35
    have hp0 : 0 < p := by rcases Nat.eq_zero_or_pos p with z | z; subst z; exact absurd (show nI 0 ≤ 0 by decide) c35; exact z
    have lt : (p - 1) &&& s < p := Nat.lt_of_le_of_lt Nat.and_le_left (by omega)
    have es : (nI s &&& (nI p ^^^ (-1))).toNatClampNeg = s - p := by rw [rest_e (by omega) hp, nI_clamp (by omega)]
    have et := H.2 (s - p) (by omega) (sb_rest (by omega) hp hsw)
    have t9 := hT (s - p) (by omega) (sb_rest (by omega) hp hsw)
    have ev : gI m (1, 17, 0) (nI s &&& (nI p ^^^ (-1))).toNatClampNeg + 1 = nI (T (s - p) + 1) := by rw [es, et, nI_1]
    have i2 : nI v ≤ nI (T (s - p) + 1) ↔ v ≤ T (s - p) + 1 := nI_leI (by omega) (by omega)
    have hvs : gI m (1, 17, 0) (nI s).toNatClampNeg = nI v := by rw [e0]; exact hv
    have key : ∀ (m' : Mem) (y : Vv) (u : Int32) (v2 : Nat), m' = pI m (1, 17, 0) (nI s).toNatClampNeg u → u = nI v2 → ((vaB n D c p ∧ v2 = if T (s - p) + 1 < v then T (s - p) + 1 else v) ∨ (¬ vaB n D c p ∧ v2 = v)) → Go (cW (d + 3)) i_M_hours (0, 0) K 34 [vo 1 0 0, vi (nI w), vi (nI c), vi (nI s), vi ((nI p - 1) &&& nI s), y] [] m' 0 0 := fun m' y u v2 z1 z2 z3 => by
      subst z1; subst z2
      refine go_eq (by rw [pred_and hp0]) rfl (l_M_hours34 hS0 hc hw hs0 hs hsw hT h ((p - 1) &&& s) _ v2 y ⟨H.1.p1 (by omega), fun t ht htw => ?_⟩ ?_ (hM.step hp0 hp z3) (sb_and hp))
      · rw [rd11, if_neg (by rw [e0]; omega)]
        exact H.2 t ht htw
      · rw [rd11, if_pos ⟨rfl, rfl, e0.symm⟩]
    have key := key
    refine And.intro ⟨rfl, rfl, rfl⟩ ?_
    refine And.intro (by first | exact vp_nI (k := s) (N := 256) (by omega) (by decide) | (show vp_in (nI s &&& (nI p ^^^ (-1))) 256; rw [rest_e (by omega) hp]; exact vp_nI (by omega) (by decide))) ?_
    refine And.intro ⟨rfl, rfl, rfl⟩ ?_
    refine m_M_ripples (by exact hS) (s := p) rfl (by omega) (And.intro (by repeat' (first | exact hR | apply OKR.pI | apply OKR.pL | apply OKR.cpI | apply OKR.wI)) ?_)
    refine And.intro (fun c54 => ?_) (fun c54 => ?_)
    · try dsimp only at c54
      have nv : ¬ vaB n D c p := fun z => by have := i1.mp c54; have z : rs n D p ≤ c := z; omega
      refine And.intro ⟨rfl, rfl, rfl⟩ ?_
      refine And.intro (by first | exact vp_nI (k := s) (N := 256) (by omega) (by decide) | (show vp_in (nI s &&& (nI p ^^^ (-1))) 256; rw [rest_e (by omega) hp]; exact vp_nI (by omega) (by decide))) ?_
      refine And.intro (by first | exact vp_nI (k := s) (N := 256) (by omega) (by decide) | (show vp_in (nI s &&& (nI p ^^^ (-1))) 256; rw [rest_e (by omega) hp]; exact vp_nI (by omega) (by decide))) ?_
      first
      | exact key _ _ _ v rfl hvs (Or.inr ⟨nv, rfl⟩)
      | exact key _ _ _ v rfl hvs (Or.inl ⟨yv, (if_neg (by omega)).symm⟩)
      | exact key _ _ _ (T (s - p) + 1) rfl ev (Or.inl ⟨yv, (if_pos (by omega)).symm⟩)
    · try dsimp only at c54
      have yv : vaB n D c p := by have := mt i1.mpr c54; show rs n D p ≤ c; omega
      refine And.intro ⟨rfl, rfl, rfl⟩ ?_
      refine And.intro (by first | exact vp_nI (k := s) (N := 256) (by omega) (by decide) | (show vp_in (nI s &&& (nI p ^^^ (-1))) 256; rw [rest_e (by omega) hp]; exact vp_nI (by omega) (by decide))) ?_
      refine And.intro (fun c60 => ?_) (fun c60 => ?_)
      · try dsimp only at c60
        rw [ev, hvs] at c60
        have c60 := i2.mp c60
        refine And.intro ⟨rfl, rfl, rfl⟩ ?_
        refine And.intro (by first | exact vp_nI (k := s) (N := 256) (by omega) (by decide) | (show vp_in (nI s &&& (nI p ^^^ (-1))) 256; rw [rest_e (by omega) hp]; exact vp_nI (by omega) (by decide))) ?_
        refine And.intro (by first | exact vp_nI (k := s) (N := 256) (by omega) (by decide) | (show vp_in (nI s &&& (nI p ^^^ (-1))) 256; rw [rest_e (by omega) hp]; exact vp_nI (by omega) (by decide))) ?_
        first
        | exact key _ _ _ v rfl hvs (Or.inr ⟨nv, rfl⟩)
        | exact key _ _ _ v rfl hvs (Or.inl ⟨yv, (if_neg (by omega)).symm⟩)
        | exact key _ _ _ (T (s - p) + 1) rfl ev (Or.inl ⟨yv, (if_pos (by omega)).symm⟩)
      · try dsimp only at c60
        rw [ev, hvs] at c60
        have c60 := mt i2.mpr c60
        refine And.intro (by first | exact vp_nI (k := s) (N := 256) (by omega) (by decide) | (show vp_in (nI s &&& (nI p ^^^ (-1))) 256; rw [rest_e (by omega) hp]; exact vp_nI (by omega) (by decide))) ?_
        first
        | exact key _ _ _ v rfl hvs (Or.inr ⟨nv, rfl⟩)
        | exact key _ _ _ v rfl hvs (Or.inl ⟨yv, (if_neg (by omega)).symm⟩)
        | exact key _ _ _ (T (s - p) + 1) rfl ev (Or.inl ⟨yv, (if_pos (by omega)).symm⟩)
termination_by p
decreasing_by all_goals omega

theorem l_M_hours18 {d n : Nat} {D : SDt} {m0 : Mem} {K : Option Vv → Mem → Prop} {w c : Nat} (hS0 : SC n D m0) (hc : c ≤ 200) (hw : w < 2 ^ n) (h : ∀ m T x y z, Fr m0 m → HtR 100 n D c w T → (∀ t, t < 2 ^ n → t &&& w = t → gI m (1, 17, 0) t = nI (T t)) → Go (cW (d + 3)) i_M_hours (0, 0) K 77 [vo 1 0 0, vi (nI w), vi (nI c), x, y, z] [] m 0 0) (k : Nat) (m : Mem) (x y : Vv) (T : Nat → Nat) (H : HmI w m0 m T k) (hT : HtK 100 n D c w T k) (hk0 : 0 < k) (hk : k ≤ w + 1) : Go (cW (d + 3)) i_M_hours (0, 0) K 18 [vo 1 0 0, vi (nI w), vi (nI c), vi (nI k), x, y] [] m 0 0 := by
  have hS := H.1.sc hS0
  have hR := hS.ok
  have h8 := hS.le
  have bb2 := two_l n (by omega)
  have e0 : (nI k).toNatClampNeg = k := nI_clamp (by omega)
  have t9 : ∀ t, t < k → t &&& w = t → T t ≤ 100 := fun t ht htw => by
    rcases Nat.eq_zero_or_pos t with z | z
    · rw [z, hT.1]; omega
    · exact (hT.2 t z htw ht).1
  refine Go.runR (callT_mono MT _) [18, 34, 77] 200 hR ?_
  refine And.intro (fun c20 => ?_) (fun c20 => ?_)
  · try dsimp only at c20
    have hk2 := lq0 (N := w + 1) c20 rfl rfl (by omega) hk (by omega)
    rw [hk2] at H hT
    exact h m T _ _ _ H.1 ⟨hT.1, fun s h0 h1 h2 => hT.2 s h0 h1 (by have := sb_le h1; omega)⟩ (fun t _ h2 => H.2 t (by have := sb_le h2; omega) h2)
  · try dsimp only at c20
    have hk2 := lq1 (N := w + 1) c20 rfl rfl (by omega) hk (by omega)
    have si : nI k &&& (nI w ^^^ (-1)) = 0 ↔ k &&& w = k := sb_z (by omega) (by omega)
    refine And.intro ⟨rfl, rfl, rfl⟩ ?_
    refine And.intro (vp_nI (k := k) (N := 256) (by omega) (by decide)) ?_
    refine And.intro (fun c31 => ?_) (fun c31 => ?_)
    · try dsimp only at c31
      have yk := si.mp c31
      refine l_M_hours34 (T := T) hS0 hc (by omega) hk0 (by omega) yk t9 (fun m' v y' H' hv hM => ?_) k _ 100 _ ⟨H.1.p1 (by omega), fun t ht htw => ?_⟩ (by rw [rd11, if_pos ⟨rfl, rfl, e0.symm⟩]; rfl) (Mn.top _ _ _ _) (Nat.and_self k)
      · refine Go.runR (callT_mono MT _) [18] 200 H'.1.ok ?_
        exact go_eq (ls' := [vo 1 0 0, vi (nI w), vi (nI c), vi (nI (k + 1)), vi (nI 0), y']) (by rw [nI_succ]; rfl) rfl (l_M_hours18 hS0 hc hw h (k + 1) m' _ _ (fun s => if s = k then v else T s) ⟨H'.1, fun t ht htw => by
        show gI m' (1, 17, 0) t = nI (if t = k then v else T t)
        by_cases z : t = k
        · rw [if_pos z, z]; exact hv
        · rw [if_neg z]; exact H'.2 t (by omega) htw⟩ (hT.next hk0 (fun _ => hM)) (by omega) (by omega))
      · rw [rd11, if_neg (by rw [e0]; omega)]
        exact H.2 t ht htw
    · try dsimp only at c31
      have nk := mt si.mpr c31
      refine (fun (m' : Mem) H' => go_eq (ls' := [vo 1 0 0, vi (nI w), vi (nI c), vi (nI (k + 1)), x, y]) (by rw [nI_succ]) rfl (l_M_hours18 hS0 hc hw h (k + 1) m' x y (fun s => if s = k then 100 else T s) H' (hT.next hk0 (fun z => absurd z nk)) (by omega) (by omega)) : ∀ m', HmI w m0 m' (fun s => if s = k then 100 else T s) (k + 1) → Go (cW (d + 3)) i_M_hours (0, 0) K 18 [vo 1 0 0, vi (nI w), vi (nI c), vi (nI k + 1), x, y] [] m' 0 0) _ ⟨H.1.p1 (by omega), fun t ht htw => ?_⟩
      have ne : t ≠ k := fun z => nk (z ▸ htw)
      rw [rd11, if_neg (by rw [e0]; exact fun z => ne z.2.2)]
      show gI m (1, 17, 0) t = nI (if t = k then 100 else T t)
      rw [if_neg ne]
      exact H.2 t (by omega) htw
termination_by w + 1 - k
decreasing_by all_goals omega

theorem l_M_hours89 {d n : Nat} {D : SDt} {m0 m : Mem} {K : Option Vv → Mem → Prop} {w c : Nat} {T : Nat → Nat} (hS0 : SC n D m0) (g : Fr m0 m) (hc : c ≤ 200) (hw : w < 2 ^ n) (hT : ∀ t, t < 2 ^ n → t &&& w = t → gI m (1, 17, 0) t = nI (T t) ∧ T t ≤ 100) (h : ∀ v, FiR n D c w T 0 v → K (some (vi (nI (T w)))) (askM m (nI v))) (p v : Nat) (x : Vv) (hp : p &&& w = p) (hF : FiR n D c w T p v) : Go (cW (d + 3)) i_M_hours (0, 0) K 89 [vo 1 0 0, vi (nI w), vi (nI c), vi (nI v), vi (nI p), x] [] m 0 0 := by
  have hS := g.sc hS0
  have hR := hS.ok
  have h8 := hS.le
  have bb2 := two_l n (by omega)
  have ple := sb_le hp
  have ew : (nI w).toNatClampNeg = w := nI_clamp (by omega)
  have fw := hT w hw (Nat.and_self w)
  have r0 := rsL hS p
  have i1 : nI c < nI (rs n D p) ↔ c < rs n D p := nI_ltI (by omega) (by omega)
  have es : (nI w &&& (nI p ^^^ (-1))).toNatClampNeg = w - p := by rw [rest_e (by omega) hp, nI_clamp (by omega)]
  have et := hT (w - p) (by omega) (sb_rest (by omega) hp (Nat.and_self w))
  have ee : gI m (1, 17, 0) (nI w &&& (nI p ^^^ (-1))).toNatClampNeg = gI m (1, 17, 0) (nI w).toNatClampNeg - 1 ↔ T (w - p) + 1 = T w := by rw [es, et.1, ew, fw.1]; exact eq_pred (by omega) (by omega)
  refine Go.runR (callT_mono MT _) [89] 200 hR ?_
  refine And.intro (fun c90 => ?_) (fun c90 => ?_)
  · try dsimp only at c90
    have hp0 : p = 0 := by rcases Nat.eq_zero_or_pos p with z | z; exact z; exact absurd c90 (nI_nle z (by omega))
    subst hp0
    refine And.intro ⟨rfl, rfl, rfl⟩ ?_
    refine And.intro (by first | exact vp_nI (k := w) (N := 256) (by omega) (by decide) | (show vp_in (nI w &&& (nI p ^^^ (-1))) 256; rw [rest_e (by omega) hp]; exact vp_nI (by omega) (by decide))) ?_
    refine m_M_ask (by repeat' (first | exact hR | apply OKR.pI | apply OKR.pL | apply OKR.cpI | apply OKR.wI))  (And.intro (by repeat' (first | exact hR | apply OKR.pI | apply OKR.pL | apply OKR.cpI | apply OKR.wI)) ?_)
    refine And.intro trivial ?_
    rw [ew, fw.1]; exact h v hF
  · try dsimp only at c90
    have hp0 : 0 < p := by rcases Nat.eq_zero_or_pos p with z | z; subst z; exact absurd (show nI 0 ≤ 0 by decide) c90; exact z
    have lt : (p - 1) &&& w < p := Nat.lt_of_le_of_lt Nat.and_le_left (by omega)
    have key : ∀ v2 : Nat, ((Fo n D c w T p ∧ v2 = p) ∨ (¬ Fo n D c w T p ∧ v2 = v)) → Go (cW (d + 3)) i_M_hours (0, 0) K 89 [vo 1 0 0, vi (nI w), vi (nI c), vi (nI v2), vi ((nI p - 1) &&& nI w), x] [] m 0 0 := fun v2 z => go_eq (by rw [pred_and hp0]) rfl (l_M_hours89 hS0 g hc hw hT h ((p - 1) &&& w) v2 x (sb_and hp) (hF.step hp0 hp z))
    refine m_M_ripples (by exact hS) (s := p) rfl (by omega) (And.intro (by repeat' (first | exact hR | apply OKR.pI | apply OKR.pL | apply OKR.cpI | apply OKR.wI)) ?_)
    refine And.intro (fun c95 => ?_) (fun c95 => ?_)
    · try dsimp only at c95
      have nf : ¬ Fo n D c w T p := fun z => by have := i1.mp c95; have y : rs n D p ≤ c := z.2.1; omega
      first
      | exact key v (Or.inr ⟨nf, rfl⟩)
      | exact key v (Or.inr ⟨fun z => c110 (ee.mpr z.2.2), rfl⟩)
      | exact key p (Or.inl ⟨⟨hp, pv, ee.mp c110⟩, rfl⟩)
    · try dsimp only at c95
      have pv : vaB n D c p := by have := mt i1.mpr c95; show rs n D p ≤ c; omega
      refine And.intro ⟨rfl, rfl, rfl⟩ ?_
      refine And.intro (by first | exact vp_nI (k := w) (N := 256) (by omega) (by decide) | (show vp_in (nI w &&& (nI p ^^^ (-1))) 256; rw [rest_e (by omega) hp]; exact vp_nI (by omega) (by decide))) ?_
      refine And.intro ⟨rfl, rfl, rfl⟩ ?_
      refine And.intro (by first | exact vp_nI (k := w) (N := 256) (by omega) (by decide) | (show vp_in (nI w &&& (nI p ^^^ (-1))) 256; rw [rest_e (by omega) hp]; exact vp_nI (by omega) (by decide))) ?_
      refine And.intro (fun c110 => ?_) (fun c110 => ?_)
      · try dsimp only at c110
        first
        | exact key v (Or.inr ⟨nf, rfl⟩)
        | exact key v (Or.inr ⟨fun z => c110 (ee.mpr z.2.2), rfl⟩)
        | exact key p (Or.inl ⟨⟨hp, pv, ee.mp c110⟩, rfl⟩)
      · try dsimp only at c110
        first
        | exact key v (Or.inr ⟨nf, rfl⟩)
        | exact key v (Or.inr ⟨fun z => c110 (ee.mpr z.2.2), rfl⟩)
        | exact key p (Or.inl ⟨⟨hp, pv, ee.mp c110⟩, rfl⟩)
termination_by p
decreasing_by all_goals omega

theorem l_X_hours19 {d n : Nat} {D : SDt} {m : Mem} {K : Option Vv → Mem → Prop} {w c : Nat} (hS : SC n D m) (hc : c ≤ 200) (hw : w < 2 ^ n) (h0 : ∀ i, i < n → w.testBit i = true → c < rp D i → K (some (vi (-9))) m) (h : (∀ i, i < n → w.testBit i = true → rp D i ≤ c) → Go (cW (d + 2)) i_X_hours (0, 0) K 38 [vo 0 0 0, vi (nI w), vi (nI c), vi (nI n)] [] m 0 0) (k : Nat) (hk : k ≤ n) (hg : ∀ i, i < k → w.testBit i = true → rp D i ≤ c) : Go (cW (d + 2)) i_X_hours (0, 0) K 19 [vo 0 0 0, vi (nI w), vi (nI c), vi (nI k)] [] m 0 0 := by
  have hR := hS.ok
  have h8 := hS.le
  have q1 := hS.nA
  have bb2 := two_l n (by omega)
  refine Go.runR (callT_mono MT _) [19, 38] 200 hR ?_
  refine And.intro ⟨(by first | decide | assumption | omega), (by first | decide | assumption | omega)⟩ ?_
  refine And.intro (fun c23 => ?_) (fun c23 => ?_)
  · try dsimp only at c23
    have hk2 := lq_e c23 q1 rfl hk (by omega)
    subst hk2
    exact h hg
  · try dsimp only at c23
    have hk2 := lq_m c23 q1 rfl hk (by omega)
    have r9 := rpL hS hk2
    have i1 : nI (rp D k) ≤ nI c ↔ rp D k ≤ c := nI_leI (by omega) (by omega)
    refine m_X_contains (by repeat' (first | exact hR | apply OKR.pI | apply OKR.pL | apply OKR.cpI | apply OKR.wI)) (s := w) (i := k) rfl rfl (by omega) (by omega) (And.intro (by repeat' (first | exact hR | apply OKR.pI | apply OKR.pL | apply OKR.cpI | apply OKR.wI)) ?_)
    refine And.intro (fun c27 => ?_) (fun c27 => ?_)
    · try dsimp only at c27
      refine go_eq (ls' := [vo 0 0 0, vi (nI w), vi (nI c), vi (nI (k + 1))]) (by rw [nI_succ]; rfl) rfl (l_X_hours19 hS hc hw h0 h (k + 1) hk2 (fun i hi hb => ?_))
      rcases Nat.lt_or_ge i k with z | z
      · exact hg i z hb
      · obtain rfl : i = k := by omega
        first
        | exact absurd hb (tb_e0 c27)
        | exact i1.mp c33
    · try dsimp only at c27
      refine And.intro ⟨(by first | decide | assumption | omega), (by first | decide | assumption | omega)⟩ ?_
      refine m_St_ripple (by exact hS) rfl hk2 (And.intro (by repeat' (first | exact hR | apply OKR.pI | apply OKR.pL | apply OKR.cpI | apply OKR.wI)) ?_)
      refine And.intro (fun c33 => ?_) (fun c33 => ?_)
      · try dsimp only at c33
        refine go_eq (ls' := [vo 0 0 0, vi (nI w), vi (nI c), vi (nI (k + 1))]) (by rw [nI_succ]; rfl) rfl (l_X_hours19 hS hc hw h0 h (k + 1) hk2 (fun i hi hb => ?_))
        rcases Nat.lt_or_ge i k with z | z
        · exact hg i z hb
        · obtain rfl : i = k := by omega
          first
          | exact absurd hb (tb_e0 c27)
          | exact i1.mp c33
      · try dsimp only at c33
        refine And.intro trivial ?_
        exact h0 k hk2 (tb_n0 c27) (by have := mt i1.mpr c33; omega)
termination_by n - k
decreasing_by all_goals omega

theorem p_hours {d : Nat} {m : Mem} {K : Option Vv → Option Vv → Mem → Prop} (R : RelAB m) {w v : Int32} (h : ∀ v m', RelAB m' → K v v m') : cW (d + 7) n_X_hours [vo 0 0 0, vi w, vi v] m (fun u m1 => cW (d + 7) n_M_hours [vo 1 0 0, vi w, vi v] m1 (fun w m2 => K u w m2)) := by
  have hR := R.1
  obtain ⟨n, hc⟩ := R.2.2.2.2
  obtain ⟨D, hS⟩ := hc.sc hR
  have ht := R.2.2.2.1
  obtain ⟨q1, q2⟩ := hc.many
  have h8 := hc.le
  have hz : gI m (0, 15, 0) 0 = 0 ∧ gI m (0, 16, 0) 0 = 0 := ht.2.2.2.2.2
  have bb2 := two_l n (by omega)
  rcases setCase (n := n) w with ⟨s, hs, rfl⟩ | q
  · by_cases qw : 1 ≤ v ∧ v ≤ 200
    · obtain ⟨c, hc, rfl⟩ := nI_of2 (x := v) (M := 200) (n := 200) rfl (by grind) qw.2
      refine w_X_hours (Go.runR (callT_mono MT _) [19] 200 (by repeat' (first | exact hR | exact g1.ok | exact g2.ok | exact g3.ok | apply OKR.pI | apply OKR.pL | apply OKR.cpI | apply OKR.wI)) ?_)
      refine And.intro ⟨(by first | decide | assumption | omega), (by first | decide | assumption | omega)⟩ ?_
      refine m_St_hasSet1 (by exact hS) rfl hs (And.intro (by repeat' (first | exact hR | exact g1.ok | exact g2.ok | exact g3.ok | apply OKR.pI | apply OKR.pL | apply OKR.cpI | apply OKR.wI)) ?_)
      refine And.intro (fun c4 => ?_) (fun c4 => ?_)
      · first | exact absurd c4 (by decide) | exact absurd (by decide) c4 | (exfalso; grind)
      · try dsimp only at c4
        refine m_X_isWithin (by repeat' (first | exact hR | exact g1.ok | exact g2.ok | exact g3.ok | apply OKR.pI | apply OKR.pL | apply OKR.cpI | apply OKR.wI)) (And.intro (by repeat' (first | exact hR | exact g1.ok | exact g2.ok | exact g3.ok | apply OKR.pI | apply OKR.pL | apply OKR.cpI | apply OKR.wI)) ?_)
        rw [show b2 (1 ≤ nI c ∧ nI c ≤ 200) = 1 from if_pos qw]
        refine And.intro (fun c9 => ?_) (fun c9 => ?_)
        · first | exact absurd c9 (by decide) | exact absurd (by decide) c9 | (exfalso; grind)
        · try dsimp only at c9
          refine And.intro ⟨(by first | decide | assumption | omega), (by first | decide | assumption | omega)⟩ ?_
          refine And.intro ⟨(by first | decide | assumption | omega), (by first | decide | assumption | omega)⟩ ?_
          refine m_Se_lookAt (by exact hS) hz (fun m1 g1 hE => And.intro g1.ok ?_)
          refine go_eq (ls' := [vo 0 0 0, vi (nI s), vi (nI c), vi (nI 0)]) rfl rfl (l_X_hours19 hE.1 hc hs (fun i hi hb1 hb2 => ?_) (fun hg => ?_) 0 (Nat.zero_le _) (fun i hi => absurd hi (by omega)))
          · refine w_M_hours (Go.runR (callT_mono MT _) [18] 200 (by repeat' (first | exact hR | exact g1.ok | exact g2.ok | exact g3.ok | apply OKR.pI | apply OKR.pL | apply OKR.cpI | apply OKR.wI)) ?_)
            refine m_M_isSet1 (by first | exact hS | exact hE.1 | exact hE.1.tell | exact hE2.1.tell) rfl hs (And.intro (by repeat' (first | exact hR | exact g1.ok | exact g2.ok | exact g3.ok | apply OKR.pI | apply OKR.pL | apply OKR.cpI | apply OKR.wI)) ?_)
            refine And.intro (fun c3 => ?_) (fun c3 => ?_)
            · first | exact absurd c3 (by decide) | exact absurd (by decide) c3 | (exfalso; grind)
            · try dsimp only at c3
              refine m_M_in (by repeat' (first | exact hR | exact g1.ok | exact g2.ok | exact g3.ok | apply OKR.pI | apply OKR.pL | apply OKR.cpI | apply OKR.wI)) (And.intro (by repeat' (first | exact hR | exact g1.ok | exact g2.ok | exact g3.ok | apply OKR.pI | apply OKR.pL | apply OKR.cpI | apply OKR.wI)) ?_)
              rw [show b2 (1 ≤ nI c ∧ nI c ≤ 200) = 1 from if_pos qw]
              refine And.intro (fun c8 => ?_) (fun c8 => ?_)
              · first | exact absurd c8 (by decide) | exact absurd (by decide) c8 | (exfalso; grind)
              · try dsimp only at c8
                refine And.intro ⟨rfl, rfl, rfl⟩ ?_
                refine And.intro (vp_nI (k := 0) (N := 256) (by omega) (by decide)) ?_
                refine go_eq (ls' := [vo 1 0 0, vi (nI s), vi (nI c), vi (nI 1), vu, vu]) rfl rfl (l_M_hours18 (by exact hE.1) hc hs (fun m3 T' x y z g3 hT' ht' => ?_) 1 _ vu vu (fun _ => 0) ⟨(Fr.refl (by repeat' (first | exact hR | exact g1.ok | exact g2.ok | exact g3.ok | apply OKR.pI | apply OKR.pL | apply OKR.cpI | apply OKR.wI))).p1 (by omega), fun t ht htw => ?_⟩ ⟨rfl, fun q h0 _ h1 => absurd h0 (by omega)⟩ (by omega) (by omega))
                · have ew : (nI s).toNatClampNeg = s := nI_clamp (by omega)
                  have tw := ht' s hs (Nat.and_self s)
                  have t1 : ∀ t, t < 2 ^ n → t &&& s = t → gI m3 (1, 17, 0) t = nI (T' t) ∧ T' t ≤ 100 := fun t h1 h2 => ⟨ht' t h1 h2, by
                    rcases Nat.eq_zero_or_pos t with z | z
                    · rw [z, hT'.1]; omega
                    · exact (hT'.2 t z h2 (by omega)).1⟩
                  refine Go.runR (callT_mono MT _) [89] 200 g3.ok ?_
                  refine And.intro ⟨rfl, rfl, rfl⟩ ?_
                  refine And.intro (vp_nI (k := s) (N := 256) (by omega) (by decide)) ?_
                  refine And.intro (fun c82 => ?_) (fun c82 => ?_)
                  · exact absurd c82 (by
                    rw [ew, tw, ht_bad hT' hi h8 hb2 s (by omega) (Nat.and_self s) hb1]; decide)
                  · try dsimp only at c82
                    refine And.intro trivial ?_
                    exact h _ _ ((g1.trans g3).rel R)
                · obtain rfl : t = 0 := by omega
                  rfl
          · refine Go.runR (callT_mono MT _) [] 200 g1.ok ?_
            refine And.intro ⟨(by first | decide | assumption | omega), (by first | decide | assumption | omega)⟩ ?_
            refine m_Se_fewestHours hE rfl rfl hc hs (fun m2 T g2 hE2 hT ht => And.intro g2.ok ?_)
            have lw := ht_le h8 hs hT hg s (Nat.and_self s)
            have l8 := pcL s (by omega)
            refine And.intro ⟨(by first | decide | assumption | omega), (by first | decide | assumption | omega)⟩ ?_
            refine m_Se_firstHour hE2 rfl rfl hc hs (fun t h1 h2 => ⟨ht t h1 h2, by
            rcases Nat.eq_zero_or_pos t with z | z
            · rw [z, hT.1]; omega
            · exact (hT.2 t z h2 (by omega)).1⟩) (fun v1 hv1 => And.intro (by repeat' (first | exact hR | exact g1.ok | exact g2.ok | exact g3.ok | apply OKR.pI | apply OKR.pL | apply OKR.cpI | apply OKR.wI)) ?_)
            refine m_X_tell (by repeat' (first | exact hR | exact g1.ok | exact g2.ok | exact g3.ok | apply OKR.pI | apply OKR.pL | apply OKR.cpI | apply OKR.wI))  (And.intro (by repeat' (first | exact hR | exact g1.ok | exact g2.ok | exact g3.ok | apply OKR.pI | apply OKR.pL | apply OKR.cpI | apply OKR.wI)) ?_)
            refine And.intro trivial ?_
            refine w_M_hours (Go.runR (callT_mono MT _) [18] 200 (by repeat' (first | exact hR | exact g1.ok | exact g2.ok | exact g3.ok | apply OKR.pI | apply OKR.pL | apply OKR.cpI | apply OKR.wI)) ?_)
            refine m_M_isSet1 (by first | exact hS | exact hE.1 | exact hE.1.tell | exact hE2.1.tell) rfl hs (And.intro (by repeat' (first | exact hR | exact g1.ok | exact g2.ok | exact g3.ok | apply OKR.pI | apply OKR.pL | apply OKR.cpI | apply OKR.wI)) ?_)
            refine And.intro (fun c3 => ?_) (fun c3 => ?_)
            · first | exact absurd c3 (by decide) | exact absurd (by decide) c3 | (exfalso; grind)
            · try dsimp only at c3
              refine m_M_in (by repeat' (first | exact hR | exact g1.ok | exact g2.ok | exact g3.ok | apply OKR.pI | apply OKR.pL | apply OKR.cpI | apply OKR.wI)) (And.intro (by repeat' (first | exact hR | exact g1.ok | exact g2.ok | exact g3.ok | apply OKR.pI | apply OKR.pL | apply OKR.cpI | apply OKR.wI)) ?_)
              rw [show b2 (1 ≤ nI c ∧ nI c ≤ 200) = 1 from if_pos qw]
              refine And.intro (fun c8 => ?_) (fun c8 => ?_)
              · first | exact absurd c8 (by decide) | exact absurd (by decide) c8 | (exfalso; grind)
              · try dsimp only at c8
                refine And.intro ⟨rfl, rfl, rfl⟩ ?_
                refine And.intro (vp_nI (k := 0) (N := 256) (by omega) (by decide)) ?_
                refine go_eq (ls' := [vo 1 0 0, vi (nI s), vi (nI c), vi (nI 1), vu, vu]) rfl rfl (l_M_hours18 (by exact hE2.1.tell) hc hs (fun m3 T' x y z g3 hT' ht' => ?_) 1 _ vu vu (fun _ => 0) ⟨(Fr.refl (by repeat' (first | exact hR | exact g1.ok | exact g2.ok | exact g3.ok | apply OKR.pI | apply OKR.pL | apply OKR.cpI | apply OKR.wI))).p1 (by omega), fun t ht htw => ?_⟩ ⟨rfl, fun q h0 _ h1 => absurd h0 (by omega)⟩ (by omega) (by omega))
                · have ew : (nI s).toNatClampNeg = s := nI_clamp (by omega)
                  have tw := ht' s hs (Nat.and_self s)
                  have t1 : ∀ t, t < 2 ^ n → t &&& s = t → gI m3 (1, 17, 0) t = nI (T' t) ∧ T' t ≤ 100 := fun t h1 h2 => ⟨ht' t h1 h2, by
                    rcases Nat.eq_zero_or_pos t with z | z
                    · rw [z, hT'.1]; omega
                    · exact (hT'.2 t z h2 (by omega)).1⟩
                  refine Go.runR (callT_mono MT _) [89] 200 g3.ok ?_
                  refine And.intro ⟨rfl, rfl, rfl⟩ ?_
                  refine And.intro (vp_nI (k := s) (N := 256) (by omega) (by decide)) ?_
                  refine And.intro (fun c82 => ?_) (fun c82 => ?_)
                  · try dsimp only at c82
                    refine go_eq (ls' := [vo 1 0 0, vi (nI s), vi (nI c), vi (nI 0), vi (nI s), z]) rfl rfl (l_M_hours89 (T := T') (by exact hE2.1.tell) g3 hc hs t1 (fun v2 hv2 => ?_) s 0 z (Nat.and_self s) (FiR.top _ _ _ _ _))
                    have eT : T s = T' s := ht_eq h8 hs (by omega) (by omega) hT hT' hg s (Nat.and_self s)
                    have ev : v1 = v2 := by
                      refine hv1.uniq (v := v2) ?_
                      have cg : ∀ q, Fo n D c s T' q ↔ Fo n D c s T q := fun q => by
                        have : ∀ q, q &&& s = q → T' (s - q) = T (s - q) := fun q h => (ht_eq h8 hs (by omega) (by omega) hT hT' hg _ (sb_rest (by omega) h (Nat.and_self s))).symm
                        constructor
                        · intro ⟨y1, y2, y3⟩
                          exact ⟨y1, y2, by rw [← this q y1, eT]; exact y3⟩
                        · intro ⟨y1, y2, y3⟩
                          exact ⟨y1, y2, by rw [this q y1, ← eT]; exact y3⟩
                      rcases hv2 with ⟨y1, y2⟩ | ⟨y1, y2, y3⟩
                      · exact Or.inl ⟨y1, fun q h1 h2 => y2 q h1 ((cg q).mpr h2)⟩
                      · exact Or.inr ⟨y1, (cg _).mp y2, fun q h1 h2 => y3 q h1 ((cg q).mpr h2)⟩
                    rw [← eT, ← ev]
                    exact h _ _ (R.tell2 (g1.trans g2) g3)
                  · exact absurd (by
                    rw [ew, tw, ← ht_eq h8 hs (by omega) (by omega) hT hT' hg s (Nat.and_self s)]
                    exact nI_lt (b := 100) (by omega) (by decide)) c82
                · obtain rfl : t = 0 := by omega
                  rfl
    · refine w_X_hours (Go.runR (callT_mono MT _) [19] 200 (by repeat' (first | exact hR | exact g1.ok | exact g2.ok | exact g3.ok | apply OKR.pI | apply OKR.pL | apply OKR.cpI | apply OKR.wI)) ?_)
      refine And.intro ⟨(by first | decide | assumption | omega), (by first | decide | assumption | omega)⟩ ?_
      refine m_St_hasSet1 (by exact hS) rfl hs (And.intro (by repeat' (first | exact hR | exact g1.ok | exact g2.ok | exact g3.ok | apply OKR.pI | apply OKR.pL | apply OKR.cpI | apply OKR.wI)) ?_)
      refine And.intro (fun c4 => ?_) (fun c4 => ?_)
      · first | exact absurd c4 (by decide) | exact absurd (by decide) c4 | (exfalso; grind)
      · try dsimp only at c4
        refine m_X_isWithin (by repeat' (first | exact hR | exact g1.ok | exact g2.ok | exact g3.ok | apply OKR.pI | apply OKR.pL | apply OKR.cpI | apply OKR.wI)) (And.intro (by repeat' (first | exact hR | exact g1.ok | exact g2.ok | exact g3.ok | apply OKR.pI | apply OKR.pL | apply OKR.cpI | apply OKR.wI)) ?_)
        rw [show b2 (1 ≤ v ∧ v ≤ 200) = 0 from if_neg qw]
        refine And.intro (fun c9 => ?_) (fun c9 => ?_)
        · try dsimp only at c9
          refine And.intro trivial ?_
          refine w_M_hours (Go.runR (callT_mono MT _) [18] 200 (by repeat' (first | exact hR | exact g1.ok | exact g2.ok | exact g3.ok | apply OKR.pI | apply OKR.pL | apply OKR.cpI | apply OKR.wI)) ?_)
          refine m_M_isSet1 (by first | exact hS | exact hE.1 | exact hE.1.tell | exact hE2.1.tell) rfl hs (And.intro (by repeat' (first | exact hR | exact g1.ok | exact g2.ok | exact g3.ok | apply OKR.pI | apply OKR.pL | apply OKR.cpI | apply OKR.wI)) ?_)
          refine And.intro (fun c3 => ?_) (fun c3 => ?_)
          · first | exact absurd c3 (by decide) | exact absurd (by decide) c3 | (exfalso; grind)
          · try dsimp only at c3
            refine m_M_in (by repeat' (first | exact hR | exact g1.ok | exact g2.ok | exact g3.ok | apply OKR.pI | apply OKR.pL | apply OKR.cpI | apply OKR.wI)) (And.intro (by repeat' (first | exact hR | exact g1.ok | exact g2.ok | exact g3.ok | apply OKR.pI | apply OKR.pL | apply OKR.cpI | apply OKR.wI)) ?_)
            rw [show b2 (1 ≤ v ∧ v ≤ 200) = 0 from if_neg qw]
            refine And.intro (fun c8 => ?_) (fun c8 => ?_)
            · try dsimp only at c8
              refine And.intro trivial ?_
              exact h _ _ R
            · first | exact absurd c8 (by decide) | exact absurd (by decide) c8 | (exfalso; grind)
        · first | exact absurd c9 (by decide) | exact absurd (by decide) c9 | (exfalso; grind)
  · refine w_X_hours (Go.runR (callT_mono MT _) [19] 200 (by repeat' (first | exact hR | exact g1.ok | exact g2.ok | exact g3.ok | apply OKR.pI | apply OKR.pL | apply OKR.cpI | apply OKR.wI)) ?_)
    refine And.intro ⟨(by first | decide | assumption | omega), (by first | decide | assumption | omega)⟩ ?_
    refine m_St_hasSet0 (by exact hS) q (And.intro (by repeat' (first | exact hR | exact g1.ok | exact g2.ok | exact g3.ok | apply OKR.pI | apply OKR.pL | apply OKR.cpI | apply OKR.wI)) ?_)
    refine And.intro (fun c4 => ?_) (fun c4 => ?_)
    · try dsimp only at c4
      refine And.intro trivial ?_
      refine w_M_hours (Go.runR (callT_mono MT _) [18] 200 (by repeat' (first | exact hR | exact g1.ok | exact g2.ok | exact g3.ok | apply OKR.pI | apply OKR.pL | apply OKR.cpI | apply OKR.wI)) ?_)
      refine m_M_isSet0 (by exact hS) q (And.intro (by repeat' (first | exact hR | exact g1.ok | exact g2.ok | exact g3.ok | apply OKR.pI | apply OKR.pL | apply OKR.cpI | apply OKR.wI)) ?_)
      refine And.intro (fun c3 => ?_) (fun c3 => ?_)
      · try dsimp only at c3
        refine And.intro trivial ?_
        exact h _ _ R
      · first | exact absurd c3 (by decide) | exact absurd (by decide) c3 | (exfalso; grind)
    · first | exact absurd c4 (by decide) | exact absurd (by decide) c4 | (exfalso; grind)
