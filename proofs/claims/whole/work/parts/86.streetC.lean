/-! Written by a program (wip/whole/p86.py): the constructors: single steps; a street. -/
section ST
variable {C : CT} {cd : List Ins} {cap : Nat × Nat} {K : Option Vv → Mem → Prop} {ix : Nat} {ls st : List Vv} {m : Mem} {uc us : Nat}
theorem go_eff (hC : monoC C) {ins : Ins} (hi : cd[ix]? = some ins) {E : Eff} (he : eff cap ins ls st m uc us = E) (h : stepE C cap (Go C cd cap K) K E) : Go C cd cap K ix ls st m uc us := by
  refine Go.step hC ?_
  unfold stp
  rw [hi]
  show stepE C cap (Go C cd cap K) K (eff cap ins ls st m uc us)
  rw [he]
  exact h
theorem go_eqC {ls' : List Vv} {m' : Mem} {uc' us' : Nat} (e : ls = ls') (e2 : m = m') (e3 : uc = uc') (e4 : us = us') (h : Go C cd cap K ix ls' st m' uc' us') : Go C cd cap K ix ls st m uc us := by subst e; subst e2; subst e3; subst e4; exact h
theorem go_get (hC : monoC C) {x : Nat} {a b nx : Nat} {v : Vv} {ty : List Nat} {o : Id3} {w : Option Id3} (hi : cd[ix]? = some (.getfield x, a, b, nx, v, 2 :: ty)) (hs : Nat.beq (sh o) a = true) (hv : gR m o b = w) (h : Go C cd cap K nx ls (vr w :: st) m uc us) : Go C cd cap K ix ls (vr (some o) :: st) m uc us := by
  refine go_eff hC hi (E := eP (nx, ls, vr w :: st, m, uc, us)) ?_ h
  show eGet a b nx (2 :: ty) ls (vr (some o) :: st) m uc us = _
  unfold eGet
  dsimp only
  rw [hs, ← hv]
  rfl
theorem go_call (hC : monoC C) {x : Nat} {a b nx : Nat} {v : Vv} {mc ms c : Nat} {r : List Nat} (hi : cd[ix]? = some (.invokespecial x, a, b, nx, v, mc :: ms :: c :: r)) (h1 : uc ≤ cap.1) (h2 : us ≤ cap.2) (hc : (Nat.ble b st.length && (Nat.ble (ctgs (st.drop b)) 8 && rcv c (st.take b).reverse)) = true) (h3 : uc + mc ≤ cap.1 ∧ us + ms ≤ cap.2) (hz : mc = 0 → ms = 0) (h : C a (st.take b).reverse m (fun v m' => Go C cd cap K nx ls (inL v (st.drop b)) m' (uc + mc) (us + ms))) : Go C cd cap K ix ls st m uc us := by
  refine go_eff hC hi (E := eC a (st.take b).reverse mc ms (nx, ls, st.drop b, m, uc, us)) ?_ ?_
  · show eEnd cap uc us (eCall a b nx (mc :: ms :: c :: r) ls st m uc us) = _
    unfold eEnd
    rw [Nat.ble_eq_true_of_le h1, Nat.ble_eq_true_of_le h2]
    show eCall a b nx (mc :: ms :: c :: r) ls st m uc us = _
    unfold eCall
    dsimp only
    rw [hc]
  · cases mc with
    | zero =>
      obtain rfl := hz rfl
      exact h
    | succ k => exact ⟨h3, h⟩
end ST
theorem rdR (m : Mem) (t i k : Nat) (v : Option Id3) (t' i' k' : Nat) : gR (pR m (0, t, i) k v) (0, t', i') k' = if t' = t ∧ i' = i ∧ k' = k then v else gR m (0, t', i') k' := rfl
theorem rdRn (m : Mem) (t i k : Nat) (v : Option Id3) (o : Id3) (k' : Nat) (h : o.1 ≠ 0) : gR (pR m (0, t, i) k v) o k' = gR m o k' := by
  obtain ⟨s, t', i'⟩ := o
  match s, h with
  | 0, h => exact absurd rfl h
  | 1, _ => rfl
  | _ + 2, _ => rfl
theorem cn_al (m : Mem) (s t n s' t' : Nat) : (al m s t n).2.2.2 s' t' = if s' = s ∧ t' = t then m.2.2.2 s' t' + n else m.2.2.2 s' t' := rfl
theorem cn_pR (m : Mem) (t i k : Nat) (v : Option Id3) (s' t' : Nat) : (pR m (0, t, i) k v).2.2.2 s' t' = m.2.2.2 s' t' := rfl
theorem m_Ho_init {d x : Nat} {m : Mem} {K : Option Vv → Mem → Prop} (h : K none (pR m (0, 8, x) 0 (some (0, 20, 0)))) : cW (d + 1) n_Ho_init [vo 0 8 x] m K := by
  refine w_Ho_init (Go.run (callT_mono MT _) [] 200 ?_)
  exact And.intro trivial h
theorem m_Hr_init {d x : Nat} {m : Mem} {K : Option Vv → Mem → Prop} (h : K none (pR (al m 0 11 1) (0, 10, x) 0 (some (0, 11, m.2.2.2 0 11)))) : cW (d + 1) n_Hr_init [vo 0 10 x] m K := by
  refine w_Hr_init (Go.run (callT_mono MT _) [] 200 ?_)
  refine And.intro ⟨rfl, Nat.le_of_ble_eq_true rfl, Nat.le_of_ble_eq_true rfl⟩ ?_
  exact And.intro trivial h
def ofS (s t i : Nat) : Prop := ((t = 5 ∨ t = 7 ∨ t = 9 ∨ t = 12) ∧ i = s) ∨ (t = 8 ∧ 8 * s ≤ i ∧ i < 8 * s + 8) ∨ (t = 10 ∧ 40 * s ≤ i ∧ i < 40 * s + 40)
def SFr (s : Nat) (m0 m : Mem) : Prop := (∀ o k, gI m o k = gI m0 o k) ∧ (∀ o k, gL m o k = gL m0 o k) ∧ (∀ o k, o.1 ≠ 0 → gR m o k = gR m0 o k) ∧ (∀ t i k, ¬ ofS s t i → gR m (0, t, i) k = gR m0 (0, t, i) k) ∧ ∀ t, m.2.2.2 1 t = m0.2.2.2 1 t
theorem SFr.pR {s : Nat} {m0 m : Mem} (H : SFr s m0 m) {t i k : Nat} {v : Option Id3} (h : ofS s t i) : SFr s m0 (pR m (0, t, i) k v) :=
  ⟨fun o k => (gI_pR ..).trans (H.1 o k), fun o k => (gL_pR ..).trans (H.2.1 o k), fun o k q => (rdRn _ _ _ _ _ _ _ q).trans (H.2.2.1 o k q), fun t' i' k' q => by
    rw [rdR, if_neg (fun z => q (by rw [z.1, z.2.1]; exact h))]
    exact H.2.2.2.1 t' i' k' q, fun t => H.2.2.2.2 t⟩
theorem SFr.al {s : Nat} {m0 m : Mem} (H : SFr s m0 m) {t n : Nat} : SFr s m0 (al m 0 t n) :=
  ⟨fun o k => (gI_al ..).trans (H.1 o k), fun o k => (gL_al ..).trans (H.2.1 o k), fun o k q => (gR_al ..).trans (H.2.2.1 o k q), fun t' i' k' q => (gR_al ..).trans (H.2.2.2.1 t' i' k' q), fun t' => by rw [cn_al, if_neg (fun z => absurd z.1 (by decide))]; exact H.2.2.2.2 t'⟩
def OKs (s : Nat) (m : Mem) (a b : Nat) : Prop := gR m (0, 5, s) 0 = some (0, 7, s) ∧ gR m (0, 5, s) 1 = some (0, 9, s) ∧ gR m (0, 5, s) 2 = some (0, 12, s) ∧ (∀ j, j < 8 → gR m (0, 12, s) j = some (0, 13, 8 * s + j)) ∧ (∀ j, j < a → gR m (0, 7, s) j = some (0, 8, 8 * s + j) ∧ gR m (0, 8, 8 * s + j) 0 = some (0, 20, 0)) ∧ ∀ j, j < b → gR m (0, 9, s) j = some (0, 10, 40 * s + j) ∧ gR m (0, 10, 40 * s + j) 0 = some (0, 11, 40 * s + j)
theorem OKs.cg {s a b : Nat} {m m' : Mem} (h : ∀ t i k, t = 5 ∨ t = 7 ∨ t = 8 ∨ t = 9 ∨ t = 10 ∨ t = 12 → ofS s t i → gR m' (0, t, i) k = gR m (0, t, i) k) (ha : a ≤ 8) (hb : b ≤ 40) (H : OKs s m a b) : OKs s m' a b := by
  obtain ⟨h1, h2, h3, h4, h5, h6⟩ := H
  have o5 : ofS s 5 s := Or.inl ⟨Or.inl rfl, rfl⟩
  refine ⟨by rw [h _ _ _ (by omega) o5]; exact h1, by rw [h _ _ _ (by omega) o5]; exact h2, by rw [h _ _ _ (by omega) o5]; exact h3, fun j hj => by rw [h _ _ _ (by omega) (Or.inl ⟨by omega, rfl⟩)]; exact h4 j hj, fun j hj => ?_, fun j hj => ?_⟩
  · rw [h 7 _ _ (by omega) (Or.inl ⟨by omega, rfl⟩), h 8 _ _ (by omega) (Or.inr (Or.inl (by omega)))]
    exact h5 j hj
  · rw [h 9 _ _ (by omega) (Or.inl ⟨by omega, rfl⟩), h 10 _ _ (by omega) (Or.inr (Or.inr (by omega)))]
    exact h6 j hj
def CN (s : Nat) (m0 m : Mem) (a b : Nat) : Prop := ∀ t, m.2.2.2 0 t = if t = 8 then 8 * s + a else if t = 10 ∨ t = 11 then 40 * s + b else if t = 7 ∨ t = 9 ∨ t = 12 then s + 1 else if t = 13 then 8 * s + 8 else m0.2.2.2 0 t
def SG (s : Nat) (m0 m : Mem) (a b : Nat) : Prop := SFr s m0 m ∧ OKs s m a b ∧ CN s m0 m a b
theorem SG.c8 {s a b : Nat} {m0 m : Mem} (H : SG s m0 m a b) : m.2.2.2 0 8 = 8 * s + a := (H.2.2 8).trans (if_pos rfl)
theorem SG.c10 {s a b : Nat} {m0 m : Mem} (H : SG s m0 m a b) : m.2.2.2 0 10 = 40 * s + b := (H.2.2 10).trans rfl
theorem SG.c11 {s a b : Nat} {m0 m : Mem} (H : SG s m0 m a b) : m.2.2.2 0 11 = 40 * s + b := (H.2.2 11).trans rfl
theorem SG.house {s a : Nat} {m0 m : Mem} (H : SG s m0 m a 0) (ha : a < 8) : SG s m0 (pR (pR (al m 0 8 1) (0, 8, 8 * s + a) 0 (some (0, 20, 0))) (0, 7, s) a (some (0, 8, 8 * s + a))) (a + 1) 0 := by
  obtain ⟨h1, ⟨g1, g2, g3, g4, g5, g6⟩, h3⟩ := H
  refine ⟨((h1.al).pR (Or.inr (Or.inl (by omega)))).pR (Or.inl ⟨by omega, rfl⟩), ⟨?_, ?_, ?_, fun j hj => ?_, fun j hj => ?_, fun j hj => absurd hj (by omega)⟩, fun t => ?_⟩
  · rw [rdR, if_neg (by omega), rdR, if_neg (by omega), gR_al]; exact g1
  · rw [rdR, if_neg (by omega), rdR, if_neg (by omega), gR_al]; exact g2
  · rw [rdR, if_neg (by omega), rdR, if_neg (by omega), gR_al]; exact g3
  · rw [rdR, if_neg (by omega), rdR, if_neg (by omega), gR_al]; exact g4 j hj
  · by_cases z : j = a
    · subst z
      rw [rdR, if_pos ⟨rfl, rfl, rfl⟩, rdR, if_neg (by omega), rdR, if_pos ⟨rfl, rfl, rfl⟩]
      exact ⟨rfl, rfl⟩
    · rw [rdR, if_neg (by omega), rdR, if_neg (by omega), gR_al, rdR, if_neg (by omega), rdR, if_neg (by omega), gR_al]
      exact g5 j (by omega)
  · rw [cn_pR, cn_pR, cn_al, h3 t]
    by_cases z : t = 8
    · rw [if_pos ⟨rfl, z⟩, if_pos z, if_pos z]; omega
    · rw [if_neg (fun y => z y.2), if_neg z, if_neg z]
theorem SG.hour {s b : Nat} {m0 m : Mem} (H : SG s m0 m 8 b) (hb : b < 40) : SG s m0 (pR (pR (al (al m 0 10 1) 0 11 1) (0, 10, 40 * s + b) 0 (some (0, 11, 40 * s + b))) (0, 9, s) b (some (0, 10, 40 * s + b))) 8 (b + 1) := by
  obtain ⟨h1, ⟨g1, g2, g3, g4, g5, g6⟩, h3⟩ := H
  refine ⟨((h1.al.al).pR (Or.inr (Or.inr (by omega)))).pR (Or.inl ⟨by omega, rfl⟩), ⟨?_, ?_, ?_, fun j hj => ?_, fun j hj => ?_, fun j hj => ?_⟩, fun t => ?_⟩
  · rw [rdR, if_neg (by omega), rdR, if_neg (by omega), gR_al, gR_al]; exact g1
  · rw [rdR, if_neg (by omega), rdR, if_neg (by omega), gR_al, gR_al]; exact g2
  · rw [rdR, if_neg (by omega), rdR, if_neg (by omega), gR_al, gR_al]; exact g3
  · rw [rdR, if_neg (by omega), rdR, if_neg (by omega), gR_al, gR_al]; exact g4 j hj
  · rw [rdR, if_neg (by omega), rdR, if_neg (by omega), gR_al, gR_al, rdR, if_neg (by omega), rdR, if_neg (by omega), gR_al, gR_al]
    exact g5 j (by omega)
  · by_cases z : j = b
    · subst z
      rw [rdR, if_pos ⟨rfl, rfl, rfl⟩, rdR, if_neg (by omega), rdR, if_pos ⟨rfl, rfl, rfl⟩]
      exact ⟨rfl, rfl⟩
    · rw [rdR, if_neg (by omega), rdR, if_neg (by omega), gR_al, gR_al, rdR, if_neg (by omega), rdR, if_neg (by omega), gR_al, gR_al]
      exact g6 j (by omega)
  · rw [cn_pR, cn_pR, cn_al, cn_al, h3 t]
    by_cases z : t = 10
    · subst z; rfl
    · by_cases y : t = 11
      · subst y; rfl
      · rw [if_neg (fun q => y q.2), if_neg (fun q => z q.2), if_neg (show ¬ (t = 10 ∨ t = 11) by omega), if_neg (show ¬ (t = 10 ∨ t = 11) by omega)]
theorem l_St_init33 {d s : Nat} {m0 : Mem} {K : Option Vv → Mem → Prop} (h : ∀ m, SG s m0 m 8 40 → K none m) (k : Nat) (m : Mem) (H : SG s m0 m 8 k) (hk : k ≤ 40) : Go (cW (d + 1)) i_St_init (99, 680) K 33 [vo 0 5 s, vi (nI k)] [] m (19 + 2 * k) (160 + 13 * k) := by
  have e0 : (nI k).toNatClampNeg = k := nI_clamp (by omega)
  refine Go.run (callT_mono MT _) [35] 20 ?_
  refine go_get (callT_mono MT _) rfl rfl H.2.1.2.1 ?_
  refine Go.run (callT_mono MT _) [39, 47] 20 ?_
  refine And.intro (fun c37 => ?_) (fun c37 => ?_)
  · have hk2 : k = 40 := lq_e (n := 40) c37 rfl rfl hk (by omega)
    subst hk2
    refine Go.run (callT_mono MT _) [] 20 ?_
    exact And.intro trivial (h m H)
  · have hk2 : k < 40 := lq_m (n := 40) c37 rfl rfl hk (by omega)
    refine go_get (callT_mono MT _) rfl rfl H.2.1.2.1 ?_
    refine Go.run (callT_mono MT _) [43] 20 ?_
    refine And.intro ⟨show 19 + 2 * k + 1 ≤ 99 by omega, show 160 + 13 * k + 5 ≤ 680 by omega⟩ ?_
    refine go_call (callT_mono MT _) rfl (show 19 + 2 * k + 1 ≤ 99 by omega) (show 160 + 13 * k + 5 ≤ 680 by omega) rfl ⟨show 19 + 2 * k + 1 + 1 ≤ 99 by omega, show 160 + 13 * k + 5 + 8 ≤ 680 by omega⟩ (fun z => absurd z (by decide)) ?_
    refine m_Hr_init ?_
    refine Go.run (callT_mono MT _) [33] 20 ?_
    refine And.intro (vp_nI (k := k) (N := 40) (by omega) (by decide)) ?_
    refine go_eqC (ls' := [vo 0 5 s, vi (nI (k + 1))]) (uc' := 19 + 2 * (k + 1)) (us' := 160 + 13 * (k + 1)) (by rw [nI_succ]; rfl) ?_ (show 19 + 2 * k + 1 + 1 = _ by omega) (show 160 + 13 * k + 5 + 8 = _ by omega) (l_St_init33 h (k + 1) _ (H.hour hk2) hk2)
    show pR (pR (al (al m 0 10 1) 0 11 1) (0, 10, m.2.2.2 0 10) 0 (some (0, 11, (al m 0 10 1).2.2.2 0 11))) (0, 9, s) (nI k).toNatClampNeg (some (0, 10, m.2.2.2 0 10)) = _
    rw [e0, H.c10, cn_al, if_neg (by decide), H.c11]
termination_by 40 - k
decreasing_by all_goals omega
theorem l_St_init17 {d s : Nat} {m0 : Mem} {K : Option Vv → Mem → Prop} (h : ∀ m, SG s m0 m 8 40 → K none m) (k : Nat) (m : Mem) (H : SG s m0 m k 0) (hk : k ≤ 8) : Go (cW (d + 1)) i_St_init (99, 680) K 17 [vo 0 5 s, vi (nI k)] [] m (11 + k) (120 + 5 * k) := by
  have e0 : (nI k).toNatClampNeg = k := nI_clamp (by omega)
  refine Go.run (callT_mono MT _) [19] 20 ?_
  refine go_get (callT_mono MT _) rfl rfl H.2.1.1 ?_
  refine Go.run (callT_mono MT _) [23, 33] 20 ?_
  refine And.intro (fun c21 => ?_) (fun c21 => ?_)
  · have hk2 : k = 8 := lq_e (n := 8) c21 rfl rfl hk (by omega)
    subst hk2
    exact l_St_init33 h 0 m H (by omega)
  · have hk2 : k < 8 := lq_m (n := 8) c21 rfl rfl hk (by omega)
    refine go_get (callT_mono MT _) rfl rfl H.2.1.1 ?_
    refine Go.run (callT_mono MT _) [27] 20 ?_
    refine And.intro ⟨show 11 + k + 1 ≤ 99 by omega, show 120 + 5 * k + 5 ≤ 680 by omega⟩ ?_
    refine go_call (callT_mono MT _) rfl (show 11 + k + 1 ≤ 99 by omega) (show 120 + 5 * k + 5 ≤ 680 by omega) rfl ⟨show 11 + k + 1 + 0 ≤ 99 by omega, show 120 + 5 * k + 5 + 0 ≤ 680 by omega⟩ (fun _ => rfl) ?_
    refine m_Ho_init ?_
    refine Go.run (callT_mono MT _) [17] 20 ?_
    refine And.intro (vp_nI (k := k) (N := 8) (by omega) (by decide)) ?_
    refine go_eqC (ls' := [vo 0 5 s, vi (nI (k + 1))]) (uc' := 11 + (k + 1)) (us' := 120 + 5 * (k + 1)) (by rw [nI_succ]; rfl) ?_ (show 11 + k + 1 + 0 = _ by omega) (show 120 + 5 * k + 5 + 0 = _ by omega) (l_St_init17 h (k + 1) _ (H.house hk2) hk2)
    show pR (pR (al m 0 8 1) (0, 8, m.2.2.2 0 8) 0 (some (0, 20, 0))) (0, 7, s) (nI k).toNatClampNeg (some (0, 8, m.2.2.2 0 8)) = _
    rw [e0, H.c8]
termination_by 8 - k
decreasing_by all_goals omega
theorem m_St_init {d s x : Nat} {m : Mem} {K : Option Vv → Mem → Prop} (hx : x = s) (c7 : m.2.2.2 0 7 = s) (c8 : m.2.2.2 0 8 = 8 * s) (c9 : m.2.2.2 0 9 = s) (c10 : m.2.2.2 0 10 = 40 * s) (c11 : m.2.2.2 0 11 = 40 * s) (c12 : m.2.2.2 0 12 = s) (c13 : m.2.2.2 0 13 = 8 * s) (h : ∀ m', SG s m m' 8 40 → K none m') : cW (d + 2) n_St_init [vo 0 5 x] m K := by
  subst hx
  refine w_St_init (Go.run (callT_mono MT _) [17] 200 ?_)
  refine And.intro ⟨rfl, Nat.le_of_ble_eq_true rfl, Nat.le_of_ble_eq_true rfl⟩ ?_
  refine And.intro ⟨rfl, Nat.le_of_ble_eq_true rfl, Nat.le_of_ble_eq_true rfl⟩ ?_
  refine And.intro ⟨rfl, rfl, Nat.le_of_ble_eq_true rfl, Nat.le_of_ble_eq_true rfl⟩ ?_
  refine go_eqC (ls' := [vo 0 5 x, vi (nI 0)]) (m' := pR (al (al (rws (pR (al (pR (al m 0 7 1) (0, 5, x) 0 (some (0, 7, x))) 0 9 1) (0, 5, x) 1 (some (0, 9, x))) (0, 12, x) 13 (8 * x) 8) 0 12 1) 0 13 8) (0, 5, x) 2 (some (0, 12, x))) (uc' := 11 + 0) (us' := 120 + 5 * 0) rfl ?_ rfl rfl (l_St_init17 h 0 _ ⟨?_, ⟨?_, ?_, ?_, fun j hj => ?_, fun j hj => absurd hj (by omega), fun j hj => absurd hj (by omega)⟩, fun t => ?_⟩ (by omega))
  · show pR (al (al (rws (pR (al (pR (al m 0 7 1) (0, 5, x) 0 (some (0, 7, m.2.2.2 0 7))) 0 9 1) (0, 5, x) 1 (some (0, 9, m.2.2.2 0 9))) (0, 12, m.2.2.2 0 12) 13 (m.2.2.2 0 13) 8) 0 12 1) 0 13 8) (0, 5, x) 2 (some (0, 12, m.2.2.2 0 12)) = _
    rw [c7, c9, c12, c13]
  · have h2 : SFr x m (pR (al (pR (al m 0 7 1) (0, 5, x) 0 (some (0, 7, x))) 0 9 1) (0, 5, x) 1 (some (0, 9, x))) := (((SFr.al (s := x) ⟨fun _ _ => rfl, fun _ _ => rfl, fun _ _ _ => rfl, fun _ _ _ _ => rfl, fun _ => rfl⟩).pR (Or.inl ⟨by omega, rfl⟩)).al).pR (Or.inl ⟨by omega, rfl⟩)
    have h3 : SFr x m (rws (pR (al (pR (al m 0 7 1) (0, 5, x) 0 (some (0, 7, x))) 0 9 1) (0, 5, x) 1 (some (0, 9, x))) (0, 12, x) 13 (8 * x) 8) :=
      ⟨fun o k => (gI_rws ..).trans (h2.1 o k), fun o k => (gL_rws ..).trans (h2.2.1 o k), fun o k q => by
        rw [gR_rws0, if_neg (fun z => q (by rw [z]))]
        exact h2.2.2.1 o k q, fun t i k q => by
        rw [gR_rws0, if_neg (fun z => q (Or.inl ⟨Or.inr (Or.inr (Or.inr (congrArg (fun y => y.2.1) z))), congrArg (fun y => y.2.2) z⟩))]
        exact h2.2.2.2.1 t i k q, fun t => h2.2.2.2.2 t⟩
    exact (h3.al.al).pR (Or.inl ⟨by omega, rfl⟩)
  · rw [rdR, if_neg (by omega), gR_al, gR_al, gR_rws0, if_neg (fun z => absurd (show (5 : Nat) = 12 from congrArg (fun y => y.2.1) z) (by decide)), rdR, if_neg (by omega), gR_al, rdR, if_pos ⟨rfl, rfl, rfl⟩]
  · rw [rdR, if_neg (by omega), gR_al, gR_al, gR_rws0, if_neg (fun z => absurd (show (5 : Nat) = 12 from congrArg (fun y => y.2.1) z) (by decide)), rdR, if_pos ⟨rfl, rfl, rfl⟩]
  · rw [rdR, if_pos ⟨rfl, rfl, rfl⟩]
  · rw [rdR, if_neg (by omega), gR_al, gR_al, gR_rws0, if_pos rfl, if_pos hj]
  · show (if 0 = 0 ∧ t = 13 then (if 0 = 0 ∧ t = 12 then (if 0 = 0 ∧ t = 9 then (if 0 = 0 ∧ t = 7 then m.2.2.2 0 t + 1 else m.2.2.2 0 t) + 1 else (if 0 = 0 ∧ t = 7 then m.2.2.2 0 t + 1 else m.2.2.2 0 t)) + 1 else (if 0 = 0 ∧ t = 9 then (if 0 = 0 ∧ t = 7 then m.2.2.2 0 t + 1 else m.2.2.2 0 t) + 1 else (if 0 = 0 ∧ t = 7 then m.2.2.2 0 t + 1 else m.2.2.2 0 t))) + 8 else (if 0 = 0 ∧ t = 12 then (if 0 = 0 ∧ t = 9 then (if 0 = 0 ∧ t = 7 then m.2.2.2 0 t + 1 else m.2.2.2 0 t) + 1 else (if 0 = 0 ∧ t = 7 then m.2.2.2 0 t + 1 else m.2.2.2 0 t)) + 1 else (if 0 = 0 ∧ t = 9 then (if 0 = 0 ∧ t = 7 then m.2.2.2 0 t + 1 else m.2.2.2 0 t) + 1 else (if 0 = 0 ∧ t = 7 then m.2.2.2 0 t + 1 else m.2.2.2 0 t)))) = _
    by_cases z : t = 7 ∨ t = 8 ∨ t = 9 ∨ t = 10 ∨ t = 11 ∨ t = 12 ∨ t = 13
    · rcases z with rfl | rfl | rfl | rfl | rfl | rfl | rfl
      · simp [c7]
      · simp [c8]
      · simp [c9]
      · simp [c10]
      · simp [c11]
      · simp [c12]
      · simp [c13]
    · have n7 : ¬ t = 7 := by omega
      have n8 : ¬ t = 8 := by omega
      have n9 : ¬ t = 9 := by omega
      have n10 : ¬ t = 10 := by omega
      have n11 : ¬ t = 11 := by omega
      have n12 : ¬ t = 12 := by omega
      have n13 : ¬ t = 13 := by omega
      simp [n7, n8, n9, n10, n11, n12, n13]
