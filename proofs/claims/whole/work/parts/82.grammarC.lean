/-! Written by a program (wip/whole/p82.py): the small language; the class builds. -/
theorem fo_ok {b : Nat → Int32} {n f p i : Nat} (h : fo b n (f + 1) p i = -9) (hn : n ≤ 80) (hp : p < n) (q : ¬ b p = 32) : begP (b p) i ∧ figP b n (p + 1) ∧ figP b n (p + 2) ∧ fo b n f (p + 3) (i + 1) = -9 := by
  by_cases y0 : begP (b p) i
  · by_cases y1 : figP b n (p + 1)
    · by_cases y2 : figP b n (p + 2)
      · rw [fo_on hp q y0 y1 y2] at h
        exact ⟨y0, y1, y2, h⟩
      · rw [fo_f2 hp q y0 y1 y2] at h
        exact absurd h (m9 (by omega))
    · rw [fo_f1 hp q y0 y1] at h
      exact absurd h (m9 (by omega))
  · rw [fo_beg hp q y0] at h
    exact absurd h (m9 (by omega))
theorem fo_ok0 {b : Nat → Int32} {n f p i : Nat} (h : fo b n (f + 1) p i = -9) (hn : n ≤ 80) (hp : n ≤ p) : 0 < i := by
  rw [fo_end hp] at h
  refine Nat.pos_of_ne_zero fun z => ?_
  rw [if_pos z] at h
  exact absurd h (m9 (by omega))
def clrM (m : Mem) (s : Nat) : Mem := pI (pI (pI (pI (pI (pI m (0, 5, s) 3 0) (0, 5, s) 4 0) (0, 5, s) 5 0) (0, 5, s) 6 0) (0, 5, s) 7 0) (0, 5, s) 8 0
theorem clrM_r (m : Mem) (s t i q : Nat) : gI (clrM m s) (0, t, i) q = if t = 5 ∧ i = s ∧ 3 ≤ q ∧ q ≤ 8 then 0 else gI m (0, t, i) q := by
  unfold clrM
  rw [rd00, rd00, rd00, rd00, rd00, rd00]
  by_cases z : t = 5 ∧ i = s ∧ 3 ≤ q ∧ q ≤ 8
  · rw [if_pos z]
    obtain ⟨rfl, rfl, z1, z2⟩ := z
    have : q = 3 ∨ q = 4 ∨ q = 5 ∨ q = 6 ∨ q = 7 ∨ q = 8 := by omega
    rcases this with rfl | rfl | rfl | rfl | rfl | rfl <;> simp
  · rw [if_neg z, if_neg (by omega), if_neg (by omega), if_neg (by omega), if_neg (by omega), if_neg (by omega), if_neg (by omega)]
def mA (m : Mem) (N kk : Nat) (l w : Int32) : Mem := pI (pI (pI (pI (pR m (0, 8, N) 0 (some (0, 20, kk))) (0, 8, N) 1 l) (0, 8, N) 2 w) (0, 8, N) 3 0) (0, 8, N) 4 0
def addM (m : Mem) (N kk : Nat) (l w : Int32) : Mem := pI (sI (mA m N kk l w) (0, 13, N) (fun j => if 0 ≤ j ∧ j < 8 then 0 else gI (mA m N kk l w) (0, 13, N) j)) (0, 5, 0) 3 (nI (N + 1))
theorem mA_r (m : Mem) (N kk : Nat) (l w : Int32) (t i q : Nat) : gI (mA m N kk l w) (0, t, i) q = if t = 8 ∧ i = N ∧ q = 4 then 0 else if t = 8 ∧ i = N ∧ q = 3 then 0 else if t = 8 ∧ i = N ∧ q = 2 then w else if t = 8 ∧ i = N ∧ q = 1 then l else gI m (0, t, i) q := by
  unfold mA
  rw [rd00, rd00, rd00, rd00, gI_pR]
theorem addM_r (m : Mem) (N kk : Nat) (l w : Int32) (t i q : Nat) : gI (addM m N kk l w) (0, t, i) q = if t = 5 ∧ i = 0 ∧ q = 3 then nI (N + 1) else if t = 13 ∧ i = N then (if 0 ≤ q ∧ q < 8 then 0 else gI (mA m N kk l w) (0, 13, N) q) else gI (mA m N kk l w) (0, t, i) q := by
  unfold addM
  rw [rd00, sI00]
theorem addM_kn (m : Mem) (N kk : Nat) (l w : Int32) (i : Nat) : kn (addM m N kk l w) i = if i = N then kk else kn m i := by
  have e : ∀ j, gR (addM m N kk l w) (0, 8, j) 0 = gR (pR m (0, 8, N) 0 (some (0, 20, kk))) (0, 8, j) 0 := fun j => by
    unfold addM mA
    rw [gR_pI, gR_sI, gR_pI, gR_pI, gR_pI, gR_pI]
  exact (kn_rw e i).trans (kn_pR m N kk i)
theorem Ny.s0 {a b : List Nat} {m m' : Mem} (h : Ny a b m m') {t i : Nat} {f : Nat → Int32} (ht : t ∈ a) : Ny a b m (sI m' (0, t, i) f) :=
  ⟨h.1.wI, fun o k => (gL_sI ..).trans (h.2.1 o k), fun t' i' k' q => by
    rw [sI00, if_neg (fun z : t' = t ∧ i' = i => q (z.1 ▸ ht))]; exact h.2.2.1 t' i' k' q, fun t' i' k' q => h.2.2.2 t' i' k' q⟩
theorem Ny.kd {a b : List Nat} {m m' : Mem} (h : Ny a b m m') {i c : Nat} (hc : c < 6) : Ny a b m (pR m' (0, 8, i) 0 (some (0, 20, c))) :=
  ⟨h.1.kind (a := i) hc, fun o k => (gL_pR ..).trans (h.2.1 o k), fun t i' k q => (gI_pR ..).trans (h.2.2.1 t i' k q), fun t i' k q => (gI_pR ..).trans (h.2.2.2 t i' k q)⟩
theorem Ny.add {a b : List Nat} {m m' : Mem} (h : Ny a b m m') {N c : Nat} {l w : Int32} (hc : c < 6) (h5 : 5 ∈ a) (h8 : 8 ∈ a) (h13 : 13 ∈ a) : Ny a b m (addM m' N c l w) := by
  unfold addM mA
  exact (((((((h.kd hc).p0 h8).p0 h8).p0 h8).p0 h8).s0 h13).p0 h5)
def CS (S : GS) (i : Nat) (m0 m : Mem) : Prop := Ny [5, 8, 13] [] m0 m ∧ (∀ s q, s ≠ 0 → gI m (0, 5, s) q = gI m0 (0, 5, s) q) ∧ gI m (0, 5, 0) 3 = nI (yN S) ∧ gI m (0, 5, 0) 4 = 0 ∧ gI m (0, 5, 0) 7 = 0 ∧ gI m (0, 5, 0) 8 = 0 ∧ (0 < i → gI m (0, 5, 0) 5 = nI (yA S) ∧ gI m (0, 5, 0) 6 = nI (yE S)) ∧ ∀ j, j < yN S → kn m j = yK S j ∧ gI m (0, 8, j) 1 = nI (yL S j) ∧ gI m (0, 8, j) 2 = nI (yW S j) ∧ gI m (0, 8, j) 3 = 0 ∧ gI m (0, 8, j) 4 = 0 ∧ ∀ q, q < 8 → gI m (0, 13, j) q = 0
theorem CS.house {b : Nat → Int32} {p i : Nat} {S : GS} {m0 m : Mem} (H : CS S i m0 m) (hi : 0 < i) (hc : kd (b p) < 6) : CS (gst b p i S) (i + 1) m0 (addM m (yN S) (kd (b p)) (nI (dg (b (p + 1)))) (nI (dg (b (p + 2))))) := by
  obtain ⟨h1, h2, h3, h4, h5, h6, h7, h8⟩ := H
  obtain ⟨g1, g2, g3, g4, g5, g6⟩ := gst_h (b := b) (p := p) (S := S) hi
  have r5 : ∀ s q, q ≠ 3 → gI (addM m (yN S) (kd (b p)) (nI (dg (b (p + 1)))) (nI (dg (b (p + 2))))) (0, 5, s) q = gI m (0, 5, s) q := fun s q hq => by
    rw [addM_r, if_neg (by omega), if_neg (by omega), mA_r, if_neg (by omega), if_neg (by omega), if_neg (by omega), if_neg (by omega)]
  refine ⟨h1.add hc (by simp) (by simp) (by simp), fun s q hs => ?_, ?_, (r5 0 4 (by omega)).trans h4, (r5 0 7 (by omega)).trans h5, (r5 0 8 (by omega)).trans h6, fun _ => ?_, fun j hj => ?_⟩
  · rw [addM_r, if_neg (by omega), if_neg (by omega), mA_r, if_neg (by omega), if_neg (by omega), if_neg (by omega), if_neg (by omega)]
    exact h2 s q hs
  · rw [addM_r, if_pos ⟨rfl, rfl, rfl⟩, g1]
  · rw [g2, g3, r5 0 5 (by omega), r5 0 6 (by omega)]
    exact h7 hi
  · rw [g4, g5, g6, addM_kn]
    by_cases y : j = yN S
    · rw [if_pos y, if_pos y, if_pos y, if_pos y]
      subst y
      refine ⟨rfl, ?_, ?_, ?_, ?_, fun q hq => ?_⟩
      · rw [addM_r, if_neg (by omega), if_neg (by omega), mA_r, if_neg (by omega), if_neg (by omega), if_neg (by omega), if_pos ⟨rfl, rfl, rfl⟩]
      · rw [addM_r, if_neg (by omega), if_neg (by omega), mA_r, if_neg (by omega), if_neg (by omega), if_pos ⟨rfl, rfl, rfl⟩]
      · rw [addM_r, if_neg (by omega), if_neg (by omega), mA_r, if_neg (by omega), if_pos ⟨rfl, rfl, rfl⟩]
      · rw [addM_r, if_neg (by omega), if_neg (by omega), mA_r, if_pos ⟨rfl, rfl, rfl⟩]
      · rw [addM_r, if_neg (by omega), if_pos ⟨rfl, rfl⟩, if_pos ⟨Nat.zero_le _, hq⟩]
    · rw [if_neg y, if_neg y, if_neg y, if_neg y]
      have z := h8 j (by omega)
      have r8 : ∀ q, gI (addM m (yN S) (kd (b p)) (nI (dg (b (p + 1)))) (nI (dg (b (p + 2))))) (0, 8, j) q = gI m (0, 8, j) q := fun q => by
        rw [addM_r, if_neg (by omega), if_neg (by omega), mA_r, if_neg (by omega), if_neg (by omega), if_neg (by omega), if_neg (by omega)]
      rw [r8, r8, r8, r8]
      refine ⟨z.1, z.2.1, z.2.2.1, z.2.2.2.1, z.2.2.2.2.1, fun q hq => ?_⟩
      rw [addM_r, if_neg (by omega), if_neg (by omega), mA_r, if_neg (by omega), if_neg (by omega), if_neg (by omega), if_neg (by omega)]
      exact z.2.2.2.2.2 q hq
theorem CS.head {b : Nat → Int32} {p : Nat} {S : GS} {m0 m : Mem} (H : CS S 0 m0 m) (hN : yN S = 0) : CS (gst b p 0 S) 1 m0 (pI (pI m (0, 5, 0) 5 (nI (dg (b (p + 1))))) (0, 5, 0) 6 (nI (dg (b (p + 2))))) := by
  obtain ⟨h1, h2, h3, h4, h5, h6, h7, h8⟩ := H
  obtain ⟨g1, g2, g3, g4, g5, g6⟩ := gst_a (b := b) (p := p) (S := S)
  refine ⟨(h1.p0 (by simp)).p0 (by simp), fun s q hs => ?_, ?_, ?_, ?_, ?_, fun _ => ⟨?_, ?_⟩, fun j hj => ?_⟩
  · rw [rd00, if_neg (by omega), rd00, if_neg (by omega)]; exact h2 s q hs
  · rw [rd00, if_neg (by omega), rd00, if_neg (by omega), g1]; exact h3
  · rw [rd00, if_neg (by omega), rd00, if_neg (by omega)]; exact h4
  · rw [rd00, if_neg (by omega), rd00, if_neg (by omega)]; exact h5
  · rw [rd00, if_neg (by omega), rd00, if_neg (by omega)]; exact h6
  · rw [rd00, if_neg (by omega), rd00, if_pos ⟨rfl, rfl, rfl⟩, g2]
  · rw [rd00, if_pos ⟨rfl, rfl, rfl⟩, g3]
  · omega

theorem m_St_clear {d : Nat} {m : Mem} {K : Option Vv → Mem → Prop} (hR : OKR m) {s : Nat} (h : K none (clrM m s)) : cW (d + 1) n_St_clear [vo 0 5 s] m K := by
  refine w_St_clear (Go.runR (callT_mono MT _) [] 200 hR ?_)
  refine And.intro trivial ?_
  exact h

theorem l_St_add28 {d N : Nat} {K : Option Vv → Mem → Prop} {a1 a2 a3 : Vv} {x : Nat} (hN : N < 8) (k : Nat) (m : Mem) (hR : OKR m) (q : gI m (0, 5, 0) 3 = nI N) (hk : k ≤ 8) (h : K none (pI (sI m (0, 13, N) (fun j => if k ≤ j ∧ j < 8 then 0 else gI m (0, 13, N) j)) (0, 5, 0) 3 (nI (N + 1)))) : Go (cW d) i_St_add (0, 0) K 28 [vo 0 5 0, a1, a2, a3, vo 0 8 x, vi (nI k)] [] m 0 0 := by
  have e3 : (gI m (0, 5, 0) 3).toNatClampNeg = N := by rw [q, nI_clamp (by omega)]
  have eN : 8 * 0 + (gI m (0, 5, 0) 3).toNatClampNeg = N := by rw [e3]; omega
  have e0 : (nI k).toNatClampNeg = k := nI_clamp (by omega)
  refine Go.runR (callT_mono MT _) [28] 200 hR ?_
  refine And.intro (fun c30 => ?_) (fun c30 => ?_)
  · try dsimp only at c30
    obtain rfl := lq_e (n := 8) c30 rfl rfl hk (by omega)
    refine And.intro trivial ?_
    show K none (pI m (0, 5, 0) 3 (gI m (0, 5, 0) 3 + 1))
    rw [q, nI_1]
    rw [sI_self0] at h
    · exact h
    · intro j; rw [if_neg (by omega)]
  · try dsimp only at c30
    have hk2 := lq_m (n := 8) c30 rfl rfl hk (by omega)
    refine And.intro ⟨(by first | decide | assumption | omega), (by first | decide | assumption | omega)⟩ ?_
    refine And.intro ⟨(by first | exact vp_nI (k := k) (N := 8) (by omega) (by decide) | (show vp_in (gI m (0, 5, 0) 3) 8; rw [q]; exact vp_nI (by omega) (by decide))), ⟨(by decide), by rw [e3]; exact hN⟩⟩ ?_
    refine And.intro (by first | exact vp_nI (k := k) (N := 8) (by omega) (by decide) | (show vp_in (gI m (0, 5, 0) 3) 8; rw [q]; exact vp_nI (by omega) (by decide))) ?_
    refine go_eq (ls' := [vo 0 5 0, a1, a2, a3, vo 0 8 x, vi (nI (k + 1))]) (m' := pI m (0, 13, N) k 0) (by rw [nI_succ]; rfl) ?_ (l_St_add28 hN (k + 1) _ hR.pI q (by omega) ?_)
    · show pI m (0, 13, 8 * 0 + (gI m (0, 5, 0) 3).toNatClampNeg) (nI k).toNatClampNeg 0 = _
      rw [eN, e0]
    · rw [sI_pI0]
      have e : (fun j => if k + 1 ≤ j ∧ j < 8 then 0 else gI (pI m (0, 13, N) k 0) (0, 13, N) j) = (fun j => if k ≤ j ∧ j < 8 then 0 else gI m (0, 13, N) j) := by
        funext j
        rw [rd00]
        grind
      rw [e]
      exact h
termination_by 8 - k
decreasing_by all_goals omega

theorem m_St_add {d N kk : Nat} {m : Mem} {K : Option Vv → Mem → Prop} (hR : OKR m) {l w l' w' : Int32} (hN : N < 8) (hk : kk < 6) (q : gI m (0, 5, 0) 3 = nI N) (el : l' = l) (ew : w' = w) (h : K none (addM m N kk l w)) : cW (d + 1) n_St_add [vo 0 5 0, vo 0 20 kk, vi l', vi w'] m K := by
  subst el; subst ew
  have e3 : (gI m (0, 5, 0) 3).toNatClampNeg = N := by rw [q, nI_clamp (by omega)]
  have eN : 8 * 0 + (gI m (0, 5, 0) 3).toNatClampNeg = N := by rw [e3]; omega
  have hA : Ny [8] [] m (mA m N kk l' w') := ((((Ny.refl hR).kd hk).p0 (by simp)).p0 (by simp)).p0 (by simp) |>.p0 (by simp)
  refine w_St_add (Go.runR (callT_mono MT _) [28] 200 hR ?_)
  refine And.intro (fun c3 => ?_) (fun c3 => ?_)
  · try dsimp only at c3
    refine And.intro ⟨(by first | decide | assumption | omega), (by first | decide | assumption | omega)⟩ ?_
    refine And.intro ⟨(by show vp_in (gI m (0, 5, 0) 3) 8; rw [q]; exact vp_nI (by omega) (by decide)), ⟨(by decide), by rw [e3]; exact hN⟩⟩ ?_
    refine And.intro (hR.kind hk) ?_
    refine go_eq (ls' := [vo 0 5 0, vo 0 20 kk, vi l', vi w', vo 0 8 N, vi (nI 0)]) (m' := mA m N kk l' w') ?_ ?_ (l_St_add28 hN 0 _ hA.1 ((hA.2.2.1 5 0 3 (by simp)).trans q) (by omega) h)
    · show [vo 0 5 0, vo 0 20 kk, vi l', vi w', vo 0 8 (8 * 0 + (gI m (0, 5, 0) 3).toNatClampNeg), vi 0] = _
      rw [eN]; rfl
    · show pI (pI (pI (pI (pR m (0, 8, 8 * 0 + (gI m (0, 5, 0) 3).toNatClampNeg) 0 (some (0, 20, kk))) (0, 8, 8 * 0 + (gI m (0, 5, 0) 3).toNatClampNeg) 1 l') (0, 8, 8 * 0 + (gI m (0, 5, 0) 3).toNatClampNeg) 2 w') (0, 8, 8 * 0 + (gI m (0, 5, 0) 3).toNatClampNeg) 3 0) (0, 8, 8 * 0 + (gI m (0, 5, 0) 3).toNatClampNeg) 4 0 = _
      rw [eN]; rfl
  · exact absurd (by show gI m (0, 5, 0) 3 < 8; rw [q]; exact nI_lt (b := 8) hN (by decide)) c3

theorem m_Gr_buildItem0 {d c n p : Nat} {b : Nat → Int32} {m : Mem} {K : Option Vv → Mem → Prop} (hR : OKR m) (hc : c < 10) (hl : n ≤ ln (0, 2, c)) (hn : n ≤ 80) (tx : gI m (0, 1, c) 1 = nI n) (tb : ∀ k, k < n → gI m (0, 2, c) k = b k) (hp : p < n) (y1 : figP b n (p + 1)) (y2 : figP b n (p + 2)) (y0 : b p = 97) (h : K none (pI (pI m (0, 5, 0) 5 (nI (dg (b (p + 1))))) (0, 5, 0) 6 (nI (dg (b (p + 2)))))) : cW (d + 3) n_Gr_buildItem [vo 0 1 c, vi (nI p), vo 0 5 0] m K := by
  have e2 : nI p + 2 = nI (p + 2) := by rw [show (2 : Int32) = nI 2 from rfl, nI_add]
  have k1 := (dg_of y1.2).1
  have k2 := (dg_of y2.2).1
  refine w_Gr_buildItem (Go.runR (callT_mono MT _) [] 200 hR ?_)
  refine m_Ce_getB hR hc hl hn tx tb (p := p + 1) (nI_1 p) (by omega) (And.intro hR ?_)
  rw [show gb b n (p + 1) = b (p + 1) from if_pos y1.1]
  refine m_Ce_getB hR hc hl hn tx tb (p := p + 2) e2 (by omega) (And.intro hR ?_)
  rw [show gb b n (p + 2) = b (p + 2) from if_pos y2.1]
  refine m_Ce_getB hR hc hl hn tx tb (p := p) rfl (by omega) (And.intro hR ?_)
  rw [show gb b n (p) = b (p) from if_pos hp]
  refine m_Ki_byLetter0 hR (by rw [y0]; decide) (And.intro hR ?_)
  refine And.intro trivial ?_
  show K none (pI (pI m (0, 5, 0) 5 (b (p + 1) - 48)) (0, 5, 0) 6 (b (p + 2) - 48))
  rw [k1, k2]
  exact h

theorem m_Gr_buildItem1 {d c n p : Nat} {b : Nat → Int32} {m : Mem} {K : Option Vv → Mem → Prop} (hR : OKR m) (hc : c < 10) (hl : n ≤ ln (0, 2, c)) (hn : n ≤ 80) (tx : gI m (0, 1, c) 1 = nI n) (tb : ∀ k, k < n → gI m (0, 2, c) k = b k) (hp : p < n) (y1 : figP b n (p + 1)) (y2 : figP b n (p + 2)) {N : Nat} (hN : N < 8) (q : gI m (0, 5, 0) 3 = nI N) (y0 : kd (b p) < 6) (h : K none (addM m N (kd (b p)) (nI (dg (b (p + 1)))) (nI (dg (b (p + 2)))))) : cW (d + 3) n_Gr_buildItem [vo 0 1 c, vi (nI p), vo 0 5 0] m K := by
  have e2 : nI p + 2 = nI (p + 2) := by rw [show (2 : Int32) = nI 2 from rfl, nI_add]
  have k1 := (dg_of y1.2).1
  have k2 := (dg_of y2.2).1
  refine w_Gr_buildItem (Go.runR (callT_mono MT _) [] 200 hR ?_)
  refine m_Ce_getB hR hc hl hn tx tb (p := p + 1) (nI_1 p) (by omega) (And.intro hR ?_)
  rw [show gb b n (p + 1) = b (p + 1) from if_pos y1.1]
  refine m_Ce_getB hR hc hl hn tx tb (p := p + 2) e2 (by omega) (And.intro hR ?_)
  rw [show gb b n (p + 2) = b (p + 2) from if_pos y2.1]
  refine m_Ce_getB hR hc hl hn tx tb (p := p) rfl (by omega) (And.intro hR ?_)
  rw [show gb b n (p) = b (p) from if_pos hp]
  refine m_Ki_byLetter1 hR y0 (And.intro hR ?_)
  refine m_St_add hR hN y0 q k1 k2 (And.intro ((Ny.refl (a := [5, 8, 13]) (b := []) hR).add y0 (by simp) (by simp) (by simp)).1 ?_)
  refine And.intro trivial ?_
  exact h

theorem l_Gr_build {d c n : Nat} {b : Nat → Int32} {m0 : Mem} {K : Option Vv → Mem → Prop} (hc : c < 10) (hl : n ≤ ln (0, 2, c)) (hn : n ≤ 80) (tx0 : gI m0 (0, 1, c) 1 = nI n) (tb0 : ∀ k, k < n → gI m0 (0, 2, c) k = b k) (f p i : Nat) (S : GS) (m : Mem) (H : CS S i m0 m) (hB : BS S i) (hF : fo b n f p i = -9) (hf : n < f + p) (hp : p ≤ n) (h : ∀ m', (∃ j, 0 < j ∧ CS (gsF b n f p i S) j m0 m') → K none m') : Go (cW (d + 3)) i_Gr_build (0, 0) K 4 [vo 0 1 c, vo 0 5 0, vi (nI p)] [] m 0 0 := by
  have hR := H.1.1
  have tx : gI m (0, 1, c) 1 = nI n := (H.1.2.2.1 1 c 1 (by simp)).trans tx0
  have tb : ∀ k, k < n → gI m (0, 2, c) k = b k := fun k hk => (H.1.2.2.1 2 c k (by simp)).trans (tb0 k hk)
  have e3 : nI p + 3 = nI (p + 3) := by rw [show (3 : Int32) = nI 3 from rfl, nI_add]
  obtain ⟨f, rfl⟩ : ∃ g, f = g + 1 := ⟨f - 1, by omega⟩
  refine Go.runR (callT_mono MT _) [4] 200 hR ?_
  refine And.intro (fun c7 => ?_) (fun c7 => ?_)
  · try dsimp only at c7
    have hk2 : p = n := lq_e c7 tx rfl hp (by omega)
    refine And.intro trivial ?_
    rw [gs_end (by omega)] at h
    exact h m ⟨i, fo_ok0 hF hn (by omega), H⟩
  · try dsimp only at c7
    have hk2 := lq_m c7 tx rfl hp (by omega)
    refine m_Ce_getB hR hc hl hn tx tb (p := p) rfl (by omega) (And.intro hR ?_)
    rw [show gb b n p = b p from if_pos hk2]
    refine And.intro (fun c12 => ?_) (fun c12 => ?_)
    · try dsimp only at c12
      rw [fo_bl hk2 c12] at hF
      rw [gs_bl hk2 c12] at h
      first
      | exact go_eq (by rw [nI_1]; first | done | rfl) rfl (l_Gr_build hc hl hn tx0 tb0 f (p + 1) i S m H hB hF (by omega) (by omega) h)
      | exact go_eq (by rw [e3]; first | done | rfl) rfl (l_Gr_build hc hl hn tx0 tb0 f (p + 3) (i + 1) (gst b p i S) _ (H.house i0 k6.1) hB2 hF (by omega) p3 h)
    · try dsimp only at c12
      obtain ⟨y0, y1, y2, hF⟩ := fo_ok hF hn hk2 c12
      rw [gs_on hk2 c12] at h
      have hB2 := hB.next y0 y1 y2
      have p3 : p + 3 ≤ n := by have := y2.1; omega
      rcases Nat.eq_zero_or_pos i with i0 | i0
      · subst i0
        have hN : yN S = 0 := by have := hB.1; omega
        refine m_Gr_buildItem0 hR hc hl hn tx tb hk2 y1 y2 (by rcases y0 with z | z; exact z.2; omega) (And.intro hR.pI.pI ?_)
        exact go_eq (by rw [e3]; first | done | rfl) rfl (l_Gr_build hc hl hn tx0 tb0 f (p + 3) 1 (gst b p 0 S) _ (H.head hN) hB2 hF (by omega) p3 h)
      have k6 : kd (b p) < 6 ∧ i ≤ 8 := by rcases y0 with z | z; omega; exact ⟨z.2.2, z.2.1⟩
      have N8 : yN S < 8 := by have := hB.1; omega
      refine m_Gr_buildItem1 hR hc hl hn tx tb hk2 y1 y2 N8 H.2.2.1 k6.1 (And.intro (H.1.add k6.1 (by simp) (by simp) (by simp)).1 ?_)
      first
      | exact go_eq (by rw [nI_1]; first | done | rfl) rfl (l_Gr_build hc hl hn tx0 tb0 f (p + 1) i S m H hB hF (by omega) (by omega) h)
      | exact go_eq (by rw [e3]; first | done | rfl) rfl (l_Gr_build hc hl hn tx0 tb0 f (p + 3) (i + 1) (gst b p i S) _ (H.house i0 k6.1) hB2 hF (by omega) p3 h)
termination_by f
decreasing_by all_goals omega

theorem m_Gr_build {d c n x : Nat} {b : Nat → Int32} {m : Mem} {K : Option Vv → Mem → Prop} (hR : OKR m) (hc : c < 10) (hl : n ≤ ln (0, 2, c)) (hn : n ≤ 80) (tx : gI m (0, 1, c) 1 = nI n) (tb : ∀ k, k < n → gI m (0, 2, c) k = b k) (hx : x = c) (hF : fo b n (n + 1) 0 0 = -9) (h : ∀ m', (∃ j, 0 < j ∧ CS (gsF b n (n + 1) 0 0 gs0) j m m') → K none m') : cW (d + 4) n_Gr_build [vo 0 1 x, vo 0 5 0] m K := by
  subst hx
  have hR2 : OKR (clrM m 0) := hR.pI.pI.pI.pI.pI.pI
  refine w_Gr_build (Go.runR (callT_mono MT _) [4] 200 hR ?_)
  refine m_St_clear hR (And.intro hR2 ?_)
  refine l_Gr_build hc hl hn tx tb (n + 1) 0 0 gs0 (clrM m 0) ⟨⟨hR2, fun o k => by unfold clrM; rw [gL_pI, gL_pI, gL_pI, gL_pI, gL_pI, gL_pI], fun t i k q => by rw [clrM_r, if_neg (fun z => q (by rw [z.1]; simp))], fun t i k q => rfl⟩, fun s q hs => by rw [clrM_r, if_neg (by omega)], ?_, ?_, ?_, ?_, fun z => absurd z (by omega), fun j hj => absurd (show j < 0 from hj) (by omega)⟩ ⟨Or.inl ⟨rfl, rfl⟩, Nat.zero_le _, fun z => absurd z (by omega), fun j hj => absurd (show j < 0 from hj) (by omega)⟩ hF (by omega) (by omega) h
  all_goals (rw [clrM_r, if_pos ⟨rfl, rfl, by decide, by decide⟩]; try rfl)
