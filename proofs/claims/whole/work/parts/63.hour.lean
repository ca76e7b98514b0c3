/-! Written by a program (wip/whole/p63.py): what does not hang on what was made; hour. -/
def HsW (D : SDt) (i : Nat) (m : Mem) : Prop := kn m i = dK D i ∧ dK D i < 6 ∧ dL D i ≤ 9 ∧ dW D i ≤ 99 ∧ True ∧ gI m (0, 8, i) 1 = nI (dL D i) ∧ gI m (0, 8, i) 2 = nI (dW D i) ∧ True ∧ True ∧ gI m (1, 7, 0) i = nI (dK D i) ∧ gI m (1, 8, 0) i = nI (dL D i) ∧ gI m (1, 9, 0) i = nI (dW D i) ∧ True
def SW (n : Nat) (D : SDt) (m : Mem) : Prop := OKR m ∧ n ≤ 8 ∧ gI m (0, 5, 0) 3 = nI n ∧ gI m (1, 0, 0) 10 = nI n ∧ (∀ i, i < n → HsW D i m) ∧ (0 < n → AlC D m)
theorem SW.ok {n : Nat} {D : SDt} {m : Mem} (H : SW n D m) : OKR m := H.1
theorem SW.le {n : Nat} {D : SDt} {m : Mem} (H : SW n D m) : n ≤ 8 := H.2.1
theorem SW.nA {n : Nat} {D : SDt} {m : Mem} (H : SW n D m) : gI m (0, 5, 0) 3 = nI n := H.2.2.1
theorem SW.nB {n : Nat} {D : SDt} {m : Mem} (H : SW n D m) : gI m (1, 0, 0) 10 = nI n := H.2.2.2.1
theorem SW.hs {n : Nat} {D : SDt} {m : Mem} (H : SW n D m) {i : Nat} (hi : i < n) : HsW D i m := H.2.2.2.2.1 i hi
theorem SW.al {n : Nat} {D : SDt} {m : Mem} (H : SW n D m) (hn : 0 < n) : AlC D m := H.2.2.2.2.2 hn
theorem SC.sw {n : Nat} {D : SDt} {m : Mem} (H : SC n D m) : SW n D m :=
  ⟨H.ok, H.le, H.nA, H.nB, fun i hi => by
    obtain ⟨a1, a2, a3, a4, a5, a6, a7, a8, a9, b1, b2, b3, -⟩ := H.hs hi
    exact ⟨a1, a2, a3, a4, trivial, a6, a7, trivial, trivial, b1, b2, b3, trivial⟩, fun h => H.al h⟩
theorem SW.cg {n : Nat} {D : SDt} {m m' : Mem} (hok : OKR m') (hk : ∀ i, kn m' i = kn m i) (h5 : ∀ k, k = 3 ∨ k = 5 ∨ k = 6 → gI m' (0, 5, 0) k = gI m (0, 5, 0) k) (h8 : ∀ i k, k = 1 ∨ k = 2 → gI m' (0, 8, i) k = gI m (0, 8, i) k) (h1 : ∀ k, k = 10 ∨ k = 11 ∨ k = 12 → gI m' (1, 0, 0) k = gI m (1, 0, 0) k) (h2 : ∀ t k, t = 7 ∨ t = 8 ∨ t = 9 → gI m' (1, t, 0) k = gI m (1, t, 0) k) (H : SW n D m) : SW n D m' := by
  unfold SW HsW AlC at *
  have e3 := h5 3 (by omega)
  have e5 := h5 5 (by omega)
  have e6 := h5 6 (by omega)
  have f1 : ∀ i, gI m' (0, 8, i) 1 = gI m (0, 8, i) 1 := fun i => h8 i 1 (by omega)
  have f2 : ∀ i, gI m' (0, 8, i) 2 = gI m (0, 8, i) 2 := fun i => h8 i 2 (by omega)
  have g10 := h1 10 (by omega)
  have g11 := h1 11 (by omega)
  have g12 := h1 12 (by omega)
  have k7 : ∀ k, gI m' (1, 7, 0) k = gI m (1, 7, 0) k := fun k => h2 7 k (by omega)
  have k8 : ∀ k, gI m' (1, 8, 0) k = gI m (1, 8, 0) k := fun k => h2 8 k (by omega)
  have k9 : ∀ k, gI m' (1, 9, 0) k = gI m (1, 9, 0) k := fun k => h2 9 k (by omega)
  simp only [hk, e3, e5, e6, f1, f2, g10, g11, g12, k7, k8, k9]
  exact ⟨hok, H.2⟩

theorem wsnL {n : Nat} {D : SDt} {m : Mem} (hS : SW n D m) {i : Nat} (hi : i < n) : sn D i ≤ 18 := snd_le (hS.hs hi).2.2.1

theorem wrpL {n : Nat} {D : SDt} {m : Mem} (hS : SW n D m) {i : Nat} (hi : i < n) : rp D i ≤ 18 := by have := wsnL hS hi; unfold rp; omega

theorem whmL {n : Nat} {D : SDt} {m : Mem} {i : Nat} (hS : SW n D m) (hi : i < n) : far i (dA D) ≤ 9 := far_le (by have := hS.le; omega) (hS.al (by omega)).1

theorem wm_Ho_sound {d n : Nat} {D : SDt} {m : Mem} {K : Option Vv → Mem → Prop} (hS : SW n D m) {x i : Nat} (hx : x = i) (hi : i < n) (h : K (some (vi (nI (sn D i)))) m) : cW (d + 1) n_Ho_sound [vo 0 8 x] m K := by
  have hR := hS.ok
  have h8 := hS.le
  have q1 := hS.nA
  have q2 := hS.nB
  subst hx
  have hh := hS.hs hi
  refine w_Ho_sound (Go.runR (callT_mono MT _) [] 200 hR ?_)
  refine And.intro ⟨(by first | decide | assumption | omega), (by first | decide | assumption | omega)⟩ ?_
  refine And.intro (by decide) ?_
  refine And.intro trivial ?_
  exact kvi (by show gI m (0, 8, x) 1 * kcon 2 (kn m x) / 2 = _; rw [hh.2.2.2.2.2.1, hh.1]; exact sndA _ hh.2.1 _ (by have := hh.2.2.1; omega)) h

theorem wm_St_distance {d n : Nat} {D : SDt} {m : Mem} {K : Option Vv → Mem → Prop} (hS : SW n D m) {v : Int32} {i : Nat} (hv : v = nI i) (hi : i < n) (h : K (some (vi (nI (far i (dA D))))) m) : cW (d + 1) n_St_distance [vo 0 5 0, vi v] m K := by
  have hR := hS.ok
  have h8 := hS.le
  have q1 := hS.nA
  have q2 := hS.nB
  subst hv
  have ha := hS.al (by omega)
  refine w_St_distance (Go.runR (callT_mono MT _) [] 200 hR ?_)
  refine And.intro trivial ?_
  exact kvi (by show (if 0 ≤ nI i - gI m (0, 5, 0) 5 then nI i - gI m (0, 5, 0) 5 else 0 - (nI i - gI m (0, 5, 0) 5)) = _; rw [ha.2.2.1]; exact farA (by omega) ha.1) h

theorem wm_St_ripple {d n : Nat} {D : SDt} {m : Mem} {K : Option Vv → Mem → Prop} (hS : SW n D m) {v : Int32} {i : Nat} (hv : v = nI i) (hi : i < n) (h : K (some (vi (nI (rp D i)))) m) : cW (d + 2) n_St_ripple [vo 0 5 0, vi v] m K := by
  have hR := hS.ok
  have h8 := hS.le
  have q1 := hS.nA
  have q2 := hS.nB
  subst hv
  have e0 : (nI i).toNatClampNeg = i := nI_clamp (by omega)
  have hh := hS.hs hi
  refine w_St_ripple (Go.runR (callT_mono MT _) [] 200 hR ?_)
  refine m_St_hasHouse1 (by repeat' (first | exact hR | apply OKR.pI | apply OKR.pL | apply OKR.cpI | apply OKR.wI)) q1 h8 hi (And.intro (by repeat' (first | exact hR | apply OKR.pI | apply OKR.pL | apply OKR.cpI | apply OKR.wI)) ?_)
  refine And.intro (fun c3 => ?_) (fun c3 => ?_)
  · first | exact absurd c3 (by decide) | exact absurd (by decide) c3 | (exfalso; grind)
  · try dsimp only at c3
    refine And.intro ⟨(by first | decide | assumption | omega), (by first | decide | assumption | omega)⟩ ?_
    refine And.intro ⟨(vp_nI (k := i) (N := 8) (by omega) (by decide)), ⟨(by decide), by rw [e0]; omega⟩⟩ ?_
    refine wm_Ho_sound (by exact hS) (i := i) (by rw [e0]; omega) hi (And.intro (by repeat' (first | exact hR | apply OKR.pI | apply OKR.pL | apply OKR.cpI | apply OKR.wI)) ?_)
    refine And.intro ⟨(by first | decide | assumption | omega), (by first | decide | assumption | omega)⟩ ?_
    refine And.intro ⟨(vp_nI (k := i) (N := 8) (by omega) (by decide)), ⟨(by decide), by rw [e0]; omega⟩⟩ ?_
    refine wm_St_distance (by exact hS) rfl hi (And.intro (by repeat' (first | exact hR | apply OKR.pI | apply OKR.pL | apply OKR.cpI | apply OKR.wI)) ?_)
    refine And.intro trivial ?_
    refine kvi ?_ h
    show (if 0 < nI (sn D i) - gI m (0, 8, 8 * 0 + (nI i).toNatClampNeg) 2 - nI (far i (dA D)) then nI (sn D i) - gI m (0, 8, 8 * 0 + (nI i).toNatClampNeg) 2 - nI (far i (dA D)) else 0) = _
    rw [e0, show 8 * 0 + i = i by omega, hh.2.2.2.2.2.2.1]
    have g := sub3 (wsnL hS hi) hh.2.2.2.1 (whmL hS hi)
    unfold rp
    split
    · rename_i z
      exact g.1 z
    · rename_i z
      rw [g.2.1 z]; rfl

theorem wm_M_soundOf {d n : Nat} {D : SDt} {m : Mem} {K : Option Vv → Mem → Prop} (hS : SW n D m) {v : Int32} {i : Nat} (hv : v = nI i) (hi : i < n) (h : K (some (vi (nI (sn D i)))) m) : cW (d + 1) n_M_soundOf [vo 1 0 0, vi v] m K := by
  have hR := hS.ok
  have h8 := hS.le
  have q1 := hS.nA
  have q2 := hS.nB
  subst hv
  have e0 : (nI i).toNatClampNeg = i := nI_clamp (by omega)
  have hh := hS.hs hi
  have kk := hh.2.2.2.2.2.2.2.2.2.1
  have ll := hh.2.2.2.2.2.2.2.2.2.2.1
  refine w_M_soundOf (Go.runR (callT_mono MT _) [] 200 hR ?_)
  refine And.intro ⟨rfl, rfl, rfl⟩ ?_
  refine And.intro (by first | exact vp_nI (k := i) (N := 16) (by omega) (by decide) | exact vp_nI (k := i) (N := 8) (by omega) (by decide)) ?_
  refine And.intro (fun c7 => ?_) (fun c7 => ?_)
  · try dsimp only at c7
    refine And.intro ⟨rfl, rfl, rfl⟩ ?_
    refine And.intro (by first | exact vp_nI (k := i) (N := 16) (by omega) (by decide) | exact vp_nI (k := i) (N := 8) (by omega) (by decide)) ?_
    refine And.intro trivial ?_
    refine kvi ?_ h
    have g := sndB _ hh.2.1 _ (show dL D i < 10 by have := hh.2.2.1; omega)
    unfold sn
    rw [← g]
    simp only [e0, kk, ll] at *
    grind
  · try dsimp only at c7
    refine And.intro (fun c17 => ?_) (fun c17 => ?_)
    · try dsimp only at c17
      refine And.intro ⟨rfl, rfl, rfl⟩ ?_
      refine And.intro (by first | exact vp_nI (k := i) (N := 16) (by omega) (by decide) | exact vp_nI (k := i) (N := 8) (by omega) (by decide)) ?_
      refine And.intro (by decide) ?_
      refine And.intro trivial ?_
      refine kvi ?_ h
      have g := sndB _ hh.2.1 _ (show dL D i < 10 by have := hh.2.2.1; omega)
      unfold sn
      rw [← g]
      simp only [e0, kk, ll] at *
      grind
    · try dsimp only at c17
      refine And.intro (fun c27 => ?_) (fun c27 => ?_)
      · try dsimp only at c27
        refine And.intro trivial ?_
        refine kvi ?_ h
        have g := sndB _ hh.2.1 _ (show dL D i < 10 by have := hh.2.2.1; omega)
        unfold sn
        rw [← g]
        simp only [e0, kk, ll] at *
        grind
      · try dsimp only at c27
        refine And.intro ⟨rfl, rfl, rfl⟩ ?_
        refine And.intro (by first | exact vp_nI (k := i) (N := 16) (by omega) (by decide) | exact vp_nI (k := i) (N := 8) (by omega) (by decide)) ?_
        refine And.intro trivial ?_
        refine kvi ?_ h
        have g := sndB _ hh.2.1 _ (show dL D i < 10 by have := hh.2.2.1; omega)
        unfold sn
        rw [← g]
        simp only [e0, kk, ll] at *
        grind

theorem wm_M_farOf {d n : Nat} {D : SDt} {m : Mem} {K : Option Vv → Mem → Prop} (hS : SW n D m) {v : Int32} {i : Nat} (hv : v = nI i) (hi : i < n) (h : K (some (vi (nI (far i (dA D))))) m) : cW (d + 1) n_M_farOf [vo 1 0 0, vi v] m K := by
  have hR := hS.ok
  have h8 := hS.le
  have q1 := hS.nA
  have q2 := hS.nB
  subst hv
  have ha := hS.al (by omega)
  refine w_M_farOf (Go.runR (callT_mono MT _) [] 200 hR ?_)
  refine And.intro (fun c3 => ?_) (fun c3 => ?_)
  · try dsimp only at c3
    refine And.intro trivial ?_
    refine kvi ?_ h
    have g := farB (i := i) (a := dA D) (by omega) ha.1
    rw [← g]
    have aa := ha.2.2.2.1
    grind
  · try dsimp only at c3
    refine And.intro trivial ?_
    refine kvi ?_ h
    have g := farB (i := i) (a := dA D) (by omega) ha.1
    rw [← g]
    have aa := ha.2.2.2.1
    grind

theorem wm_M_rippleOf {d n : Nat} {D : SDt} {m : Mem} {K : Option Vv → Mem → Prop} (hS : SW n D m) {v : Int32} {i : Nat} (hv : v = nI i) (hi : i < n) (h : K (some (vi (nI (rp D i)))) m) : cW (d + 2) n_M_rippleOf [vo 1 0 0, vi v] m K := by
  have hR := hS.ok
  have h8 := hS.le
  have q1 := hS.nA
  have q2 := hS.nB
  subst hv
  have e0 : (nI i).toNatClampNeg = i := nI_clamp (by omega)
  have hh := hS.hs hi
  have g := sub3 (wsnL hS hi) hh.2.2.2.1 (whmL hS hi)
  have ww : gI m (1, 9, 0) (nI i).toNatClampNeg = nI (dW D i) := by rw [e0]; exact hh.2.2.2.2.2.2.2.2.2.2.2.1
  refine w_M_rippleOf (Go.runR (callT_mono MT _) [] 200 hR ?_)
  refine wm_M_soundOf (by exact hS) rfl hi (And.intro (by repeat' (first | exact hR | apply OKR.pI | apply OKR.pL | apply OKR.cpI | apply OKR.wI)) ?_)
  refine And.intro ⟨rfl, rfl, rfl⟩ ?_
  refine And.intro (by first | exact vp_nI (k := i) (N := 16) (by omega) (by decide) | exact vp_nI (k := i) (N := 8) (by omega) (by decide)) ?_
  refine wm_M_farOf (by exact hS) rfl hi (And.intro (by repeat' (first | exact hR | apply OKR.pI | apply OKR.pL | apply OKR.cpI | apply OKR.wI)) ?_)
  refine And.intro (fun c14 => ?_) (fun c14 => ?_)
  · try dsimp only at c14
    rw [ww] at c14
    refine And.intro trivial ?_
    refine kvi ?_ h
    unfold rp
    first
    | (rw [g.2.2.2 (Int32.not_le.mp c14)]; rfl)
    | (show nI (sn D i) - gI m (1, 9, 0) (nI i).toNatClampNeg - nI (far i (dA D)) = _
       rw [ww]; exact g.2.2.1 c14)
  · try dsimp only at c14
    rw [ww] at c14
    refine And.intro trivial ?_
    refine kvi ?_ h
    unfold rp
    first
    | (rw [g.2.2.2 (Int32.not_le.mp c14)]; rfl)
    | (show nI (sn D i) - gI m (1, 9, 0) (nI i).toNatClampNeg - nI (far i (dA D)) = _
       rw [ww]; exact g.2.2.1 c14)

theorem wl_St_ripplesOf {d n : Nat} {D : SDt} {m : Mem} {K : Option Vv → Mem → Prop} (hS : SW n D m) {s : Nat} (hs : s < 256) (h : K (some (vi (nI (rs n D s)))) m) (k : Nat) (hk : k ≤ n) : Go (cW (d + 2)) i_St_ripplesOf (0, 0) K 4 [vo 0 5 0, vi (nI s), vi (nI (rs k D s)), vi (nI k)] [] m 0 0 := by
  have hR := hS.ok
  have h8 := hS.le
  have q1 := hS.nA
  have q2 := hS.nB
  refine Go.runR (callT_mono MT _) [4] 200 hR ?_
  refine And.intro (fun c7 => ?_) (fun c7 => ?_)
  · try dsimp only at c7
    obtain rfl := lq_e c7 q1 rfl hk (by omega)
    refine And.intro trivial ?_
    exact h
  · try dsimp only at c7
    have hk2 := lq_m c7 q1 rfl hk (by omega)
    refine m_X_contains (by repeat' (first | exact hR | apply OKR.pI | apply OKR.pL | apply OKR.cpI | apply OKR.wI)) (s := s) (i := k) rfl rfl hs (by omega) (And.intro (by repeat' (first | exact hR | apply OKR.pI | apply OKR.pL | apply OKR.cpI | apply OKR.wI)) ?_)
    refine And.intro (fun c12 => ?_) (fun c12 => ?_)
    · try dsimp only at c12
      have key : ∀ (b : Int32), b = nI (rs (k + 1) D s) → Go (cW (d + 2)) i_St_ripplesOf (0, 0) K 4 [vo 0 5 0, vi (nI s), vi b, vi (nI k + 1)] [] (m) 0 0 := fun b z => by
        subst z
        exact go_eq (by rw [← nI_succ]) rfl (wl_St_ripplesOf hS hs h (k + 1) hk2)
      exact key _ (by first | (rw [rs_s1 (tb_n0 c12), ← nI_add]; done) | (rw [rs_s0 (tb_e0 c12)]; exact i_add0 _))
    · try dsimp only at c12
      refine wm_St_ripple (by exact hS) (i := k) rfl hk2 (And.intro (by repeat' (first | exact hR | apply OKR.pI | apply OKR.pL | apply OKR.cpI | apply OKR.wI)) ?_)
      have key : ∀ (b : Int32), b = nI (rs (k + 1) D s) → Go (cW (d + 2)) i_St_ripplesOf (0, 0) K 4 [vo 0 5 0, vi (nI s), vi b, vi (nI k + 1)] [] (m) 0 0 := fun b z => by
        subst z
        exact go_eq (by rw [← nI_succ]) rfl (wl_St_ripplesOf hS hs h (k + 1) hk2)
      exact key _ (by first | (rw [rs_s1 (tb_n0 c12), ← nI_add]; done) | (rw [rs_s0 (tb_e0 c12)]; exact i_add0 _))
termination_by n - k
decreasing_by all_goals omega

theorem wm_St_ripplesOf {d n : Nat} {D : SDt} {m : Mem} {K : Option Vv → Mem → Prop} (hS : SW n D m) {v : Int32} {s : Nat} (hv : v = nI s) (hs : s < 256) (h : K (some (vi (nI (rs n D s)))) m) : cW (d + 3) n_St_ripplesOf [vo 0 5 0, vi v] m K := by
  have hR := hS.ok
  have h8 := hS.le
  have q1 := hS.nA
  have q2 := hS.nB
  subst hv
  refine w_St_ripplesOf (Go.runR (callT_mono MT _) [4] 200 hR ?_)
  exact wl_St_ripplesOf hS hs h 0 (by omega)

theorem wl_M_ripples {d n : Nat} {D : SDt} {m : Mem} {K : Option Vv → Mem → Prop} (hS : SW n D m) {s : Nat} (hs : s < 256) (h : K (some (vi (nI (rs n D s)))) m) (k : Nat) (hk : k ≤ n) : Go (cW (d + 2)) i_M_ripples (0, 0) K 4 [vo 1 0 0, vi (nI s), vi (nI (rs k D s)), vi (nI k)] [] m 0 0 := by
  have hR := hS.ok
  have h8 := hS.le
  have q1 := hS.nA
  have q2 := hS.nB
  refine Go.runR (callT_mono MT _) [4] 200 hR ?_
  refine And.intro (fun c7 => ?_) (fun c7 => ?_)
  · try dsimp only at c7
    obtain rfl := lq_e c7 q2 rfl hk (by omega)
    refine And.intro trivial ?_
    exact h
  · try dsimp only at c7
    have hk2 := lq_m c7 q2 rfl hk (by omega)
    refine m_M_has (by repeat' (first | exact hR | apply OKR.pI | apply OKR.pL | apply OKR.cpI | apply OKR.wI)) (s := s) (i := k) rfl rfl hs (by omega) (And.intro (by repeat' (first | exact hR | apply OKR.pI | apply OKR.pL | apply OKR.cpI | apply OKR.wI)) ?_)
    refine And.intro (fun c12 => ?_) (fun c12 => ?_)
    · try dsimp only at c12
      have key : ∀ (b : Int32), b = nI (rs (k + 1) D s) → Go (cW (d + 2)) i_M_ripples (0, 0) K 4 [vo 1 0 0, vi (nI s), vi b, vi (nI k + 1)] [] (m) 0 0 := fun b z => by
        subst z
        exact go_eq (by rw [← nI_succ]) rfl (wl_M_ripples hS hs h (k + 1) hk2)
      exact key _ (by first | (rw [rs_s1 (tb_n0 c12), ← nI_add]; done) | (rw [rs_s0 (tb_e0 c12)]; exact i_add0 _))
    · try dsimp only at c12
      refine wm_M_rippleOf (by exact hS) (i := k) rfl hk2 (And.intro (by repeat' (first | exact hR | apply OKR.pI | apply OKR.pL | apply OKR.cpI | apply OKR.wI)) ?_)
      have key : ∀ (b : Int32), b = nI (rs (k + 1) D s) → Go (cW (d + 2)) i_M_ripples (0, 0) K 4 [vo 1 0 0, vi (nI s), vi b, vi (nI k + 1)] [] (m) 0 0 := fun b z => by
        subst z
        exact go_eq (by rw [← nI_succ]) rfl (wl_M_ripples hS hs h (k + 1) hk2)
      exact key _ (by first | (rw [rs_s1 (tb_n0 c12), ← nI_add]; done) | (rw [rs_s0 (tb_e0 c12)]; exact i_add0 _))
termination_by n - k
decreasing_by all_goals omega

theorem wm_M_ripples {d n : Nat} {D : SDt} {m : Mem} {K : Option Vv → Mem → Prop} (hS : SW n D m) {v : Int32} {s : Nat} (hv : v = nI s) (hs : s < 256) (h : K (some (vi (nI (rs n D s)))) m) : cW (d + 3) n_M_ripples [vo 1 0 0, vi v] m K := by
  have hR := hS.ok
  have h8 := hS.le
  have q1 := hS.nA
  have q2 := hS.nB
  subst hv
  refine w_M_ripples (Go.runR (callT_mono MT _) [4] 200 hR ?_)
  exact wl_M_ripples hS hs h 0 (by omega)

theorem wm_M_all {d n : Nat} {D : SDt} {m : Mem} {K : Option Vv → Mem → Prop} (hS : SW n D m)  (h : K (some (vi (nI (2 ^ n - 1)))) m) : cW (d + 1) n_M_all [vo 1 0 0] m K := by
  have hR := hS.ok
  have h8 := hS.le
  have q1 := hS.nA
  have q2 := hS.nB
  refine w_M_all (Go.runR (callT_mono MT _) [] 200 hR ?_)
  refine And.intro trivial ?_
  exact kvi (by show (1 : Int32) <<< (gI m (1, 0, 0) 10 &&& 31) - 1 = _; rw [q2]; exact two_m n (by omega)) h

theorem wrsL {n : Nat} {D : SDt} {m : Mem} (hS : SW n D m) (s : Nat) : rs n D s ≤ 144 := by
  have a : rs n D s ≤ 18 * n := itrL fun k x hk => by have := wrpL hS hk; split <;> omega
  have := hS.le
  omega

theorem wm_M_isSet1 {d n : Nat} {D : SDt} {m : Mem} {K : Option Vv → Mem → Prop} (hS : SW n D m) {v : Int32} {s : Nat} (hv : v = nI s) (hs : s < 2 ^ n) (h : K (some (vi 1)) m) : cW (d + 2) n_M_isSet [vo 1 0 0, vi v] m K := by
  have hR := hS.ok
  have h8 := hS.le
  have q1 := hS.nA
  have q2 := hS.nB
  subst hv
  refine w_M_isSet (Go.runR (callT_mono MT _) [] 200 hR ?_)
  refine wm_M_all (by exact hS)  (And.intro (by repeat' (first | exact hR | apply OKR.pI | apply OKR.pL | apply OKR.cpI | apply OKR.wI)) ?_)
  refine m_M_in (by repeat' (first | exact hR | apply OKR.pI | apply OKR.pL | apply OKR.cpI | apply OKR.wI))  (And.intro (by repeat' (first | exact hR | apply OKR.pI | apply OKR.pL | apply OKR.cpI | apply OKR.wI)) ?_)
  refine And.intro (by first | exact Or.inl rfl | exact Or.inr rfl | (unfold b2; split; exact Or.inr rfl; exact Or.inl rfl)) ?_
  refine kvi ?_ h
  have bb2 := two_l n (by omega)
  exact if_pos ⟨nI_pos' (by omega), nI_le (by omega) (by omega)⟩

theorem wm_St_leaked {d n : Nat} {D : SDt} {m : Mem} {K : Option Vv → Mem → Prop} (hS : SW n D m) {v : Int32} {x : Nat} (hv : v = nI x) (hx : x < 1000) (hn : 0 < n) (h : K (some (vi (nI (lkN D x)))) m) : cW (d + 1) n_St_leaked [vo 0 5 0, vi v] m K := by
  have hR := hS.ok
  have h8 := hS.le
  have q1 := hS.nA
  have q2 := hS.nB
  subst hv
  have ha := hS.al hn
  refine w_St_leaked (Go.runR (callT_mono MT _) [] 200 hR ?_)
  refine And.intro trivial ?_
  refine kvi ?_ h
  show nI x - (if nI x < gI m (0, 5, 0) 6 then nI x else gI m (0, 5, 0) 6) = _
  rw [ha.2.2.2.2.1]
  have i1 : nI x < nI (dE D) ↔ x < dE D := nI_ltI (by omega) (by have := ha.2.1; omega)
  unfold lkN
  by_cases z : x < dE D
  · rw [if_pos (i1.mpr z), if_pos z]; exact Int32.sub_self _
  · rw [if_neg (mt i1.mp z), if_neg z, pk_sub (by omega)]

def mdH (D : SDt) (s i : Nat) : Int32 := dM D i + (if s.testBit i = true then nI (rp D i) else 0)
def roH (n : Nat) (D : SDt) (s : Nat) : Nat := if 60 - dT D < rs n D s then 60 - dT D else rs n D s
def ovH (n : Nat) (D : SDt) (s : Nat) : Nat := rs n D s - roH n D s
def RgI (D : SDt) (m0 m : Mem) (T s k : Nat) : Prop := Nx [8, 10, 11] [] m0 m ∧ (∀ i q, gI m (0, 8, i) q = if i < k ∧ q = 3 then mdH D s i else gI m0 (0, 8, i) q) ∧ (∀ h q, gI m (0, 10, h) q = if h = T ∧ q = 1 then nI s else if h = T ∧ q = 3 then gI m0 (0, 5, 0) 7 else if h = T ∧ q = 4 then gI m0 (0, 5, 0) 8 else gI m0 (0, 10, h) q) ∧ ∀ h q, gI m (0, 11, h) q = if h = T ∧ q < k then gI m0 (0, 8, q) 3 else gI m0 (0, 11, h) q
def RgZ (n : Nat) (D : SDt) (m0 m : Mem) (T s : Nat) : Prop := Nx [5, 8, 10, 11] [] m0 m ∧ (∀ i q, gI m (0, 8, i) q = if i < n ∧ q = 3 then mdH D s i else gI m0 (0, 8, i) q) ∧ (∀ h q, gI m (0, 10, h) q = if h = T ∧ q = 2 then nI (roH n D s) else if h = T ∧ q = 1 then nI s else if h = T ∧ q = 3 then gI m0 (0, 5, 0) 7 else if h = T ∧ q = 4 then gI m0 (0, 5, 0) 8 else gI m0 (0, 10, h) q) ∧ (∀ h q, gI m (0, 11, h) q = if h = T ∧ q < n then gI m0 (0, 8, q) 3 else gI m0 (0, 11, h) q) ∧ ∀ s' q, gI m (0, 5, s') q = if s' = 0 ∧ q = 4 then nI (T + 1) else if s' = 0 ∧ q = 8 then gI m0 (0, 5, 0) 8 + nI (ovH n D s) else if s' = 0 ∧ q = 7 then nI (lkN D (dT D + roH n D s)) else gI m0 (0, 5, s') q
theorem Nx.wk {a b a' b' : List Nat} {m m' : Mem} (h : Nx a b m m') (ha : ∀ t, t ∈ a → t ∈ a') (hb : ∀ t, t ∈ b → t ∈ b') : Nx a' b' m m' := ⟨h.1, h.2.1, h.2.2.1, fun t i k q => h.2.2.2.1 t i k (fun z => q (ha t z)), fun t i k q => h.2.2.2.2 t i k (fun z => q (hb t z))⟩
theorem RgI.sw {n : Nat} {D : SDt} {m0 m : Mem} {T s k : Nat} (H : RgI D m0 m T s k) (hS : SW n D m0) : SW n D m :=
  SW.cg (m := m0) H.1.ok H.1.kn (fun q _ => H.1.2.2.2.1 5 0 q (by simp)) (fun i q hq => by rw [H.2.1, if_neg (by omega)]) (fun q _ => H.1.2.2.2.2 0 0 q (by simp)) (fun t q _ => H.1.2.2.2.2 t 0 q (by simp)) hS

theorem l_St_ring {d n T s : Nat} {D : SDt} {m0 : Mem} {K : Option Vv → Mem → Prop} (hS0 : SC n D m0) (hn : 0 < n) (hT : T < 40) (hs : s < 256) (q4 : gI m0 (0, 5, 0) 4 = nI T) (h : ∀ m, RgZ n D m0 m T s → K (some (vi (nI (ovH n D s)))) m) (k : Nat) (m : Mem) (H : RgI D m0 m T s k) (hk : k ≤ n) : Go (cW (d + 4)) i_St_ring (0, 0) K 25 [vo 0 5 0, vi (nI s), vo 0 10 T, vi (nI k), vu] [] m 0 0 := by
  have hS := H.sw hS0.sw
  have hR := hS.ok
  have h8 := hS.le
  have q1 := hS.nA
  have e0 : (nI k).toNatClampNeg = k := nI_clamp (by omega)
  have w5 : ∀ q, gI m (0, 5, 0) q = gI m0 (0, 5, 0) q := fun q => H.1.2.2.2.1 5 0 q (by simp)
  have wt := hS0.wt
  have r0 := wrsL hS s
  refine Go.runR (callT_mono MT _) [25] 200 hR ?_
  refine And.intro (fun c28 => ?_) (fun c28 => ?_)
  · try dsimp only at c28
    obtain rfl := lq_e c28 q1 rfl hk (by omega)
    have hSq : SW k D (pI m (0, 10, T) 2 (if 60 - gI m (0, 5, 0) 7 < nI (rs k D s) then 60 - gI m (0, 5, 0) 7 else nI (rs k D s))) := SW.cg (m := m) hR.pI (fun i => kn_rw (fun _ => rfl) i) (fun _ _ => rfl) (fun _ _ _ => rfl) (fun _ _ => rfl) (fun _ _ _ => rfl) hS
    have ew : gI m (0, 5, 0) 7 = nI (dT D) := (w5 7).trans wt.2.1
    have emin : (if 60 - gI m (0, 5, 0) 7 < nI (rs k D s) then 60 - gI m (0, 5, 0) 7 else nI (rs k D s)) = nI (roH k D s) := (by rw [ew, show (60 : Int32) = nI 60 from rfl, pk_sub wt.1]; exact nI_min (a := rs k D s) (b := 60 - dT D) (by omega) (by omega))
    have rol : roH k D s ≤ rs k D s := (by unfold roH; split <;> omega)
    have eov : nI (rs k D s) - nI (roH k D s) = nI (ovH k D s) := pk_sub rol
    refine wm_St_ripplesOf (by exact hS) (s := s) rfl hs (And.intro (by repeat' (first | exact hR | apply OKR.pI | apply OKR.pL | apply OKR.cpI | apply OKR.wI)) ?_)
    refine wm_St_leaked (by exact hSq) (x := dT D + roH k D s) (by show gI m (0, 5, 0) 7 + gI (pI m (0, 10, T) 2 (if 60 - gI m (0, 5, 0) 7 < nI (rs k D s) then 60 - gI m (0, 5, 0) 7 else nI (rs k D s))) (0, 10, T) 2 = _; rw [rd00, if_pos ⟨rfl, rfl, rfl⟩, emin, ew, nI_add]) (by omega) hn (And.intro (by repeat' (first | exact hR | apply OKR.pI | apply OKR.pL | apply OKR.cpI | apply OKR.wI)) ?_)
    refine And.intro trivial ?_
    show K (some (vi (nI (rs k D s) - gI (pI m (0, 10, T) 2 (if 60 - gI m (0, 5, 0) 7 < nI (rs k D s) then 60 - gI m (0, 5, 0) 7 else nI (rs k D s))) (0, 10, T) 2))) (pI (pI (pI (pI m (0, 10, T) 2 (if 60 - gI m (0, 5, 0) 7 < nI (rs k D s) then 60 - gI m (0, 5, 0) 7 else nI (rs k D s))) (0, 5, 0) 7 (nI (lkN D (dT D + roH k D s)))) (0, 5, 0) 8 (gI m (0, 5, 0) 8 + (nI (rs k D s) - gI (pI m (0, 10, T) 2 (if 60 - gI m (0, 5, 0) 7 < nI (rs k D s) then 60 - gI m (0, 5, 0) 7 else nI (rs k D s))) (0, 10, T) 2))) (0, 5, 0) 4 (gI m (0, 5, 0) 4 + 1))
    rw [rd00, if_pos ⟨rfl, rfl, rfl⟩, emin, eov, w5 8, w5 4, q4, nI_1]
    refine h _ ⟨(((((H.1.wk (by simp) (by simp)).p0 (by simp)).p0 (by simp)).p0 (by simp)).p0 (by simp)), fun i q => ?_, fun t q => ?_, fun t q => ?_, fun s' q => ?_⟩
    · show gI m (0, 8, i) q = _
      exact H.2.1 i q
    · show gI (pI m (0, 10, T) 2 (nI (roH k D s))) (0, 10, t) q = _
      rw [rd00, H.2.2.1]
      by_cases z : t = T ∧ q = 2
      · rw [if_pos ⟨rfl, z.1, z.2⟩, if_pos z]
      · rw [if_neg (fun y => z ⟨y.2.1, y.2.2⟩), if_neg z]
    · show gI m (0, 11, t) q = _
      exact H.2.2.2 t q
    · rw [rd00]
      by_cases z : s' = 0 ∧ q = 4
      · rw [if_pos ⟨rfl, z.1, z.2⟩, if_pos z]
      · rw [if_neg (fun y => z ⟨y.2.1, y.2.2⟩), if_neg z, rd00]
        by_cases z2 : s' = 0 ∧ q = 8
        · rw [if_pos ⟨rfl, z2.1, z2.2⟩, if_pos z2]
        · rw [if_neg (fun y => z2 ⟨y.2.1, y.2.2⟩), if_neg z2, rd00]
          by_cases z3 : s' = 0 ∧ q = 7
          · rw [if_pos ⟨rfl, z3.1, z3.2⟩, if_pos z3]
          · rw [if_neg (fun y => z3 ⟨y.2.1, y.2.2⟩), if_neg z3]
            exact H.1.2.2.2.1 5 s' q (by simp)
  · try dsimp only at c28
    have hk2 := lq_m c28 q1 rfl hk (by omega)
    have hSp : ∀ x v, SW n D (pI m (0, 11, T) x v) := fun x v => SW.cg (m := m) hR.pI (fun i => kn_rw (fun _ => rfl) i) (fun _ _ => rfl) (fun _ _ _ => rfl) (fun _ _ => rfl) (fun _ _ _ => rfl) hS
    have ko : 8 * 0 + (nI k).toNatClampNeg = k := (by rw [e0]; omega)
    have dm : gI m (0, 8, 8 * 0 + (nI k).toNatClampNeg) 3 = dM D k := (by rw [ko, H.2.1, if_neg (by omega)]; exact (hS0.hs hk2).2.2.2.2.2.2.2.1)
    have key : ∀ x, x = mdH D s k → Go (cW (d + 4)) i_St_ring (0, 0) K 25 [vo 0 5 0, vi (nI s), vo 0 10 T, vi (nI k + 1), vu] [] (pI (pI m (0, 11, T) (nI k).toNatClampNeg (gI m (0, 8, 8 * 0 + (nI k).toNatClampNeg) 3)) (0, 8, 8 * 0 + (nI k).toNatClampNeg) 3 x) 0 0 := fun x z => (by
      subst z
      refine go_eq (by rw [← nI_succ]) rfl (l_St_ring hS0 hn hT hs q4 h (k + 1) _ ⟨(H.1.p0 (by simp)).p0 (by simp), fun i q => ?_, fun t q => ?_, fun t q => ?_⟩ hk2)
      · rw [ko, rd00]
        by_cases z : i = k ∧ q = 3
        · rw [if_pos ⟨rfl, z.1, z.2⟩, if_pos ⟨by omega, z.2⟩, z.1]
        · rw [if_neg (fun y => z ⟨y.2.1, y.2.2⟩)]
          show gI m (0, 8, i) q = _
          rw [H.2.1]
          by_cases y : i < k ∧ q = 3
          · rw [if_pos y, if_pos ⟨by omega, y.2⟩]
          · rw [if_neg y, if_neg (fun x => by omega)]
      · show gI m (0, 10, t) q = _
        exact H.2.2.1 t q
      · show gI (pI m (0, 11, T) (nI k).toNatClampNeg (gI m (0, 8, 8 * 0 + (nI k).toNatClampNeg) 3)) (0, 11, t) q = _
        rw [rd00, e0, H.2.2.2]
        by_cases z : t = T ∧ q = k
        · rw [if_pos ⟨rfl, z.1, z.2⟩, if_pos ⟨z.1, by omega⟩, z.2, show 8 * 0 + k = k by omega, H.2.1, if_neg (by omega)]
        · rw [if_neg (fun y => z ⟨y.2.1, y.2.2⟩)]
          by_cases y : t = T ∧ q < k
          · rw [if_pos y, if_pos ⟨y.1, by omega⟩]
          · rw [if_neg y, if_neg (fun x => by omega)])
    unfold mdH at key
    refine And.intro ⟨(by first | decide | assumption | omega), (by first | decide | assumption | omega)⟩ ?_
    refine And.intro ⟨(by first | decide | assumption | omega), (by first | decide | assumption | omega)⟩ ?_
    refine And.intro ⟨(vp_nI (k := k) (N := 8) (by omega) (by decide)), ⟨(by decide), by rw [e0]; omega⟩⟩ ?_
    refine And.intro (vp_nI (k := k) (N := 8) (by omega) (by decide)) ?_
    refine And.intro ⟨(by first | decide | assumption | omega), (by first | decide | assumption | omega)⟩ ?_
    refine And.intro ⟨(vp_nI (k := k) (N := 8) (by omega) (by decide)), ⟨(by decide), by rw [e0]; omega⟩⟩ ?_
    refine m_X_contains (by repeat' (first | exact hR | apply OKR.pI | apply OKR.pL | apply OKR.cpI | apply OKR.wI)) (s := s) (i := k) rfl rfl hs (by omega) (And.intro (by repeat' (first | exact hR | apply OKR.pI | apply OKR.pL | apply OKR.cpI | apply OKR.wI)) ?_)
    refine And.intro (fun c47 => ?_) (fun c47 => ?_)
    · try dsimp only at c47
      first
      | exact key _ (by
          show gI m (0, 8, 8 * 0 + (nI k).toNatClampNeg) 3 + nI (rp D k) = _
          rw [if_pos (tb_n0 c47), dm])
      | exact key _ (by
          show gI m (0, 8, 8 * 0 + (nI k).toNatClampNeg) 3 + 0 = _
          rw [if_neg (tb_e0 c47), dm])
    · try dsimp only at c47
      refine wm_St_ripple (by exact hSp _ _) (i := k) rfl hk2 (And.intro (by repeat' (first | exact hR | apply OKR.pI | apply OKR.pL | apply OKR.cpI | apply OKR.wI)) ?_)
      first
      | exact key _ (by
          show gI m (0, 8, 8 * 0 + (nI k).toNatClampNeg) 3 + nI (rp D k) = _
          rw [if_pos (tb_n0 c47), dm])
      | exact key _ (by
          show gI m (0, 8, 8 * 0 + (nI k).toNatClampNeg) 3 + 0 = _
          rw [if_neg (tb_e0 c47), dm])
termination_by n - k
decreasing_by all_goals omega

theorem m_St_ring {d n T s : Nat} {D : SDt} {m : Mem} {K : Option Vv → Mem → Prop} {u : Int32} (hS : SC n D m) (hn : 0 < n) (hT : T < 40) (hu : u = nI s) (hs : s < 256) (q4 : gI m (0, 5, 0) 4 = nI T) (h : ∀ m', RgZ n D m m' T s → K (some (vi (nI (ovH n D s)))) m') : cW (d + 5) n_St_ring [vo 0 5 0, vi u] m K := by
  subst hu
  have hR := hS.ok
  have e4 : (gI m (0, 5, 0) 4).toNatClampNeg = T := by rw [q4, nI_clamp (by omega)]
  have eT : 40 * 0 + (gI m (0, 5, 0) 4).toNatClampNeg = T := by rw [e4]; omega
  refine w_St_ring (Go.runR (callT_mono MT _) [25] 200 hR ?_)
  refine And.intro (fun c3 => ?_) (fun c3 => ?_)
  · try dsimp only at c3
    refine And.intro ⟨(by first | decide | assumption | omega), (by first | decide | assumption | omega)⟩ ?_
    refine And.intro ⟨(by show vp_in (gI m (0, 5, 0) 4) 40; rw [q4]; exact vp_nI hT (by decide)), ⟨(by decide), by rw [e4]; exact hT⟩⟩ ?_
    refine go_eq (ls' := [vo 0 5 0, vi (nI s), vo 0 10 T, vi (nI 0), vu]) (m' := pI (pI (pI m (0, 10, T) 1 (nI s)) (0, 10, T) 3 (gI m (0, 5, 0) 7)) (0, 10, T) 4 (gI m (0, 5, 0) 8)) ?_ ?_ (l_St_ring (m0 := m) hS hn hT hs q4 h 0 _ ⟨(((Nx.refl hR).p0 (by simp)).p0 (by simp)).p0 (by simp), fun i q => ?_, fun t q => ?_, fun t q => ?_⟩ (Nat.zero_le _))
    · show [vo 0 5 0, vi (nI s), vo 0 10 (40 * 0 + (gI m (0, 5, 0) 4).toNatClampNeg), vi 0, vu] = _
      rw [eT]; rfl
    · show pI (pI (pI m (0, 10, 40 * 0 + (gI m (0, 5, 0) 4).toNatClampNeg) 1 (nI s)) (0, 10, 40 * 0 + (gI m (0, 5, 0) 4).toNatClampNeg) 3 (gI m (0, 5, 0) 7)) (0, 10, 40 * 0 + (gI m (0, 5, 0) 4).toNatClampNeg) 4 (gI m (0, 5, 0) 8) = _
      rw [eT]
    · rw [if_neg (by omega)]; rfl
    · rw [rd00]
      by_cases z : t = T ∧ q = 4
      · rw [if_pos ⟨rfl, z.1, z.2⟩, if_neg (by omega), if_neg (by omega), if_pos z]
      · rw [if_neg (fun y => z ⟨y.2.1, y.2.2⟩), rd00]
        by_cases z2 : t = T ∧ q = 3
        · rw [if_pos ⟨rfl, z2.1, z2.2⟩, if_neg (by omega), if_pos z2]
        · rw [if_neg (fun y => z2 ⟨y.2.1, y.2.2⟩), rd00]
          by_cases z3 : t = T ∧ q = 1
          · rw [if_pos ⟨rfl, z3.1, z3.2⟩, if_pos z3]
          · rw [if_neg (fun y => z3 ⟨y.2.1, y.2.2⟩), if_neg z3, if_neg z2, if_neg z]
    · rw [if_neg (by omega)]; rfl
  · exact absurd (by show gI m (0, 5, 0) 4 < 40; rw [q4]; exact nI_lt (b := 40) hT (by decide)) c3
