/-! Written by a program (wip/whole/p61.py): year. -/
def lkN (D : SDt) (x : Nat) : Nat := if x < dE D then 0 else x - dE D
def yrS (n : Nat) (D : SDt) (g : Nat → Nat) : Nat → Nat → Nat → Nat × Nat
  | 0, k, w => (w, k)
  | f + 1, k, w => if 60 < w + rs n D (g k) then (w, k) else yrS n D g f (k + 1) (lkN D (w + rs n D (g k)))
theorem yrs0 (n : Nat) (D : SDt) (g : Nat → Nat) (f k w : Nat) (h : 60 < w + rs n D (g k)) : yrS n D g (f + 1) k w = (w, k) := if_pos h
theorem yrs1 (n : Nat) (D : SDt) (g : Nat → Nat) (f k w : Nat) (h : ¬ 60 < w + rs n D (g k)) : yrS n D g (f + 1) k w = yrS n D g f (k + 1) (lkN D (w + rs n D (g k))) := if_neg h
theorem lkL (D : SDt) (x : Nat) : lkN D x ≤ x := by unfold lkN; split <;> omega

theorem m_St_leaked {d n : Nat} {D : SDt} {m : Mem} {K : Option Vv → Mem → Prop} (hS : SC n D m) {v : Int32} {x : Nat} (hv : v = nI x) (hx : x < 1000) (hn : 0 < n) (h : K (some (vi (nI (lkN D x)))) m) : cW (d + 1) n_St_leaked [vo 0 5 0, vi v] m K := by
  have hR := hS.ok
  have h8 := hS.le
  have q1 := hS.nA
  have q2 := hS.nB
  subst hv
  have ha := hS.al hn
  refine w_St_leaked (Go.runR (callT_mono MT _) [] 200 hR ?_)
  refine And.intro trivial ?_
  refine kvi ?_ h
  show nI x - (if nI x < gI m (0, 5, 0) 6 then nI x else gI m (0, 5, 0) 6) = _
  rw [ha.2.2.2.2.1]
  have i1 : nI x < nI (dE D) ↔ x < dE D := nI_ltI (by omega) (by have := ha.2.1; omega)
  unfold lkN
  by_cases z : x < dE D
  · rw [if_pos (i1.mpr z), if_pos z]; exact Int32.sub_self _
  · rw [if_neg (mt i1.mp z), if_neg z, pk_sub (by omega)]

theorem l_X_year26 {d n : Nat} {D : SDt} {m : Mem} {K : Option Vv → Mem → Prop} {f : Nat → Int32} {a r : Nat} {b : Vv} (hS : SC n D m) (ha : a < 6) (hr : r ≤ 40) (q : gI m (0, 1, a) 1 = nI r) (hf : ∀ t, t < r → gI m (0, 2, a) t = f t) (h3 : (¬ ∀ t, t < r → ∃ s, s < 2 ^ n ∧ f t = nI s) → K (some (vi (-3))) (foundM m 3)) (h : (∀ t, t < r → ∃ s, s < 2 ^ n ∧ f t = nI s) → Go (cW (d + 2)) i_X_year (0, 0) K 43 [vo 0 0 0, b, vo 0 1 a, vi (nI r), vu, vu] [] m 0 0) (k : Nat) (hk : k ≤ r) (hg : ∀ t, t < k → ∃ s, s < 2 ^ n ∧ f t = nI s) : Go (cW (d + 2)) i_X_year (0, 0) K 26 [vo 0 0 0, b, vo 0 1 a, vi (nI k), vu, vu] [] m 0 0 := by
  have hR := hS.ok
  have hl : r ≤ ln (0, 2, a) := by rw [show ln (0, 2, a) = 40 from if_pos ha]; exact hr
  refine Go.runR (callT_mono MT _) [26, 43] 200 hR ?_
  refine And.intro (fun c29 => ?_) (fun c29 => ?_)
  · try dsimp only at c29
    obtain rfl := lq_e c29 q rfl hk (by omega)
    exact h hg
  · have hk2 := lq_m c29 q rfl hk (by omega)
    rcases setCase (n := n) (f k) with ⟨s, hs, es⟩ | qn
    · refine And.intro ⟨(by first | decide | assumption | omega), (by first | decide | assumption | omega)⟩ ?_
      refine m_Ce_get1 (by repeat' (first | exact hR | apply OKR.pI | apply OKR.pL | apply OKR.cpI | apply OKR.wI)) (n := r) (j := k) (by omega) hl q hk2 (And.intro (by repeat' (first | exact hR | apply OKR.pI | apply OKR.pL | apply OKR.cpI | apply OKR.wI)) ?_)
      rw [hf k hk2]
      refine m_St_hasSet1 (by exact hS) es hs (And.intro (by repeat' (first | exact hR | apply OKR.pI | apply OKR.pL | apply OKR.cpI | apply OKR.wI)) ?_)
      refine And.intro (fun c36 => ?_) (fun c36 => ?_)
      · first | exact absurd c36 (by decide) | exact absurd (by decide) c36 | (exfalso; grind)
      · try dsimp only at c36
        refine go_eq (ls' := [vo 0 0 0, b, vo 0 1 a, vi (nI (k + 1)), vu, vu]) (by rw [nI_succ]; rfl) rfl (l_X_year26 hS ha hr q hf h3 h (k + 1) hk2 (fun t ht => ?_))
        rcases Nat.lt_or_ge t k with z | z
        · exact hg t z
        · rw [show t = k by omega]
          exact ⟨s, hs, es⟩
    · refine And.intro ⟨(by first | decide | assumption | omega), (by first | decide | assumption | omega)⟩ ?_
      refine m_Ce_get1 (by repeat' (first | exact hR | apply OKR.pI | apply OKR.pL | apply OKR.cpI | apply OKR.wI)) (n := r) (j := k) (by omega) hl q hk2 (And.intro (by repeat' (first | exact hR | apply OKR.pI | apply OKR.pL | apply OKR.cpI | apply OKR.wI)) ?_)
      rw [hf k hk2]
      refine m_St_hasSet0 (by exact hS) qn (And.intro (by repeat' (first | exact hR | apply OKR.pI | apply OKR.pL | apply OKR.cpI | apply OKR.wI)) ?_)
      refine And.intro (fun c36 => ?_) (fun c36 => ?_)
      · try dsimp only at c36
        refine m_X_found3 (by repeat' (first | exact hR | apply OKR.pI | apply OKR.pL | apply OKR.cpI | apply OKR.wI))  (And.intro (by repeat' (first | exact hR | apply OKR.pI | apply OKR.pL | apply OKR.cpI | apply OKR.wI)) ?_)
        refine And.intro trivial ?_
        exact h3 (fun z => qn (z k hk2))
      · first | exact absurd c36 (by decide) | exact absurd (by decide) c36 | (exfalso; grind)
termination_by r - k
decreasing_by all_goals omega

theorem l_X_year47 {d n : Nat} {D : SDt} {m : Mem} {K : Option Vv → Mem → Prop} {g : Nat → Nat} {a r : Nat} {b : Vv} (hS : SC n D m) (hn : 0 < n) (ha : a < 6) (hr : r ≤ 40) (q : gI m (0, 1, a) 1 = nI r) (hg : ∀ t, t < r → gI m (0, 2, a) t = nI (g t) ∧ g t < 2 ^ n) : ∀ (f k w : Nat) (x : Vv), k + f = r → w ≤ 60 → K (some (vi (nI (yrS n D g f k w).2))) (tellM m (nI (yrS n D g f k w).1)) → Go (cW (d + 4)) i_X_year (0, 0) K 47 [vo 0 0 0, b, vo 0 1 a, vi (nI w), vi (nI k), x] [] m 0 0 := by
  intro f k w x hkf hw h
  have hR := hS.ok
  have h8 := hS.le
  have bb2 := two_l n (by omega)
  have hl : r ≤ ln (0, 2, a) := by rw [show ln (0, 2, a) = 40 from if_pos ha]; exact hr
  refine Go.runR (callT_mono MT _) [47] 200 hR ?_
  refine And.intro (fun c50 => ?_) (fun c50 => ?_)
  · try dsimp only at c50
    have hk2 := lq_e c50 q rfl (by omega) (by omega)
    refine m_X_tell (by repeat' (first | exact hR | apply OKR.pI | apply OKR.pL | apply OKR.cpI | apply OKR.wI))  (And.intro (by repeat' (first | exact hR | apply OKR.pI | apply OKR.pL | apply OKR.cpI | apply OKR.wI)) ?_)
    refine And.intro trivial ?_
    rw [q]
    obtain rfl : f = 0 := by omega
    rw [show r = k by omega]
    exact h
  · try dsimp only at c50
    have hk2 := lq_m c50 q rfl (by omega) (by omega)
    have gk := (hg k hk2).2
    have r0 := rsL hS (g k)
    obtain ⟨f, rfl⟩ : ∃ e, f = e + 1 := ⟨f - 1, by omega⟩
    have i1 : nI w + nI (rs n D (g k)) ≤ 60 ↔ w + rs n D (g k) ≤ 60 := by rw [nI_add]; exact nI_leI (b := 60) (by omega) (by omega)
    refine And.intro ⟨(by first | decide | assumption | omega), (by first | decide | assumption | omega)⟩ ?_
    refine m_Ce_get1 (by repeat' (first | exact hR | apply OKR.pI | apply OKR.pL | apply OKR.cpI | apply OKR.wI)) (n := r) (j := k) (by omega) hl q hk2 (And.intro (by repeat' (first | exact hR | apply OKR.pI | apply OKR.pL | apply OKR.cpI | apply OKR.wI)) ?_)
    rw [(hg k hk2).1]
    refine m_St_ripplesOf (by exact hS) (s := g k) rfl (by omega) (And.intro (by repeat' (first | exact hR | apply OKR.pI | apply OKR.pL | apply OKR.cpI | apply OKR.wI)) ?_)
    refine And.intro (fun c62 => ?_) (fun c62 => ?_)
    · try dsimp only at c62
      have c62 := i1.mp c62
      refine And.intro ⟨(by first | decide | assumption | omega), (by first | decide | assumption | omega)⟩ ?_
      refine m_St_leaked (by exact hS) (x := w + rs n D (g k)) (nI_add _ _) (by omega) hn (And.intro (by repeat' (first | exact hR | apply OKR.pI | apply OKR.pL | apply OKR.cpI | apply OKR.wI)) ?_)
      rw [yrs1 n D g _ k w (by omega)] at h
      have := lkL D (w + rs n D (g k))
      exact go_eq (ls' := [vo 0 0 0, b, vo 0 1 a, vi (nI (lkN D (w + rs n D (g k)))), vi (nI (k + 1)), vi (nI w + nI (rs n D (g k)))]) (by rw [nI_succ]; rfl) rfl (l_X_year47 hS hn ha hr q hg f (k + 1) _ _ (by omega) (by omega) h)
    · try dsimp only at c62
      have c62 : 60 < w + rs n D (g k) := by have := mt i1.mpr c62; omega
      refine m_X_tell (by repeat' (first | exact hR | apply OKR.pI | apply OKR.pL | apply OKR.cpI | apply OKR.wI))  (And.intro (by repeat' (first | exact hR | apply OKR.pI | apply OKR.pL | apply OKR.cpI | apply OKR.wI)) ?_)
      refine And.intro trivial ?_
      rw [yrs0 n D g _ k w c62] at h
      exact h
termination_by f => f
decreasing_by all_goals omega

theorem l_M_year20 {d n : Nat} {D : SDt} {m : Mem} {K : Option Vv → Mem → Prop} {f : Nat → Int32} {a r : Nat} {b : Int32} (hS : SC n D m) (ha : a < 6) (hr : r ≤ 40) (q : gI m (1, 2, 0) a = nI r) (hf : ∀ t, t < r → gI m (1, 3, 0) (40 * a + t) = f t) (h3 : (¬ ∀ t, t < r → ∃ s, s < 2 ^ n ∧ f t = nI s) → K (some (vi (-3))) (meetM m 3)) (h : (∀ t, t < r → ∃ s, s < 2 ^ n ∧ f t = nI s) → Go (cW (d + 2)) i_M_year (0, 0) K 39 [vo 1 0 0, vi (nI a), vi b, vi (nI r), vu] [] m 0 0) (k : Nat) (hk : k ≤ r) (hg : ∀ t, t < k → ∃ s, s < 2 ^ n ∧ f t = nI s) : Go (cW (d + 2)) i_M_year (0, 0) K 20 [vo 1 0 0, vi (nI a), vi b, vi (nI k), vu] [] m 0 0 := by
  have hR := hS.ok
  have ea : (nI a).toNatClampNeg = a := nI_clamp (by omega)
  have qa : gI m (1, 2, 0) (nI a).toNatClampNeg = nI r := by rw [ea]; exact q
  refine Go.runR (callT_mono MT _) [20, 39] 200 hR ?_
  refine And.intro ⟨rfl, rfl, rfl⟩ ?_
  refine And.intro (by exact vp_nI (k := a) (N := 6) (by omega) (by decide)) ?_
  refine And.intro (fun c25 => ?_) (fun c25 => ?_)
  · try dsimp only at c25
    obtain rfl := lq_e c25 qa rfl hk (by omega)
    exact h hg
  · have hk2 := lq_m c25 qa rfl hk (by omega)
    rcases setCase (n := n) (f k) with ⟨s, hs, es⟩ | qn
    · refine m_M_rowAt (by repeat' (first | exact hR | apply OKR.pI | apply OKR.pL | apply OKR.cpI | apply OKR.wI)) ha (show k < 40 by omega) (And.intro (by repeat' (first | exact hR | apply OKR.pI | apply OKR.pL | apply OKR.cpI | apply OKR.wI)) ?_)
      rw [hf k hk2]
      refine m_M_isSet1 (by exact hS) es hs (And.intro (by repeat' (first | exact hR | apply OKR.pI | apply OKR.pL | apply OKR.cpI | apply OKR.wI)) ?_)
      refine And.intro (fun c32 => ?_) (fun c32 => ?_)
      · first | exact absurd c32 (by decide) | exact absurd (by decide) c32 | (exfalso; grind)
      · try dsimp only at c32
        refine go_eq (ls' := [vo 1 0 0, vi (nI a), vi b, vi (nI (k + 1)), vu]) (by rw [nI_succ]; rfl) rfl (l_M_year20 hS ha hr q hf h3 h (k + 1) hk2 (fun t ht => ?_))
        rcases Nat.lt_or_ge t k with z | z
        · exact hg t z
        · rw [show t = k by omega]
          exact ⟨s, hs, es⟩
    · refine m_M_rowAt (by repeat' (first | exact hR | apply OKR.pI | apply OKR.pL | apply OKR.cpI | apply OKR.wI)) ha (show k < 40 by omega) (And.intro (by repeat' (first | exact hR | apply OKR.pI | apply OKR.pL | apply OKR.cpI | apply OKR.wI)) ?_)
      rw [hf k hk2]
      refine m_M_isSet0 (by exact hS) qn (And.intro (by repeat' (first | exact hR | apply OKR.pI | apply OKR.pL | apply OKR.cpI | apply OKR.wI)) ?_)
      refine And.intro (fun c32 => ?_) (fun c32 => ?_)
      · try dsimp only at c32
        refine m_M_meet3 (by repeat' (first | exact hR | apply OKR.pI | apply OKR.pL | apply OKR.cpI | apply OKR.wI))  (And.intro (by repeat' (first | exact hR | apply OKR.pI | apply OKR.pL | apply OKR.cpI | apply OKR.wI)) ?_)
        refine And.intro trivial ?_
        exact h3 (fun z => qn (z k hk2))
      · first | exact absurd c32 (by decide) | exact absurd (by decide) c32 | (exfalso; grind)
termination_by r - k
decreasing_by all_goals omega

theorem l_M_year43 {d n : Nat} {D : SDt} {m : Mem} {K : Option Vv → Mem → Prop} {g : Nat → Nat} {a r : Nat} {b : Int32} (hS : SC n D m) (hn : 0 < n) (ha : a < 6) (hr : r ≤ 40) (q : gI m (1, 2, 0) a = nI r) (hg : ∀ t, t < r → gI m (1, 3, 0) (40 * a + t) = nI (g t) ∧ g t < 2 ^ n) : ∀ (f k w : Nat), k + f = r → w ≤ 60 → K (some (vi (nI (yrS n D g f k w).2))) (askM m (nI (yrS n D g f k w).1)) → Go (cW (d + 4)) i_M_year (0, 0) K 43 [vo 1 0 0, vi (nI a), vi b, vi (nI w), vi (nI k)] [] m 0 0 := by
  intro f k w hkf hw h
  have hR := hS.ok
  have h8 := hS.le
  have bb2 := two_l n (by omega)
  have ea : (nI a).toNatClampNeg = a := nI_clamp (by omega)
  have qa : gI m (1, 2, 0) (nI a).toNatClampNeg = nI r := by rw [ea]; exact q
  have lk := (hS.al hn)
  refine Go.runR (callT_mono MT _) [43] 200 hR ?_
  refine And.intro ⟨rfl, rfl, rfl⟩ ?_
  refine And.intro (by exact vp_nI (k := a) (N := 6) (by omega) (by decide)) ?_
  refine And.intro (fun c48 => ?_) (fun c48 => ?_)
  · try dsimp only at c48
    have hk2 := lq_e c48 qa rfl (by omega) (by omega)
    refine m_M_ask (by repeat' (first | exact hR | apply OKR.pI | apply OKR.pL | apply OKR.cpI | apply OKR.wI))  (And.intro (by repeat' (first | exact hR | apply OKR.pI | apply OKR.pL | apply OKR.cpI | apply OKR.wI)) ?_)
    refine And.intro trivial ?_
    first
    | (obtain rfl : f = 0 := by omega
       exact h)
    | (rw [yrs0 n D g _ k w c58] at h
       exact h)
  · try dsimp only at c48
    have hk2 := lq_m c48 qa rfl (by omega) (by omega)
    have gk := (hg k hk2).2
    have r0 := rsL hS (g k)
    obtain ⟨f, rfl⟩ : ∃ e, f = e + 1 := ⟨f - 1, by omega⟩
    have i1 : (60 : Int32) < nI w + nI (rs n D (g k)) ↔ 60 < w + rs n D (g k) := by rw [nI_add]; exact nI_ltI (a := 60) (by omega) (by omega)
    have i2 : gI m (1, 0, 0) 12 ≤ nI w + nI (rs n D (g k)) ↔ dE D ≤ w + rs n D (g k) := by rw [lk.2.2.2.2.2, nI_add]; exact nI_leI (by have := lk.2.1; omega) (by omega)
    have key : ∀ x, x = nI (lkN D (w + rs n D (g k))) → ¬ 60 < w + rs n D (g k) → Go (cW (d + 4)) i_M_year (0, 0) K 43 [vo 1 0 0, vi (nI a), vi b, vi x, vi (nI k + 1)] [] m 0 0 := fun x z y => by
      rw [yrs1 n D g _ k w y] at h
      have := lkL D (w + rs n D (g k))
      exact go_eq (by rw [z, ← nI_succ]) rfl (l_M_year43 hS hn ha hr q hg f (k + 1) _ (by omega) (by omega) h)
    unfold lkN at key
    refine m_M_rowAt (by repeat' (first | exact hR | apply OKR.pI | apply OKR.pL | apply OKR.cpI | apply OKR.wI)) ha (show k < 40 by omega) (And.intro (by repeat' (first | exact hR | apply OKR.pI | apply OKR.pL | apply OKR.cpI | apply OKR.wI)) ?_)
    rw [(hg k hk2).1]
    refine m_M_ripples (by exact hS) (s := g k) rfl (by omega) (And.intro (by repeat' (first | exact hR | apply OKR.pI | apply OKR.pL | apply OKR.cpI | apply OKR.wI)) ?_)
    refine And.intro (fun c58 => ?_) (fun c58 => ?_)
    · try dsimp only at c58
      have c58 := i1.mp c58
      refine m_M_ask (by repeat' (first | exact hR | apply OKR.pI | apply OKR.pL | apply OKR.cpI | apply OKR.wI))  (And.intro (by repeat' (first | exact hR | apply OKR.pI | apply OKR.pL | apply OKR.cpI | apply OKR.wI)) ?_)
      refine And.intro trivial ?_
      first
      | (obtain rfl : f = 0 := by omega
         exact h)
      | (rw [yrs0 n D g _ k w c58] at h
         exact h)
    · try dsimp only at c58
      have c58 := mt i1.mpr c58
      refine m_M_rowAt (by repeat' (first | exact hR | apply OKR.pI | apply OKR.pL | apply OKR.cpI | apply OKR.wI)) ha (show k < 40 by omega) (And.intro (by repeat' (first | exact hR | apply OKR.pI | apply OKR.pL | apply OKR.cpI | apply OKR.wI)) ?_)
      rw [(hg k hk2).1]
      refine m_M_ripples (by exact hS) (s := g k) rfl (by omega) (And.intro (by repeat' (first | exact hR | apply OKR.pI | apply OKR.pL | apply OKR.cpI | apply OKR.wI)) ?_)
      refine And.intro (fun c72 => ?_) (fun c72 => ?_)
      · try dsimp only at c72
        have c72 := i2.mp c72
        rw [if_neg (by omega : ¬ w + rs n D (g k) < dE D)] at key
        first
        | exact key _ (by
            show nI w + nI (rs n D (g k)) - gI m (1, 0, 0) 12 = _
            rw [lk.2.2.2.2.2, nI_add, pk_sub (by omega)]) c58
        | exact key _ (Int32.sub_self _) c58
      · try dsimp only at c72
        have c72 := mt i2.mpr c72
        rw [if_pos (by omega : w + rs n D (g k) < dE D)] at key
        first
        | exact key _ (by
            show nI w + nI (rs n D (g k)) - gI m (1, 0, 0) 12 = _
            rw [lk.2.2.2.2.2, nI_add, pk_sub (by omega)]) c58
        | exact key _ (Int32.sub_self _) c58
termination_by f => f
decreasing_by all_goals omega

theorem p_year {d : Nat} {m : Mem} {K : Option Vv → Option Vv → Mem → Prop} (R : RelAB m) {r0 : Int32} (h : ∀ v m', RelAB m' → K v v m') : cW (d + 7) n_X_year [vo 0 0 0, vi r0] m (fun u m1 => cW (d + 7) n_M_year [vo 1 0 0, vi r0] m1 (fun w m2 => K u w m2)) := by
  have hR := R.1
  obtain ⟨n, hc⟩ := R.2.2.2.2
  obtain ⟨D, hS⟩ := hc.sc hR
  have ht := R.2.2.2.1
  obtain ⟨q1, q2⟩ := hc.many
  have h8 := hc.le
  rcases R.rowCase r0 with q | ⟨a, ha, rfl, s1, s2⟩ | ⟨a, r, ha, rfl, hr, s1, s2, s3⟩
  · refine w_X_year (Go.runR (callT_mono MT _) [26, 47] 200 (by repeat' (first | exact hR | exact g1.ok | exact g2.ok | exact g3.ok | apply OKR.pI | apply OKR.pL | apply OKR.cpI | apply OKR.wI)) ?_)
    refine m_X_isRow0 (by repeat' (first | exact hR | exact g1.ok | exact g2.ok | exact g3.ok | apply OKR.pI | apply OKR.pL | apply OKR.cpI | apply OKR.wI)) q (And.intro (by repeat' (first | exact hR | exact g1.ok | exact g2.ok | exact g3.ok | apply OKR.pI | apply OKR.pL | apply OKR.cpI | apply OKR.wI)) ?_)
    refine And.intro (fun c3 => ?_) (fun c3 => ?_)
    · try dsimp only at c3
      refine And.intro trivial ?_
      refine w_M_year (Go.runR (callT_mono MT _) [20] 200 (by repeat' (first | exact hR | exact g1.ok | exact g2.ok | exact g3.ok | apply OKR.pI | apply OKR.pL | apply OKR.cpI | apply OKR.wI)) ?_)
      refine m_M_isRow0 (by repeat' (first | exact hR | exact g1.ok | exact g2.ok | exact g3.ok | apply OKR.pI | apply OKR.pL | apply OKR.cpI | apply OKR.wI)) q (And.intro (by repeat' (first | exact hR | exact g1.ok | exact g2.ok | exact g3.ok | apply OKR.pI | apply OKR.pL | apply OKR.cpI | apply OKR.wI)) ?_)
      refine And.intro (fun c2 => ?_) (fun c2 => ?_)
      · try dsimp only at c2
        refine And.intro trivial ?_
        exact h _ _ R
      · first | exact absurd c2 (by decide) | exact absurd (by decide) c2 | (exfalso; grind)
    · first | exact absurd c3 (by decide) | exact absurd (by decide) c3 | (exfalso; grind)
  · have e0 : (nI a).toNatClampNeg = a := nI_clamp (by omega)
    rcases Nat.eq_zero_or_pos n with y | y
    · subst y
      refine w_X_year (Go.runR (callT_mono MT _) [26, 47] 200 (by repeat' (first | exact hR | exact g1.ok | exact g2.ok | exact g3.ok | apply OKR.pI | apply OKR.pL | apply OKR.cpI | apply OKR.wI)) ?_)
      refine m_X_isRow1 (by repeat' (first | exact hR | exact g1.ok | exact g2.ok | exact g3.ok | apply OKR.pI | apply OKR.pL | apply OKR.cpI | apply OKR.wI)) ha (And.intro (by repeat' (first | exact hR | exact g1.ok | exact g2.ok | exact g3.ok | apply OKR.pI | apply OKR.pL | apply OKR.cpI | apply OKR.wI)) ?_)
      refine And.intro (fun c3 => ?_) (fun c3 => ?_)
      · first | exact absurd c3 (by decide) | exact absurd (by decide) c3 | (exfalso; grind)
      · try dsimp only at c3
        refine And.intro ⟨(by first | decide | assumption | omega), (by first | decide | assumption | omega)⟩ ?_
        refine And.intro (fun c9 => ?_) (fun c9 => ?_)
        · try dsimp only at c9
          refine And.intro trivial ?_
          refine w_M_year (Go.runR (callT_mono MT _) [20] 200 (by repeat' (first | exact hR | exact g1.ok | exact g2.ok | exact g3.ok | apply OKR.pI | apply OKR.pL | apply OKR.cpI | apply OKR.wI)) ?_)
          refine m_M_isRow1 (by repeat' (first | exact hR | exact g1.ok | exact g2.ok | exact g3.ok | apply OKR.pI | apply OKR.pL | apply OKR.cpI | apply OKR.wI)) ha (And.intro (by repeat' (first | exact hR | exact g1.ok | exact g2.ok | exact g3.ok | apply OKR.pI | apply OKR.pL | apply OKR.cpI | apply OKR.wI)) ?_)
          refine And.intro (fun c2 => ?_) (fun c2 => ?_)
          · first | exact absurd c2 (by decide) | exact absurd (by decide) c2 | (exfalso; grind)
          · try dsimp only at c2
            refine And.intro (fun c7 => ?_) (fun c7 => ?_)
            · try dsimp only at c7
              refine And.intro trivial ?_
              exact h _ _ R
            · exact absurd q2 c7
        · exact absurd q1 c9
    · refine w_X_year (Go.runR (callT_mono MT _) [26, 47] 200 (by repeat' (first | exact hR | exact g1.ok | exact g2.ok | exact g3.ok | apply OKR.pI | apply OKR.pL | apply OKR.cpI | apply OKR.wI)) ?_)
      refine m_X_isRow1 (by repeat' (first | exact hR | exact g1.ok | exact g2.ok | exact g3.ok | apply OKR.pI | apply OKR.pL | apply OKR.cpI | apply OKR.wI)) ha (And.intro (by repeat' (first | exact hR | exact g1.ok | exact g2.ok | exact g3.ok | apply OKR.pI | apply OKR.pL | apply OKR.cpI | apply OKR.wI)) ?_)
      refine And.intro (fun c3 => ?_) (fun c3 => ?_)
      · first | exact absurd c3 (by decide) | exact absurd (by decide) c3 | (exfalso; grind)
      · try dsimp only at c3
        refine And.intro ⟨(by first | decide | assumption | omega), (by first | decide | assumption | omega)⟩ ?_
        refine And.intro (fun c9 => ?_) (fun c9 => ?_)
        · exact absurd (q1.symm.trans c9) (sz0 y (by omega))
        · try dsimp only at c9
          refine And.intro ⟨(by first | decide | assumption | omega), (by first | decide | assumption | omega)⟩ ?_
          refine And.intro ⟨(vp_nI (N := 6) ha (by decide)), ⟨rfl, by rw [e0]; exact ha⟩⟩ ?_
          rw [show (nI a).toNatClampNeg = a from e0]
          refine m_Ce_isMissing1 (by repeat' (first | exact hR | exact g1.ok | exact g2.ok | exact g3.ok | apply OKR.pI | apply OKR.pL | apply OKR.cpI | apply OKR.wI)) s1 (And.intro (by repeat' (first | exact hR | exact g1.ok | exact g2.ok | exact g3.ok | apply OKR.pI | apply OKR.pL | apply OKR.cpI | apply OKR.wI)) ?_)
          refine And.intro (fun c19 => ?_) (fun c19 => ?_)
          · first | exact absurd c19 (by decide) | exact absurd (by decide) c19 | (exfalso; grind)
          · try dsimp only at c19
            refine m_X_found1 (by repeat' (first | exact hR | exact g1.ok | exact g2.ok | exact g3.ok | apply OKR.pI | apply OKR.pL | apply OKR.cpI | apply OKR.wI))  (And.intro (by repeat' (first | exact hR | exact g1.ok | exact g2.ok | exact g3.ok | apply OKR.pI | apply OKR.pL | apply OKR.cpI | apply OKR.wI)) ?_)
            refine And.intro trivial ?_
            refine w_M_year (Go.runR (callT_mono MT _) [20] 200 (by repeat' (first | exact hR | exact g1.ok | exact g2.ok | exact g3.ok | apply OKR.pI | apply OKR.pL | apply OKR.cpI | apply OKR.wI)) ?_)
            refine m_M_isRow1 (by repeat' (first | exact hR | exact g1.ok | exact g2.ok | exact g3.ok | apply OKR.pI | apply OKR.pL | apply OKR.cpI | apply OKR.wI)) ha (And.intro (by repeat' (first | exact hR | exact g1.ok | exact g2.ok | exact g3.ok | apply OKR.pI | apply OKR.pL | apply OKR.cpI | apply OKR.wI)) ?_)
            refine And.intro (fun c2 => ?_) (fun c2 => ?_)
            · first | exact absurd c2 (by decide) | exact absurd (by decide) c2 | (exfalso; grind)
            · try dsimp only at c2
              refine And.intro (fun c7 => ?_) (fun c7 => ?_)
              · exact absurd (q2.symm.trans c7) (sz0 y (by omega))
              · try dsimp only at c7
                refine m_M_askedRow1 (by repeat' (first | exact hR | exact g1.ok | exact g2.ok | exact g3.ok | apply OKR.pI | apply OKR.pL | apply OKR.cpI | apply OKR.wI)) ha (by exact s2) (And.intro (by repeat' (first | exact hR | exact g1.ok | exact g2.ok | exact g3.ok | apply OKR.pI | apply OKR.pL | apply OKR.cpI | apply OKR.wI)) ?_)
                refine And.intro (fun c15 => ?_) (fun c15 => ?_)
                · first | exact absurd c15 (by decide) | exact absurd (by decide) c15 | (exfalso; grind)
                · try dsimp only at c15
                  refine And.intro trivial ?_
                  exact h _ _ (R.meet (by omega) (by omega))
  · have e0 : (nI a).toNatClampNeg = a := nI_clamp (by omega)
    rcases Nat.eq_zero_or_pos n with y | y
    · subst y
      refine w_X_year (Go.runR (callT_mono MT _) [26, 47] 200 (by repeat' (first | exact hR | exact g1.ok | exact g2.ok | exact g3.ok | apply OKR.pI | apply OKR.pL | apply OKR.cpI | apply OKR.wI)) ?_)
      refine m_X_isRow1 (by repeat' (first | exact hR | exact g1.ok | exact g2.ok | exact g3.ok | apply OKR.pI | apply OKR.pL | apply OKR.cpI | apply OKR.wI)) ha (And.intro (by repeat' (first | exact hR | exact g1.ok | exact g2.ok | exact g3.ok | apply OKR.pI | apply OKR.pL | apply OKR.cpI | apply OKR.wI)) ?_)
      refine And.intro (fun c3 => ?_) (fun c3 => ?_)
      · first | exact absurd c3 (by decide) | exact absurd (by decide) c3 | (exfalso; grind)
      · try dsimp only at c3
        refine And.intro ⟨(by first | decide | assumption | omega), (by first | decide | assumption | omega)⟩ ?_
        refine And.intro (fun c9 => ?_) (fun c9 => ?_)
        · try dsimp only at c9
          refine And.intro trivial ?_
          refine w_M_year (Go.runR (callT_mono MT _) [20] 200 (by repeat' (first | exact hR | exact g1.ok | exact g2.ok | exact g3.ok | apply OKR.pI | apply OKR.pL | apply OKR.cpI | apply OKR.wI)) ?_)
          refine m_M_isRow1 (by repeat' (first | exact hR | exact g1.ok | exact g2.ok | exact g3.ok | apply OKR.pI | apply OKR.pL | apply OKR.cpI | apply OKR.wI)) ha (And.intro (by repeat' (first | exact hR | exact g1.ok | exact g2.ok | exact g3.ok | apply OKR.pI | apply OKR.pL | apply OKR.cpI | apply OKR.wI)) ?_)
          refine And.intro (fun c2 => ?_) (fun c2 => ?_)
          · first | exact absurd c2 (by decide) | exact absurd (by decide) c2 | (exfalso; grind)
          · try dsimp only at c2
            refine And.intro (fun c7 => ?_) (fun c7 => ?_)
            · try dsimp only at c7
              refine And.intro trivial ?_
              exact h _ _ R
            · exact absurd q2 c7
        · exact absurd q1 c9
    · obtain ⟨f, hf⟩ : ∃ f : Nat → Int32, f = gI m (0, 2, a) := ⟨_, rfl⟩
      refine w_X_year (Go.runR (callT_mono MT _) [26, 47] 200 (by repeat' (first | exact hR | exact g1.ok | exact g2.ok | exact g3.ok | apply OKR.pI | apply OKR.pL | apply OKR.cpI | apply OKR.wI)) ?_)
      refine m_X_isRow1 (by repeat' (first | exact hR | exact g1.ok | exact g2.ok | exact g3.ok | apply OKR.pI | apply OKR.pL | apply OKR.cpI | apply OKR.wI)) ha (And.intro (by repeat' (first | exact hR | exact g1.ok | exact g2.ok | exact g3.ok | apply OKR.pI | apply OKR.pL | apply OKR.cpI | apply OKR.wI)) ?_)
      refine And.intro (fun c3 => ?_) (fun c3 => ?_)
      · first | exact absurd c3 (by decide) | exact absurd (by decide) c3 | (exfalso; grind)
      · try dsimp only at c3
        refine And.intro ⟨(by first | decide | assumption | omega), (by first | decide | assumption | omega)⟩ ?_
        refine And.intro (fun c9 => ?_) (fun c9 => ?_)
        · exact absurd (q1.symm.trans c9) (sz0 y (by omega))
        · try dsimp only at c9
          refine And.intro ⟨(by first | decide | assumption | omega), (by first | decide | assumption | omega)⟩ ?_
          refine And.intro ⟨(vp_nI (N := 6) ha (by decide)), ⟨rfl, by rw [e0]; exact ha⟩⟩ ?_
          rw [show (nI a).toNatClampNeg = a from e0]
          refine m_Ce_isMissing0 (by repeat' (first | exact hR | exact g1.ok | exact g2.ok | exact g3.ok | apply OKR.pI | apply OKR.pL | apply OKR.cpI | apply OKR.wI)) (n := r) (by omega) s1 (And.intro (by repeat' (first | exact hR | exact g1.ok | exact g2.ok | exact g3.ok | apply OKR.pI | apply OKR.pL | apply OKR.cpI | apply OKR.wI)) ?_)
          refine And.intro (fun c19 => ?_) (fun c19 => ?_)
          · try dsimp only at c19
            refine go_eq (ls' := [vo 0 0 0, vi (nI a), vo 0 1 a, vi (nI 0), vu, vu]) rfl rfl (l_X_year26 (f := f) (r := r) hS ha hr s1 (fun t _ => by rw [hf]) (fun nz => ?_) (fun az => ?_) 0 (Nat.zero_le _) (fun t ht => absurd ht (by omega)))
            · refine w_M_year (Go.runR (callT_mono MT _) [20] 200 (by repeat' (first | exact hR | exact g1.ok | exact g2.ok | exact g3.ok | apply OKR.pI | apply OKR.pL | apply OKR.cpI | apply OKR.wI)) ?_)
              refine m_M_isRow1 (by repeat' (first | exact hR | exact g1.ok | exact g2.ok | exact g3.ok | apply OKR.pI | apply OKR.pL | apply OKR.cpI | apply OKR.wI)) ha (And.intro (by repeat' (first | exact hR | exact g1.ok | exact g2.ok | exact g3.ok | apply OKR.pI | apply OKR.pL | apply OKR.cpI | apply OKR.wI)) ?_)
              refine And.intro (fun c2 => ?_) (fun c2 => ?_)
              · first | exact absurd c2 (by decide) | exact absurd (by decide) c2 | (exfalso; grind)
              · try dsimp only at c2
                refine And.intro (fun c7 => ?_) (fun c7 => ?_)
                · exact absurd (q2.symm.trans c7) (sz0 y (by omega))
                · try dsimp only at c7
                  refine m_M_askedRow2 (by repeat' (first | exact hR | exact g1.ok | exact g2.ok | exact g3.ok | apply OKR.pI | apply OKR.pL | apply OKR.cpI | apply OKR.wI)) (n := r) ha (by omega) (by exact s2) (And.intro (by repeat' (first | exact hR | exact g1.ok | exact g2.ok | exact g3.ok | apply OKR.pI | apply OKR.pL | apply OKR.cpI | apply OKR.wI)) ?_)
                  refine And.intro (fun c15 => ?_) (fun c15 => ?_)
                  · try dsimp only at c15
                    refine go_eq (ls' := [vo 1 0 0, vi (nI a), vi 0, vi (nI 0), vu]) rfl rfl (l_M_year20 (f := f) (by exact hS.found) ha hr (by exact s2) (fun t ht => ?_) (fun z => h _ _ (R.meet (by omega) (by omega))) (fun z => absurd z nz) 0 (Nat.zero_le _) (fun t ht => absurd ht (by omega)))
                    rw [show gI (foundM m 3) (1, 3, 0) (40 * a + t) = gI m (1, 3, 0) (40 * a + t) from rfl, hf]
                    exact (s3 t ht).symm
                  · first | exact absurd c15 (by decide) | exact absurd (by decide) c15 | (exfalso; grind)
            · have gg : ∀ t, t < r → f t = nI (f t).toNatClampNeg ∧ (f t).toNatClampNeg < 2 ^ n := fun t ht => by
                obtain ⟨s, hs, es⟩ := az t ht
                have := two_l n (by omega)
                rw [es, nI_clamp (by omega)]
                exact ⟨rfl, hs⟩
              refine Go.runR (callT_mono MT _) [47] 200 hR ?_
              refine go_eq (ls' := [vo 0 0 0, vi (nI a), vo 0 1 a, vi (nI 0), vi (nI 0), vu]) rfl rfl (l_X_year47 (g := fun t => (f t).toNatClampNeg) hS y ha hr s1 (fun t ht => ⟨by rw [← hf]; exact (gg t ht).1, (gg t ht).2⟩) r 0 0 vu (by omega) (by omega) ?_)
              refine w_M_year (Go.runR (callT_mono MT _) [20] 200 (by repeat' (first | exact hR | exact g1.ok | exact g2.ok | exact g3.ok | apply OKR.pI | apply OKR.pL | apply OKR.cpI | apply OKR.wI)) ?_)
              refine m_M_isRow1 (by repeat' (first | exact hR | exact g1.ok | exact g2.ok | exact g3.ok | apply OKR.pI | apply OKR.pL | apply OKR.cpI | apply OKR.wI)) ha (And.intro (by repeat' (first | exact hR | exact g1.ok | exact g2.ok | exact g3.ok | apply OKR.pI | apply OKR.pL | apply OKR.cpI | apply OKR.wI)) ?_)
              refine And.intro (fun c2 => ?_) (fun c2 => ?_)
              · first | exact absurd c2 (by decide) | exact absurd (by decide) c2 | (exfalso; grind)
              · try dsimp only at c2
                refine And.intro (fun c7 => ?_) (fun c7 => ?_)
                · exact absurd (q2.symm.trans c7) (sz0 y (by omega))
                · try dsimp only at c7
                  refine m_M_askedRow2 (by repeat' (first | exact hR | exact g1.ok | exact g2.ok | exact g3.ok | apply OKR.pI | apply OKR.pL | apply OKR.cpI | apply OKR.wI)) (n := r) ha (by omega) (by exact s2) (And.intro (by repeat' (first | exact hR | exact g1.ok | exact g2.ok | exact g3.ok | apply OKR.pI | apply OKR.pL | apply OKR.cpI | apply OKR.wI)) ?_)
                  refine And.intro (fun c15 => ?_) (fun c15 => ?_)
                  · try dsimp only at c15
                    refine go_eq (ls' := [vo 1 0 0, vi (nI a), vi 0, vi (nI 0), vu]) rfl rfl (l_M_year20 (f := f) (by exact hS.tell) ha hr (by exact s2) (fun t ht => ?_) (fun z => absurd az z) (fun z => by
                      refine Go.runR (callT_mono MT _) [43] 200 hR.pI ?_
                      exact go_eq (ls' := [vo 1 0 0, vi (nI a), vi 0, vi (nI 0), vi (nI 0)]) rfl rfl (l_M_year43 (D := D) (m := tellM m (nI (yrS n D (fun t => (f t).toNatClampNeg) r 0 0).1)) (g := fun t => (f t).toNatClampNeg) hS.tell y ha hr (by exact s2) (fun t ht => ⟨((s3 t ht).symm.trans (by rw [hf])).trans (gg t ht).1, (gg t ht).2⟩) r 0 0 (by omega) (by omega) (h _ _ (R.tell _)))) 0 (Nat.zero_le _) (fun t ht => absurd ht (by omega)))
                    rw [show gI (tellM m _) (1, 3, 0) (40 * a + t) = gI m (1, 3, 0) (40 * a + t) from rfl, hf]
                    exact (s3 t ht).symm
                  · first | exact absurd c15 (by decide) | exact absurd (by decide) c15 | (exfalso; grind)
          · first | exact absurd c19 (by decide) | exact absurd (by decide) c19 | (exfalso; grind)
