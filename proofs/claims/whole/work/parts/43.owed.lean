/-! Written by a program (wip/whole/p43.py): who owes, who is exempt, tithes, on both sides. -/
theorem itrL {f : Nat → Nat → Nat} {M : Nat} : ∀ {n : Nat}, (∀ k x, k < n → f k x ≤ x + M) → itr f 0 n ≤ M * n
  | 0, _ => Nat.le_refl _
  | n + 1, h => by
    have a := itrL (n := n) fun k x hk => h k x (by omega)
    have b := h n (itr f 0 n) (by omega)
    rw [itS, Nat.mul_succ]
    omega
theorem owL {n : Nat} {D : SDt} {m : Mem} (hS : SC n D m) {i : Nat} (hi : i < n) : ow n D i ≤ 99 * 8 := by
  have a : ow n D i ≤ 99 * n := itrL fun k x hk => by have := (hS.db hi hk).1; omega
  have := hS.le
  omega
theorem innL {n : Nat} {D : SDt} {m : Mem} (hS : SC n D m) {i : Nat} (hi : i < n) : inn n D i ≤ 99 * 8 := by
  have a : inn n D i ≤ 99 * n := itrL fun k x hk => by have := (hS.db hk hi).1; omega
  have := hS.le
  omega
theorem pk8 (a b : Nat) : (8 : Int32) * nI a + nI b = nI (8 * a + b) := by rw [show (8 : Int32) = nI 8 from rfl, pk_mul, nI_add]

theorem l_St_owedBy {d n : Nat} {D : SDt} {m : Mem} {K : Option Vv → Mem → Prop} (hS : SC n D m) {i : Nat} (hi : i < n) (h : K (some (vi (nI (ow n D i)))) m) (k : Nat) (hk : k ≤ n) : Go (cW (d + 1)) i_St_owedBy (0, 0) K 4 [vo 0 5 0, vi (nI i), vi (nI (ow k D i)), vi (nI k)] [] m 0 0 := by
  have hR := hS.ok
  have h8 := hS.le
  have q1 := hS.nA
  have q2 := hS.nB
  have e0 : (nI i).toNatClampNeg = i := nI_clamp (by omega)
  refine Go.runR (callT_mono MT _) [4] 200 hR ?_
  refine And.intro (fun c7 => ?_) (fun c7 => ?_)
  · try dsimp only at c7
    obtain rfl := lq_e c7 q1 rfl hk (by omega)
    refine And.intro trivial ?_
    exact h
  · try dsimp only at c7
    have hk2 := lq_m c7 q1 rfl hk (by omega)
    refine m_St_hasHouse1 (by repeat' (first | exact hR | apply OKR.pI | apply OKR.pL | apply OKR.cpI | apply OKR.wI)) q1 h8 hi (And.intro (by repeat' (first | exact hR | apply OKR.pI | apply OKR.pL | apply OKR.cpI | apply OKR.wI)) ?_)
    refine And.intro (fun c11 => ?_) (fun c11 => ?_)
    · first | exact absurd c11 (by decide) | exact absurd (by decide) c11 | (exfalso; grind)
    · try dsimp only at c11
      refine And.intro ⟨(by first | decide | assumption | omega), (by first | decide | assumption | omega)⟩ ?_
      refine And.intro ⟨(vp_nI (k := i) (N := 8) (by omega) (by decide)), ⟨(by decide), by rw [e0]; omega⟩⟩ ?_
      refine And.intro (vp_nI (k := k) (N := 8) (by omega) (by decide)) ?_
      refine go_eq (ls' := [vo 0 5 0, vi (nI i), vi (nI (ow (k + 1) D i)), vi (nI (k + 1))]) (by
      have q := (hS.db hi hk2).2.1
      have e3 : (nI k).toNatClampNeg = k := nI_clamp (by omega)
      have e4 : 8 * 0 + (nI i).toNatClampNeg = i := by rw [e0]; omega
      rw [nI_succ]
      show [vo 0 5 0, vi (nI i), vi (nI (ow k D i) + gI m (0, 13, 8 * 0 + (nI i).toNatClampNeg) (nI k).toNatClampNeg), vi (nI k + 1)] = _
      rw [e4, e3, q, nI_add]
      rfl) rfl (l_St_owedBy hS hi h (k + 1) hk2)
termination_by n - k
decreasing_by all_goals omega

theorem m_St_owedBy {d n : Nat} {D : SDt} {m : Mem} {K : Option Vv → Mem → Prop} (hS : SC n D m) {v : Int32} {i : Nat} (hv : v = nI i) (hi : i < n) (h : K (some (vi (nI (ow n D i)))) m) : cW (d + 2) n_St_owedBy [vo 0 5 0, vi v] m K := by
  have hR := hS.ok
  have h8 := hS.le
  have q1 := hS.nA
  have q2 := hS.nB
  subst hv
  refine w_St_owedBy (Go.runR (callT_mono MT _) [4] 200 hR ?_)
  exact l_St_owedBy hS hi h 0 (by omega)

theorem l_M_owes {d n : Nat} {D : SDt} {m : Mem} {K : Option Vv → Mem → Prop} (hS : SC n D m) {i : Nat} (hi : i < n) (h : K (some (vi (nI (ow n D i)))) m) (k : Nat) (hk : k ≤ n) : Go (cW (d + 0)) i_M_owes (0, 0) K 4 [vo 1 0 0, vi (nI i), vi (nI (ow k D i)), vi (nI k)] [] m 0 0 := by
  have hR := hS.ok
  have h8 := hS.le
  have q1 := hS.nA
  have q2 := hS.nB
  refine Go.runR (callT_mono MT _) [4] 200 hR ?_
  refine And.intro (fun c7 => ?_) (fun c7 => ?_)
  · try dsimp only at c7
    obtain rfl := lq_e c7 q2 rfl hk (by omega)
    refine And.intro trivial ?_
    exact h
  · try dsimp only at c7
    have hk2 := lq_m c7 q2 rfl hk (by omega)
    refine And.intro ⟨rfl, rfl, rfl⟩ ?_
    refine And.intro (by dsimp only; rw [pk8]; exact vp_nI (N := 64) (by omega) (by decide)) ?_
    refine go_eq (ls' := [vo 1 0 0, vi (nI i), vi (nI (ow (k + 1) D i)), vi (nI (k + 1))]) (by
    have q := (hS.db hi hk2).2.2
    rw [nI_succ]
    show [vo 1 0 0, vi (nI i), vi (nI (ow k D i) + gI m (1, 18, 0) (8 * nI i + nI k).toNatClampNeg), vi (nI k + 1)] = _
    rw [pk8, nI_clamp (by omega), q, nI_add]
    rfl) rfl (l_M_owes hS hi h (k + 1) hk2)
termination_by n - k
decreasing_by all_goals omega

theorem m_M_owes {d n : Nat} {D : SDt} {m : Mem} {K : Option Vv → Mem → Prop} (hS : SC n D m) {v : Int32} {i : Nat} (hv : v = nI i) (hi : i < n) (h : K (some (vi (nI (ow n D i)))) m) : cW (d + 1) n_M_owes [vo 1 0 0, vi v] m K := by
  have hR := hS.ok
  have h8 := hS.le
  have q1 := hS.nA
  have q2 := hS.nB
  subst hv
  refine w_M_owes (Go.runR (callT_mono MT _) [4] 200 hR ?_)
  exact l_M_owes hS hi h 0 (by omega)

theorem l_St_balanceOf {d n : Nat} {D : SDt} {m : Mem} {K : Option Vv → Mem → Prop} (hS : SC n D m) {i : Nat} (hi : i < n) (h : K (some (vi (bl n D i))) m) (k : Nat) (hk : k ≤ n) : Go (cW (d + 2)) i_St_balanceOf (0, 0) K 4 [vo 0 5 0, vi (nI i), vi (nI (inn k D i)), vi (nI k)] [] m 0 0 := by
  have hR := hS.ok
  have h8 := hS.le
  have q1 := hS.nA
  have q2 := hS.nB
  have e0 : (nI i).toNatClampNeg = i := nI_clamp (by omega)
  refine Go.runR (callT_mono MT _) [4] 200 hR ?_
  refine And.intro (fun c7 => ?_) (fun c7 => ?_)
  · try dsimp only at c7
    obtain rfl := lq_e c7 q1 rfl hk (by omega)
    refine m_St_owedBy (by exact hS) rfl hi (And.intro (by repeat' (first | exact hR | apply OKR.pI | apply OKR.pL | apply OKR.cpI | apply OKR.wI)) ?_)
    refine And.intro trivial ?_
    exact h
  · try dsimp only at c7
    have hk2 := lq_m c7 q1 rfl hk (by omega)
    refine m_St_hasHouse1 (by repeat' (first | exact hR | apply OKR.pI | apply OKR.pL | apply OKR.cpI | apply OKR.wI)) q1 h8 hi (And.intro (by repeat' (first | exact hR | apply OKR.pI | apply OKR.pL | apply OKR.cpI | apply OKR.wI)) ?_)
    refine And.intro (fun c11 => ?_) (fun c11 => ?_)
    · first | exact absurd c11 (by decide) | exact absurd (by decide) c11 | (exfalso; grind)
    · try dsimp only at c11
      refine And.intro ⟨(by first | decide | assumption | omega), (by first | decide | assumption | omega)⟩ ?_
      refine And.intro ⟨vp_nI (k := k) (N := 8) (by omega) (by decide), ⟨(by decide), by rw [nI_clamp (by omega)]; omega⟩⟩ ?_
      refine And.intro (vp_nI (k := i) (N := 8) (by omega) (by decide)) ?_
      refine go_eq (ls' := [vo 0 5 0, vi (nI i), vi (nI (inn (k + 1) D i)), vi (nI (k + 1))]) (by
      have q := (hS.db hk2 hi).2.1
      have e3 : (nI k).toNatClampNeg = k := nI_clamp (by omega)
      have e4 : 8 * 0 + (nI k).toNatClampNeg = k := by rw [e3]; omega
      rw [nI_succ]
      show [vo 0 5 0, vi (nI i), vi (nI (inn k D i) + gI m (0, 13, 8 * 0 + (nI k).toNatClampNeg) (nI i).toNatClampNeg), vi (nI k + 1)] = _
      rw [e4, e0, q, nI_add]
      rfl) rfl (l_St_balanceOf hS hi h (k + 1) hk2)
termination_by n - k
decreasing_by all_goals omega

theorem m_St_balanceOf {d n : Nat} {D : SDt} {m : Mem} {K : Option Vv → Mem → Prop} (hS : SC n D m) {v : Int32} {i : Nat} (hv : v = nI i) (hi : i < n) (h : K (some (vi (bl n D i))) m) : cW (d + 3) n_St_balanceOf [vo 0 5 0, vi v] m K := by
  have hR := hS.ok
  have h8 := hS.le
  have q1 := hS.nA
  have q2 := hS.nB
  subst hv
  refine w_St_balanceOf (Go.runR (callT_mono MT _) [4] 200 hR ?_)
  exact l_St_balanceOf hS hi h 0 (by omega)

theorem l_M_balanceOf {d n : Nat} {D : SDt} {m : Mem} {K : Option Vv → Mem → Prop} (hS : SC n D m) {i : Nat} (hi : i < n) (h : K (some (vi (bl n D i))) m) (k : Nat) (hk : k ≤ n) : Go (cW (d + 0)) i_M_balanceOf (0, 0) K 4 [vo 1 0 0, vi (nI i), vi (nI (inn k D i) - nI (ow k D i)), vi (nI k)] [] m 0 0 := by
  have hR := hS.ok
  have h8 := hS.le
  have q1 := hS.nA
  have q2 := hS.nB
  refine Go.runR (callT_mono MT _) [4] 200 hR ?_
  refine And.intro (fun c7 => ?_) (fun c7 => ?_)
  · try dsimp only at c7
    obtain rfl := lq_e c7 q2 rfl hk (by omega)
    refine And.intro trivial ?_
    exact h
  · try dsimp only at c7
    have hk2 := lq_m c7 q2 rfl hk (by omega)
    refine And.intro ⟨rfl, rfl, rfl⟩ ?_
    refine And.intro (by dsimp only; rw [pk8]; exact vp_nI (N := 64) (by omega) (by decide)) ?_
    refine And.intro ⟨rfl, rfl, rfl⟩ ?_
    refine And.intro (by dsimp only; rw [pk8]; exact vp_nI (N := 64) (by omega) (by decide)) ?_
    refine go_eq (ls' := [vo 1 0 0, vi (nI i), vi (nI (inn (k + 1) D i) - nI (ow (k + 1) D i)), vi (nI (k + 1))]) (by
    have q := (hS.db hk2 hi).2.2
    have q0 := (hS.db hi hk2).2.2
    rw [nI_succ]
    show [vo 1 0 0, vi (nI i), vi (nI (inn k D i) - nI (ow k D i) + (gI m (1, 18, 0) (8 * nI k + nI i).toNatClampNeg - gI m (1, 18, 0) (8 * nI i + nI k).toNatClampNeg)), vi (nI k + 1)] = _
    rw [pk8, pk8, nI_clamp (by omega), nI_clamp (by omega), q, q0]
    unfold inn ow
    rw [itS, itS, ← nI_add, ← nI_add]
    have : ∀ a b c e : Int32, a - b + (c - e) = a + c - (b + e) := fun a b c e => by grind
    rw [this]) rfl (l_M_balanceOf hS hi h (k + 1) hk2)
termination_by n - k
decreasing_by all_goals omega

theorem m_M_balanceOf {d n : Nat} {D : SDt} {m : Mem} {K : Option Vv → Mem → Prop} (hS : SC n D m) {v : Int32} {i : Nat} (hv : v = nI i) (hi : i < n) (h : K (some (vi (bl n D i))) m) : cW (d + 1) n_M_balanceOf [vo 1 0 0, vi v] m K := by
  have hR := hS.ok
  have h8 := hS.le
  have q1 := hS.nA
  have q2 := hS.nB
  subst hv
  refine w_M_balanceOf (Go.runR (callT_mono MT _) [4] 200 hR ?_)
  refine go_eq (ls' := [vo 1 0 0, vi (nI i), vi (nI (inn 0 D i) - nI (ow 0 D i)), vi (nI 0)]) ?_ rfl (l_M_balanceOf hS hi h 0 (by omega))
  rw [show nI (inn 0 D i) - nI (ow 0 D i) = 0 from Int32.sub_self _]
  rfl

theorem ex_k (a b : Nat) (s t : Nat) : ((s, t, a) : Id3) = (s, t, b) ↔ a = b := by simp
theorem nI_is {a b : Nat} (ha : a < 2 ^ 31) (hb : b < 2 ^ 31) : nI a = nI b ↔ a = b := nI_eq ha hb

theorem m_St_isExempt {d n : Nat} {D : SDt} {m : Mem} {K : Option Vv → Mem → Prop} (hS : SC n D m) {v : Int32} {i : Nat} (hv : v = nI i) (hi : i < n) (h : K (some (vi (if dK D i = 3 ∨ (dK D i = 5 ∧ ow n D i = 0) then 1 else 0))) m) : cW (d + 3) n_St_isExempt [vo 0 5 0, vi v] m K := by
  have hR := hS.ok
  have h8 := hS.le
  have q1 := hS.nA
  have q2 := hS.nB
  subst hv
  have e0 : (nI i).toNatClampNeg = i := nI_clamp (by omega)
  have hh := hS.hs hi
  have ko : 8 * 0 + (nI i).toNatClampNeg = i := by rw [e0]; omega
  have k6 := hh.2.1
  have kk := hh.1
  have g : ∀ b, b < 6 → (((0, 20, kn m (8 * 0 + (nI i).toNatClampNeg)) : Id3) = (0, 20, b) ↔ dK D i = b) := fun b hb => by rw [ko, kk]; simp
  have g3 := g 3 (by decide)
  have g5 := g 5 (by decide)
  have oL := owL hS hi
  have w0 : nI (ow n D i) = 0 ↔ ow n D i = 0 := by rw [show (0 : Int32) = nI 0 from rfl]; exact nI_eq (by omega) (by omega)
  refine w_St_isExempt (Go.runR (callT_mono MT _) [] 200 hR ?_)
  refine m_St_hasHouse1 (by repeat' (first | exact hR | apply OKR.pI | apply OKR.pL | apply OKR.cpI | apply OKR.wI)) q1 h8 hi (And.intro (by repeat' (first | exact hR | apply OKR.pI | apply OKR.pL | apply OKR.cpI | apply OKR.wI)) ?_)
  refine And.intro (fun c3 => ?_) (fun c3 => ?_)
  · first | exact absurd c3 (by decide) | exact absurd (by decide) c3 | (exfalso; grind)
  · try dsimp only at c3
    refine And.intro ⟨(by first | decide | assumption | omega), (by first | decide | assumption | omega)⟩ ?_
    refine And.intro ⟨(vp_nI (k := i) (N := 8) (by omega) (by decide)), ⟨(by decide), by rw [e0]; omega⟩⟩ ?_
    refine And.intro ⟨(by first | decide | assumption | omega), (by first | decide | assumption | omega)⟩ ?_
    refine And.intro (fun c10 => ?_) (fun c10 => ?_)
    · try dsimp only at c10
      refine And.intro (by first | exact Or.inl rfl | exact Or.inr rfl | grind) ?_
      exact kvi (by grind) h
    · try dsimp only at c10
      refine And.intro ⟨(by first | decide | assumption | omega), (by first | decide | assumption | omega)⟩ ?_
      refine And.intro ⟨(vp_nI (k := i) (N := 8) (by omega) (by decide)), ⟨(by decide), by rw [e0]; omega⟩⟩ ?_
      refine And.intro ⟨(by first | decide | assumption | omega), (by first | decide | assumption | omega)⟩ ?_
      refine And.intro (fun c17 => ?_) (fun c17 => ?_)
      · try dsimp only at c17
        refine m_St_owedBy (by exact hS) rfl hi (And.intro (by repeat' (first | exact hR | apply OKR.pI | apply OKR.pL | apply OKR.cpI | apply OKR.wI)) ?_)
        refine And.intro (fun c21 => ?_) (fun c21 => ?_)
        · try dsimp only at c21
          refine And.intro (by first | exact Or.inl rfl | exact Or.inr rfl | grind) ?_
          exact kvi (by grind) h
        · try dsimp only at c21
          refine And.intro (by first | exact Or.inl rfl | exact Or.inr rfl | grind) ?_
          exact kvi (by grind) h
      · try dsimp only at c17
        refine And.intro (by first | exact Or.inl rfl | exact Or.inr rfl | grind) ?_
        exact kvi (by grind) h

theorem m_M_isExempt {d n : Nat} {D : SDt} {m : Mem} {K : Option Vv → Mem → Prop} (hS : SC n D m) {v : Int32} {i : Nat} (hv : v = nI i) (hi : i < n) (h : K (some (vi (if dK D i = 3 ∨ (dK D i = 5 ∧ ow n D i = 0) then 1 else 0))) m) : cW (d + 2) n_M_isExempt [vo 1 0 0, vi v] m K := by
  have hR := hS.ok
  have h8 := hS.le
  have q1 := hS.nA
  have q2 := hS.nB
  subst hv
  have e0 : (nI i).toNatClampNeg = i := nI_clamp (by omega)
  have hh := hS.hs hi
  have k6 := hh.2.1
  have kk := hh.2.2.2.2.2.2.2.2.2.1
  have g : ∀ b, b < 6 → (gI m (1, 7, 0) (nI i).toNatClampNeg = nI b ↔ dK D i = b) := fun b hb => by rw [e0, kk]; exact nI_eq (by omega) (by omega)
  have g3 := g 3 (by decide)
  have g5 := g 5 (by decide)
  have oL := owL hS hi
  have w0 : nI (ow n D i) = 0 ↔ ow n D i = 0 := by rw [show (0 : Int32) = nI 0 from rfl]; exact nI_eq (by omega) (by omega)
  refine w_M_isExempt (Go.runR (callT_mono MT _) [] 200 hR ?_)
  refine And.intro ⟨rfl, rfl, rfl⟩ ?_
  refine And.intro (vp_nI (k := i) (N := 16) (by omega) (by decide)) ?_
  refine And.intro (fun c5 => ?_) (fun c5 => ?_)
  · try dsimp only at c5
    refine And.intro (by first | exact Or.inl rfl | exact Or.inr rfl | grind) ?_
    exact kvi (by first | grind | (have f3 : nI 3 = 3 := rfl; have f5 : nI 5 = 5 := rfl; grind)) h
  · try dsimp only at c5
    refine And.intro ⟨rfl, rfl, rfl⟩ ?_
    refine And.intro (vp_nI (k := i) (N := 16) (by omega) (by decide)) ?_
    refine And.intro (fun c11 => ?_) (fun c11 => ?_)
    · try dsimp only at c11
      refine m_M_owes (by exact hS) rfl hi (And.intro (by repeat' (first | exact hR | apply OKR.pI | apply OKR.pL | apply OKR.cpI | apply OKR.wI)) ?_)
      refine And.intro (fun c15 => ?_) (fun c15 => ?_)
      · try dsimp only at c15
        refine And.intro (by first | exact Or.inl rfl | exact Or.inr rfl | grind) ?_
        exact kvi (by first | grind | (have f3 : nI 3 = 3 := rfl; have f5 : nI 5 = 5 := rfl; grind)) h
      · try dsimp only at c15
        refine And.intro (by first | exact Or.inl rfl | exact Or.inr rfl | grind) ?_
        exact kvi (by first | grind | (have f3 : nI 3 = 3 := rfl; have f5 : nI 5 = 5 := rfl; grind)) h
    · try dsimp only at c11
      refine And.intro (by first | exact Or.inl rfl | exact Or.inr rfl | grind) ?_
      exact kvi (by first | grind | (have f3 : nI 3 = 3 := rfl; have f5 : nI 5 = 5 := rfl; grind)) h

theorem m_St_titheOf {d n : Nat} {D : SDt} {m : Mem} {K : Option Vv → Mem → Prop} (hS : SC n D m) {v : Int32} {i : Nat} (hv : v = nI i) (hi : i < n) (h : K (some (vi (ti n D i))) m) : cW (d + 4) n_St_titheOf [vo 0 5 0, vi v] m K := by
  have hR := hS.ok
  have h8 := hS.le
  have q1 := hS.nA
  have q2 := hS.nB
  subst hv
  have e0 : (nI i).toNatClampNeg = i := nI_clamp (by omega)
  have hh := hS.hs hi
  refine w_St_titheOf (Go.runR (callT_mono MT _) [] 200 hR ?_)
  refine m_St_hasHouse1 (by repeat' (first | exact hR | apply OKR.pI | apply OKR.pL | apply OKR.cpI | apply OKR.wI)) q1 h8 hi (And.intro (by repeat' (first | exact hR | apply OKR.pI | apply OKR.pL | apply OKR.cpI | apply OKR.wI)) ?_)
  refine And.intro (fun c3 => ?_) (fun c3 => ?_)
  · first | exact absurd c3 (by decide) | exact absurd (by decide) c3 | (exfalso; grind)
  · try dsimp only at c3
    refine m_St_isExempt (by exact hS) rfl hi (And.intro (by repeat' (first | exact hR | apply OKR.pI | apply OKR.pL | apply OKR.cpI | apply OKR.wI)) ?_)
    refine And.intro (fun c9 => ?_) (fun c9 => ?_)
    · try dsimp only at c9
      refine And.intro ⟨(by first | decide | assumption | omega), (by first | decide | assumption | omega)⟩ ?_
      refine And.intro ⟨(vp_nI (k := i) (N := 8) (by omega) (by decide)), ⟨(by decide), by rw [e0]; omega⟩⟩ ?_
      refine And.intro (by decide) ?_
      refine And.intro ⟨(by first | decide | assumption | omega), (by first | decide | assumption | omega)⟩ ?_
      refine And.intro ⟨(vp_nI (k := i) (N := 8) (by omega) (by decide)), ⟨(by decide), by rw [e0]; omega⟩⟩ ?_
      refine And.intro trivial ?_
      refine kvi ?_ h
      have z1 := hh.2.2.2.2.2.2.2.1
      have z2 := hh.2.2.2.2.2.2.2.2.1
      have ko : 8 * 0 + (nI i).toNatClampNeg = i := by rw [e0]; omega
      unfold ti
      rw [← z1, ← z2]
      simp only [ko] at *
      first | rfl | grind
    · try dsimp only at c9
      refine And.intro ⟨(by first | decide | assumption | omega), (by first | decide | assumption | omega)⟩ ?_
      refine And.intro ⟨(vp_nI (k := i) (N := 8) (by omega) (by decide)), ⟨(by decide), by rw [e0]; omega⟩⟩ ?_
      refine And.intro trivial ?_
      refine kvi ?_ h
      have z1 := hh.2.2.2.2.2.2.2.1
      have z2 := hh.2.2.2.2.2.2.2.2.1
      have ko : 8 * 0 + (nI i).toNatClampNeg = i := by rw [e0]; omega
      unfold ti
      rw [← z1, ← z2]
      simp only [ko] at *
      first | rfl | grind

theorem m_M_titheOf {d n : Nat} {D : SDt} {m : Mem} {K : Option Vv → Mem → Prop} (hS : SC n D m) {v : Int32} {i : Nat} (hv : v = nI i) (hi : i < n) (h : K (some (vi (ti n D i))) m) : cW (d + 3) n_M_titheOf [vo 1 0 0, vi v] m K := by
  have hR := hS.ok
  have h8 := hS.le
  have q1 := hS.nA
  have q2 := hS.nB
  subst hv
  have e0 : (nI i).toNatClampNeg = i := nI_clamp (by omega)
  have hh := hS.hs hi
  refine w_M_titheOf (Go.runR (callT_mono MT _) [] 200 hR ?_)
  refine m_M_isExempt (by exact hS) rfl hi (And.intro (by repeat' (first | exact hR | apply OKR.pI | apply OKR.pL | apply OKR.cpI | apply OKR.wI)) ?_)
  refine And.intro (fun c3 => ?_) (fun c3 => ?_)
  · try dsimp only at c3
    refine And.intro ⟨rfl, rfl, rfl⟩ ?_
    refine And.intro (by first | exact vp_nI (k := i) (N := 16) (by omega) (by decide) | exact vp_nI (k := i) (N := 8) (by omega) (by decide)) ?_
    refine And.intro (by decide) ?_
    refine And.intro ⟨rfl, rfl, rfl⟩ ?_
    refine And.intro (by first | exact vp_nI (k := i) (N := 16) (by omega) (by decide) | exact vp_nI (k := i) (N := 8) (by omega) (by decide)) ?_
    refine And.intro trivial ?_
    refine kvi ?_ h
    have z1 := hh.2.2.2.2.2.2.2.2.2.2.2.2.1
    have z2 := hh.2.2.2.2.2.2.2.2.2.2.2.2.2
    unfold ti
    rw [← z1, ← z2]
    simp only [e0] at *
    first | rfl | grind
  · try dsimp only at c3
    refine And.intro ⟨rfl, rfl, rfl⟩ ?_
    refine And.intro (by first | exact vp_nI (k := i) (N := 16) (by omega) (by decide) | exact vp_nI (k := i) (N := 8) (by omega) (by decide)) ?_
    refine And.intro trivial ?_
    refine kvi ?_ h
    have z1 := hh.2.2.2.2.2.2.2.2.2.2.2.2.1
    have z2 := hh.2.2.2.2.2.2.2.2.2.2.2.2.2
    unfold ti
    rw [← z1, ← z2]
    simp only [e0] at *
    first | rfl | grind
