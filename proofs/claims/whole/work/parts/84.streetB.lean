/-! Written by a program (wip/whole/p84.py): street, both sides. -/
theorem GF.nx {m m' : Mem} (g : GF m m') : Nx [] [0, 7, 8, 9] m m' := ⟨g.1, g.2.1, g.2.2.1, fun t i k _ => g.2.2.2.1 t i k, fun t i k q => g.2.2.2.2 t i k (Or.inl fun z => q (by rw [z]; simp)) (Or.inl ⟨fun z => q (by rw [z]; simp), fun z => q (by rw [z]; simp), fun z => q (by rw [z]; simp)⟩)⟩
theorem Nx.tr {a b : List Nat} {m m1 m2 : Mem} (h : Nx a b m m1) (g : Nx a b m1 m2) : Nx a b m m2 := ⟨g.1, fun o k => (g.2.1 o k).trans (h.2.1 o k), fun o k => (g.2.2.1 o k).trans (h.2.2.1 o k), fun t i k q => (g.2.2.2.1 t i k q).trans (h.2.2.2.1 t i k q), fun t i k q => (g.2.2.2.2 t i k q).trans (h.2.2.2.2 t i k q)⟩
def SA (m0 m : Mem) (S : GS) : Prop := Nx [] [0, 7, 8, 9] m0 m ∧ gI m (1, 0, 0) 0 = gI m0 (1, 0, 0) 0 ∧ gI m (1, 0, 0) 2 = gI m0 (1, 0, 0) 2 ∧ gI m (1, 0, 0) 10 = nI (yN S) ∧ gI m (1, 0, 0) 11 = (if yN S = 0 then 0 else nI (yA S)) ∧ gI m (1, 0, 0) 12 = (if yN S = 0 then 0 else nI (yE S)) ∧ ∀ j, j < yN S → gI m (1, 7, 0) (8 + j) = nI (yK S j) ∧ gI m (1, 8, 0) (8 + j) = nI (yL S j) ∧ gI m (1, 9, 0) (8 + j) = nI (yW S j)
def SZ (m0 m : Mem) (S : GS) : Prop := Nx [] [0, 7, 8, 9, 10, 11, 13, 18] m0 m ∧ gI m (1, 0, 0) 0 = gI m0 (1, 0, 0) 0 ∧ gI m (1, 0, 0) 2 = gI m0 (1, 0, 0) 2 ∧ gI m (1, 0, 0) 10 = nI (yN S) ∧ gI m (1, 0, 0) 11 = (if yN S = 0 then 0 else nI (yA S)) ∧ gI m (1, 0, 0) 12 = (if yN S = 0 then 0 else nI (yE S)) ∧ gI m (1, 0, 0) 20 = 0 ∧ gI m (1, 0, 0) 21 = 0 ∧ gI m (1, 0, 0) 22 = 0 ∧ (∀ j, j < yN S → gI m (1, 7, 0) j = nI (yK S j) ∧ gI m (1, 8, 0) j = nI (yL S j) ∧ gI m (1, 9, 0) j = nI (yW S j) ∧ gI m (1, 10, 0) j = 0 ∧ gI m (1, 11, 0) j = 0) ∧ (∀ k, k < 64 → gI m (1, 18, 0) k = 0) ∧ ∀ k, k < 3 → gI m (1, 13, 0) (580 * k) = -9
theorem l_M_streetZ {d : Nat} {u w : Int32} {S : GS} {m0 : Mem} {K : Option Vv → Mem → Prop} (N8 : yN S ≤ 8) (h : ∀ m, SZ m0 m S → K (some (vi (nI (yN S)))) m) (m : Mem) (H : SA m0 m S) : Go (cW d) i_M_street (0, 0) K 39 [vo 1 0 0, vi u, vi w, vi (nI 0)] [] m 0 0 := by
  obtain ⟨h1, h2, h3, h4, h5, h6, h7⟩ := H
  refine l_M_street39 (m0 := m) (fun m3 I => l_M_street86 (m0 := m3) (fun m4 J => l_M_street107 (fun m6 L => ?_) 0 _ ⟨Nx.refl J.1.1.pI.pI.pI, fun q hq => absurd hq (by omega)⟩ (by omega)) 0 m3 ⟨Nx.refl I.1.1, fun q hq => absurd hq (by omega)⟩ (by omega)) 0 m ⟨Nx.refl h1.1, fun t q _ => by rw [if_neg (by omega)], fun q hq => absurd hq (by omega)⟩ (by omega)
  have f0 : ∀ q, q ≠ 20 → q ≠ 21 → q ≠ 22 → gI m6 (1, 0, 0) q = gI m (1, 0, 0) q := fun q q0 q1 q2 => by
    rw [L.1.2.2.2.2 0 0 q (by simp), rd11, if_neg (by omega), rd11, if_neg (by omega), rd11, if_neg (by omega), J.1.2.2.2.2 0 0 q (by simp), I.1.2.2.2.2 0 0 q (by simp)]
  have ft : ∀ t q, t = 7 ∨ t = 8 ∨ t = 9 ∨ t = 10 ∨ t = 11 → gI m6 (1, t, 0) q = gI m3 (1, t, 0) q := fun t q ht => by
    rw [L.1.2.2.2.2 t 0 q (by simp; omega), rd11, if_neg (by omega), rd11, if_neg (by omega), rd11, if_neg (by omega), J.1.2.2.2.2 t 0 q (by simp; omega)]
  have fr : gI (pI (pI (pI m4 (1, 0, 0) 20 0) (1, 0, 0) 21 0) (1, 0, 0) 22 0) (1, 0, 0) 10 = nI (yN S) := by
    rw [rd11, if_neg (by omega), rd11, if_neg (by omega), rd11, if_neg (by omega), J.1.2.2.2.2 0 0 10 (by simp), I.1.2.2.2.2 0 0 10 (by simp)]
    exact h4
  refine kvi fr (h m6 ⟨?_, (f0 0 (by omega) (by omega) (by omega)).trans h2, (f0 2 (by omega) (by omega) (by omega)).trans h3, (f0 10 (by omega) (by omega) (by omega)).trans h4, (f0 11 (by omega) (by omega) (by omega)).trans h5, (f0 12 (by omega) (by omega) (by omega)).trans h6, ?_, ?_, ?_, fun j hj => ?_, fun k hk => ?_, L.2⟩)
  · refine ((h1.wk (by simp) (by simp)).tr (I.1.wk (by simp) (by simp))).tr (((J.1.wk (a' := []) (b' := [0, 7, 8, 9, 10, 11, 13, 18]) (by simp) (by simp)).p1 (by simp)).p1 (by simp) |>.p1 (by simp) |>.tr (L.1.wk (by simp) (by simp)))
  · rw [L.1.2.2.2.2 0 0 20 (by simp), rd11, if_neg (by omega), rd11, if_neg (by omega), rd11, if_pos ⟨rfl, rfl, rfl⟩]
  · rw [L.1.2.2.2.2 0 0 21 (by simp), rd11, if_neg (by omega), rd11, if_pos ⟨rfl, rfl, rfl⟩]
  · rw [L.1.2.2.2.2 0 0 22 (by simp), rd11, if_pos ⟨rfl, rfl, rfl⟩]
  · rw [ft 7 j (by omega), ft 8 j (by omega), ft 9 j (by omega), ft 10 j (by omega), ft 11 j (by omega), I.2.1 7 j (by omega), I.2.1 8 j (by omega), I.2.1 9 j (by omega), if_pos (by omega), if_pos (by omega), if_pos (by omega)]
    have z := h7 j hj
    exact ⟨z.1, z.2.1, z.2.2, I.2.2 j (by omega)⟩
  · rw [L.1.2.2.2.2 18 0 k (by simp), rd11, if_neg (by omega), rd11, if_neg (by omega), rd11, if_neg (by omega)]
    exact J.2 k hk

theorem m_M_street1 {d t n : Nat} {b : Nat → Int32} {m : Mem} {K : Option Vv → Mem → Prop} (hR : OKR m) (T : TM t n b m) (hF : fo b n (n + 1) 0 0 = -9) (h : ∀ m', yN (gsF b n (n + 1) 0 0 gs0) ≤ 8 → yA (gsF b n (n + 1) 0 0 gs0) ≤ 9 ∧ yE (gsF b n (n + 1) 0 0 gs0) ≤ 9 → (∀ j, j < yN (gsF b n (n + 1) 0 0 gs0) → yK (gsF b n (n + 1) 0 0 gs0) j < 6 ∧ yL (gsF b n (n + 1) 0 0 gs0) j ≤ 9 ∧ yW (gsF b n (n + 1) 0 0 gs0) j ≤ 9) → SZ m m' (gsF b n (n + 1) 0 0 gs0) → K (some (vi (nI (yN (gsF b n (n + 1) 0 0 gs0))))) m') : cW (d + 5) n_M_street [vo 1 0 0, vi (nI t)] m K := by
  have e0 : (nI t).toNatClampNeg = t := nI_clamp (by have := T.1; omega)
  refine w_M_street (Go.runR (callT_mono MT _) [39] 200 hR ?_)
  refine m_M_askedText hR (fun z => absurd (istext_in T.1) z) (fun _ z => absurd z (by rw [e0, T.2.2.1]; exact (szneg T.2.1).1)) (fun _ _ => And.intro hR ?_)
  refine And.intro (fun c5 => ?_) (fun c5 => ?_)
  · try dsimp only at c5
    refine m_M_goesOn hR T rfl (fun m1 G hS => And.intro G.ok ?_)
    obtain ⟨j, j0, hm, hB⟩ := hS hF
    rw [hF]
    have N8 := hB.2.1
    have e17 : ∀ x y z, gI (pI (pI (pI m1 (1, 0, 0) 10 x) (1, 0, 0) 11 y) (1, 0, 0) 12 z) (1, 0, 0) 10 = x := fun x y z => by rw [rd11, if_neg (by omega), rd11, if_neg (by omega), rd11, if_pos ⟨rfl, rfl, rfl⟩]
    have hA : ∀ x y z, x = nI (yN (gsF b n (n + 1) 0 0 gs0)) → y = (if yN (gsF b n (n + 1) 0 0 gs0) = 0 then 0 else nI (yA (gsF b n (n + 1) 0 0 gs0))) → z = (if yN (gsF b n (n + 1) 0 0 gs0) = 0 then 0 else nI (yE (gsF b n (n + 1) 0 0 gs0))) → SA m (pI (pI (pI m1 (1, 0, 0) 10 x) (1, 0, 0) 11 y) (1, 0, 0) 12 z) (gsF b n (n + 1) 0 0 gs0) := fun x y z ex ey ez => ⟨((G.nx.p1 (by simp)).p1 (by simp)).p1 (by simp), by rw [rd11, if_neg (by omega), rd11, if_neg (by omega), rd11, if_neg (by omega)]; exact G.2.2.2.2 0 0 0 (by omega) (by omega), by rw [rd11, if_neg (by omega), rd11, if_neg (by omega), rd11, if_neg (by omega)]; exact G.2.2.2.2 0 0 2 (by omega) (by omega), (e17 x y z).trans ex, by rw [rd11, if_neg (by omega), rd11, if_pos ⟨rfl, rfl, rfl⟩]; exact ey, by rw [rd11, if_pos ⟨rfl, rfl, rfl⟩]; exact ez, fun j hj => by rw [rd11, if_neg (by omega), rd11, if_neg (by omega), rd11, if_neg (by omega), rd11, if_neg (by omega), rd11, if_neg (by omega), rd11, if_neg (by omega), rd11, if_neg (by omega), rd11, if_neg (by omega), rd11, if_neg (by omega)]; exact hm.2.2 j hj⟩
    have fin : ∀ x y z, x = nI (yN (gsF b n (n + 1) 0 0 gs0)) → y = (if yN (gsF b n (n + 1) 0 0 gs0) = 0 then 0 else nI (yA (gsF b n (n + 1) 0 0 gs0))) → z = (if yN (gsF b n (n + 1) 0 0 gs0) = 0 then 0 else nI (yE (gsF b n (n + 1) 0 0 gs0))) → Go (cW (d + 4)) i_M_street (0, 0) K 39 [vo 1 0 0, vi (nI t), vi 0, vi (nI 0)] [] (pI (pI (pI m1 (1, 0, 0) 10 x) (1, 0, 0) 11 y) (1, 0, 0) 12 z) 0 0 := fun x y z ex ey ez => l_M_streetZ N8 (fun m6 Z => h m6 (by omega) (hB.2.2.1 j0) hB.2.2.2 Z) _ (hA x y z ex ey ez)
    by_cases zz : yN (gsF b n (n + 1) 0 0 gs0) = 0
    · refine And.intro (fun c12 => ?_) (fun c12 => ?_)
      · try dsimp only at c12
        refine And.intro (fun c22 => ?_) (fun c22 => ?_)
        · try dsimp only at c22
          refine And.intro (fun c31 => ?_) (fun c31 => ?_)
          · try dsimp only at c31
            exact fin _ _ _ hm.1 (if_pos zz).symm (if_pos zz).symm
          · exact absurd (by show gI m1 (1, 0, 0) 17 = 0; rw [hm.1, zz]; rfl) c31
        · exact absurd (by show gI m1 (1, 0, 0) 17 = 0; rw [hm.1, zz]; rfl) c22
      · exact absurd rfl c12
    · refine And.intro (fun c12 => ?_) (fun c12 => ?_)
      · try dsimp only at c12
        refine And.intro (fun c22 => ?_) (fun c22 => ?_)
        · exact absurd (show gI m1 (1, 0, 0) 17 = 0 from c22) (by rw [hm.1]; exact sz0 (Nat.pos_of_ne_zero zz) (by omega))
        · try dsimp only at c22
          refine And.intro (fun c31 => ?_) (fun c31 => ?_)
          · exact absurd (show gI m1 (1, 0, 0) 17 = 0 from c31) (by rw [hm.1]; exact sz0 (Nat.pos_of_ne_zero zz) (by omega))
          · try dsimp only at c31
            exact fin _ _ _ hm.1 (by rw [if_neg zz]; exact (hm.2.1 j0).1) (by rw [if_neg zz]; exact (hm.2.1 j0).2)
      · exact absurd rfl c12
  · first | exact absurd c5 (by decide) | exact absurd (by decide) c5 | (exfalso; grind)

theorem RelAB.street {m m1 m2 m3 : Mem} {S : GS} {j : Nat} (R : RelAB m) (hX : Nx [5] [] m m1) (hk : ∀ j, j < 3 → gI m1 (0, 5, 1 + j) 3 = 0) (hj : 0 < j) (hC : CS S j m1 m2) (N8 : yN S ≤ 8) (b1 : yA S ≤ 9 ∧ yE S ≤ 9) (b2 : ∀ j, j < yN S → yK S j < 6 ∧ yL S j ≤ 9 ∧ yW S j ≤ 9) (hZ : SZ m2 m3 S) : RelAB m3 := by
  obtain ⟨c1, c2, c3, c4, c5, c6, c7, c8⟩ := hC
  obtain ⟨z1, z2, z3, z4, z5, z6, z7, z8, z9, z10, z11, z12⟩ := hZ
  have e0 : ∀ t i k, t ≠ 5 → t ≠ 8 → t ≠ 13 → gI m3 (0, t, i) k = gI m (0, t, i) k := fun t i k q1 q2 q3 =>
    (z1.2.2.2.1 t i k (by simp)).trans ((c1.2.2.1 t i k (by simp; omega)).trans (hX.2.2.2.1 t i k (by simp; omega)))
  have f0 : ∀ t i k, gI m3 (0, t, i) k = gI m2 (0, t, i) k := fun t i k => z1.2.2.2.1 t i k (by simp)
  have e1 : ∀ t i k, t ≠ 0 → t ≠ 7 → t ≠ 8 → t ≠ 9 → t ≠ 10 → t ≠ 11 → t ≠ 13 → t ≠ 18 → gI m3 (1, t, i) k = gI m (1, t, i) k := fun t i k q1 q2 q3 q4 q5 q6 q7 q8 =>
    (z1.2.2.2.2 t i k (by simp; omega)).trans ((c1.2.2.2 t i k (by simp)).trans (hX.2.2.2.2 t i k (by simp)))
  have eL : ∀ o k, gL m3 o k = gL m o k := fun o k => (z1.2.2.1 o k).trans ((c1.2.1 o k).trans (hX.2.2.1 o k))
  have x0 : gI m3 (1, 0, 0) 0 = gI m (1, 0, 0) 0 := z2.trans ((c1.2.2.2 0 0 0 (by simp)).trans (hX.2.2.2.2 0 0 0 (by simp)))
  have x2 : gI m3 (1, 0, 0) 2 = gI m (1, 0, 0) 2 := z3.trans ((c1.2.2.2 0 0 2 (by simp)).trans (hX.2.2.2.2 0 0 2 (by simp)))
  obtain ⟨-, b, c, d, -⟩ := R
  have nn : nI 0 = 0 := rfl
  refine ⟨z1.1, b.cg (fun r _ => e0 _ _ _ (by omega) (by omega) (by omega)) (fun r k _ => e0 _ _ _ (by omega) (by omega) (by omega)) (fun k => e1 _ _ _ (by omega) (by omega) (by omega) (by omega) (by omega) (by omega) (by omega) (by omega)) (fun k => e1 _ _ _ (by omega) (by omega) (by omega) (by omega) (by omega) (by omega) (by omega) (by omega)), c.cg (fun r => e0 _ _ _ (by omega) (by omega) (by omega)) (fun r k => e0 _ _ _ (by omega) (by omega) (by omega)) (fun k => e1 _ _ _ (by omega) (by omega) (by omega) (by omega) (by omega) (by omega) (by omega) (by omega)) (fun k => e1 _ _ _ (by omega) (by omega) (by omega) (by omega) (by omega) (by omega) (by omega) (by omega)), ?_, yN S, N8, z4, fun z => ?_, fun z => ?_⟩
  · unfold TellR at *
    rw [e0 0 0 7 (by omega) (by omega) (by omega), e0 0 0 8 (by omega) (by omega) (by omega), e0 15 0 0 (by omega) (by omega) (by omega), e0 16 0 0 (by omega) (by omega) (by omega), x0, x2, eL, eL, eL, eL]
    refine ⟨d.1, d.2.1, fun f q1 q2 => ?_, d.2.2.2⟩
    rw [e0 19 0 f (by omega) (by omega) (by omega), e1 1 0 f (by omega) (by omega) (by omega) (by omega) (by omega) (by omega) (by omega) (by omega)]
    exact d.2.2.1 f q1 q2
  · rw [f0, f0, f0, f0, z7, z8, z9, z5, z6, if_pos z, c3, c4, c5, c6, z]
    exact ⟨rfl, rfl, rfl, rfl, rfl, rfl, rfl, rfl, rfl, fun k hk3 => ⟨by rw [f0, c2 _ _ (by omega)]; exact hk k hk3, z12 k hk3⟩⟩
  · have hn : ¬ yN S = 0 := by omega
    rw [if_neg hn] at z5 z6
    refine ⟨⟨fun i hi => ?_, ?_⟩, ⟨0, z7, ?_, ?_, by omega, ⟨?_, yA S, b1.1, z5⟩, ⟨?_, 0, by omega, z8⟩, ?_, fun i hi => ?_, fun i j hi hj => ?_, fun t ht => absurd ht (by omega)⟩, fun k hk3 => Or.inl ⟨by rw [f0, c2 _ _ (by omega)]; exact hk k hk3, z12 k hk3⟩⟩
    · have q := c8 i hi
      have y := z10 i hi
      rw [z1.kn i, q.1, f0, q.2.1, y.1, y.2.1]
      exact ⟨rfl, rfl, yL S i, (b2 i hi).2.1, rfl⟩
    · rw [f0, (c7 hj).2, z6]
      exact ⟨rfl, yE S, b1.2, rfl⟩
    · rw [f0, c3]
    · rw [f0, c4]; rfl
    · rw [f0, (c7 hj).1, z5]
    · rw [f0, c5, z8]
    · rw [f0, c6, z9]
    · have q := c8 i hi
      have y := z10 i hi
      rw [show 8 * 0 + i = i by omega]
      unfold HoR
      try dsimp only
      rw [f0, f0, f0, q.2.2.1, q.2.2.2.1, q.2.2.2.2.1, y.2.2.1, y.2.2.2.1, y.2.2.2.2]
      exact ⟨rfl, ⟨yW S i, by have := (b2 i hi).2.2; omega, rfl⟩, rfl, rfl, 0, by omega, rfl⟩
    · rw [show 8 * 0 + i = i by omega, f0, (c8 i hi).2.2.2.2.2 j (by omega), z11 (8 * i + j) (by omega)]
      exact ⟨rfl, 0, by omega, rfl⟩

theorem p_street {d : Nat} {m : Mem} {K : Option Vv → Option Vv → Mem → Prop} (R : RelAB m) {r : Int32} (h : ∀ v m', RelAB m' → K v v m') : cW (d + 6) n_X_street [vo 0 0 0, vi r] m (fun v m1 => cW (d + 6) n_M_street [vo 1 0 0, vi r] m1 (fun w m2 => K v w m2)) := by
  have hR := R.1
  rcases R.textCase r with q | ⟨a, ha, rfl, s1, s2⟩ | ⟨a, n, ha, rfl, hn, s1, s2, s3⟩
  · refine w_X_street (Go.runR (callT_mono MT _) [] 200 (by repeat' (first | exact hR | apply OKR.pI | apply OKR.pL | apply OKR.cpI | apply OKR.wI)) ?_)
    refine m_X_isText0 (by repeat' (first | exact hR | apply OKR.pI | apply OKR.pL | apply OKR.cpI | apply OKR.wI)) q (And.intro (by repeat' (first | exact hR | apply OKR.pI | apply OKR.pL | apply OKR.cpI | apply OKR.wI)) ?_)
    refine And.intro (fun c3 => ?_) (fun c3 => ?_)
    · try dsimp only at c3
      refine And.intro trivial ?_
      refine w_M_street (Go.runR (callT_mono MT _) [] 200 (by repeat' (first | exact hR | apply OKR.pI | apply OKR.pL | apply OKR.cpI | apply OKR.wI)) ?_)
      refine m_M_askedText (by repeat' (first | exact hR | apply OKR.pI | apply OKR.pL | apply OKR.cpI | apply OKR.wI)) (fun _ => And.intro (by repeat' (first | exact hR | apply OKR.pI | apply OKR.pL | apply OKR.cpI | apply OKR.wI)) ?_) (fun z _ => absurd z q) (fun z _ => absurd z q)
      refine And.intro (fun c5 => ?_) (fun c5 => ?_)
      · first | exact absurd c5 (by decide) | exact absurd (by decide) c5 | (exfalso; grind)
      · try dsimp only at c5
        refine And.intro trivial ?_
        exact h _ _ R
    · first | exact absurd c3 (by decide) | exact absurd (by decide) c3 | (exfalso; grind)
  · have e0 : (nI a).toNatClampNeg = a := nI_clamp (by omega)
    refine w_X_street (Go.runR (callT_mono MT _) [] 200 (by repeat' (first | exact hR | apply OKR.pI | apply OKR.pL | apply OKR.cpI | apply OKR.wI)) ?_)
    refine m_X_isText1 (by repeat' (first | exact hR | apply OKR.pI | apply OKR.pL | apply OKR.cpI | apply OKR.wI)) ha (And.intro (by repeat' (first | exact hR | apply OKR.pI | apply OKR.pL | apply OKR.cpI | apply OKR.wI)) ?_)
    refine And.intro (fun c3 => ?_) (fun c3 => ?_)
    · first | exact absurd c3 (by decide) | exact absurd (by decide) c3 | (exfalso; grind)
    · try dsimp only at c3
      refine And.intro ⟨(by first | decide | assumption | omega), (by first | decide | assumption | omega)⟩ ?_
      refine And.intro ⟨(vp_nI (N := 4) ha (by decide)), ⟨rfl, by rw [e0]; exact ha⟩⟩ ?_
      rw [show (nI a).toNatClampNeg = a from e0]
      refine m_Ce_isMissing1 (by repeat' (first | exact hR | apply OKR.pI | apply OKR.pL | apply OKR.cpI | apply OKR.wI)) s1 (And.intro (by repeat' (first | exact hR | apply OKR.pI | apply OKR.pL | apply OKR.cpI | apply OKR.wI)) ?_)
      refine And.intro (fun c11 => ?_) (fun c11 => ?_)
      · first | exact absurd c11 (by decide) | exact absurd (by decide) c11 | (exfalso; grind)
      · try dsimp only at c11
        refine m_X_found1 (by repeat' (first | exact hR | apply OKR.pI | apply OKR.pL | apply OKR.cpI | apply OKR.wI))  (And.intro (by repeat' (first | exact hR | apply OKR.pI | apply OKR.pL | apply OKR.cpI | apply OKR.wI)) ?_)
        refine And.intro trivial ?_
        refine w_M_street (Go.runR (callT_mono MT _) [] 200 (by repeat' (first | exact hR | apply OKR.pI | apply OKR.pL | apply OKR.cpI | apply OKR.wI)) ?_)
        refine m_M_askedText (by repeat' (first | exact hR | apply OKR.pI | apply OKR.pL | apply OKR.cpI | apply OKR.wI)) (fun z => absurd (istext_in ha) z) (fun _ _ => And.intro (by repeat' (first | exact hR | apply OKR.pI | apply OKR.pL | apply OKR.cpI | apply OKR.wI)) ?_) (fun _ z => absurd z (by rw [e0]; show ¬ 0 ≤ gI m (1, 5, 0) a; rw [s2]; decide))
        refine And.intro (fun c5 => ?_) (fun c5 => ?_)
        · first | exact absurd c5 (by decide) | exact absurd (by decide) c5 | (exfalso; grind)
        · try dsimp only at c5
          refine And.intro trivial ?_
          exact h _ _ (R.meet (by omega) (by omega))
  · have e0 : (nI a).toNatClampNeg = a := nI_clamp (by omega)
    have T := R.txt ha hn s2 s3
    by_cases hF : fo (fun k => gI m (0, 2, 6 + a) k) n (n + 1) 0 0 = -9
    · refine w_X_street (Go.runR (callT_mono MT _) [27] 200 hR ?_)
      refine m_X_isText1 (by repeat' (first | exact hR | apply OKR.pI | apply OKR.pL | apply OKR.cpI | apply OKR.wI)) ha (And.intro (by repeat' (first | exact hR | apply OKR.pI | apply OKR.pL | apply OKR.cpI | apply OKR.wI)) ?_)
      refine And.intro (fun c3 => ?_) (fun c3 => ?_)
      · first | exact absurd c3 (by decide) | exact absurd (by decide) c3 | (exfalso; grind)
      · try dsimp only at c3
        refine And.intro ⟨(by first | decide | assumption | omega), (by first | decide | assumption | omega)⟩ ?_
        refine And.intro ⟨(vp_nI (N := 4) ha (by decide)), ⟨rfl, by rw [e0]; exact ha⟩⟩ ?_
        rw [show (nI a).toNatClampNeg = a from e0]
        refine m_Ce_isMissing0 (by repeat' (first | exact hR | apply OKR.pI | apply OKR.pL | apply OKR.cpI | apply OKR.wI)) (n := n) hn s1 (And.intro (by repeat' (first | exact hR | apply OKR.pI | apply OKR.pL | apply OKR.cpI | apply OKR.wI)) ?_)
        refine And.intro (fun c11 => ?_) (fun c11 => ?_)
        · try dsimp only at c11
          refine And.intro ⟨(by first | decide | assumption | omega), (by first | decide | assumption | omega)⟩ ?_
          refine And.intro ⟨(vp_nI (N := 4) ha (by decide)), ⟨rfl, by rw [e0]; exact ha⟩⟩ ?_
          refine m_Gr_faultOf hR (c := 6 + a) (n := n) (b := fun k => gI m (0, 2, 6 + a) k) (by omega) (by rw [ln26]; exact hn) hn s1 (fun k _ => rfl) (by rw [e0]) (And.intro hR ?_)
          rw [hF]
          refine And.intro (fun c22 => ?_) (fun c22 => ?_)
          · try dsimp only at c22
            refine l_X_street27 (d := d + 2) (m0 := m) (fun m1 hX hk => ?_) 0 m (Nx.refl hR) (fun j hj => absurd hj (by omega)) (by omega)
            have hR1 := hX.1
            refine Go.runR (callT_mono MT _) [] 200 hR1 ?_
            refine And.intro ⟨(by first | decide | assumption | omega), (by first | decide | assumption | omega)⟩ ?_
            refine And.intro ⟨(vp_nI (N := 4) ha (by decide)), ⟨rfl, by rw [e0]; exact ha⟩⟩ ?_
            refine And.intro ⟨(by first | decide | assumption | omega), (by first | decide | assumption | omega)⟩ ?_
            refine m_Gr_build hR1 (c := 6 + a) (n := n) (b := fun k => gI m (0, 2, 6 + a) k) (by omega) (by rw [ln26]; exact hn) hn ((hX.2.2.2.1 1 _ 1 (by simp)).trans s1) (fun k _ => hX.2.2.2.1 2 _ k (by simp)) (by rw [e0]) hF (fun m2 hj2 => ?_)
            obtain ⟨j, hj, hC⟩ := hj2
            refine And.intro hC.1.1 ?_
            refine And.intro ⟨(by first | decide | assumption | omega), (by first | decide | assumption | omega)⟩ ?_
            refine And.intro trivial ?_
            have T2 : TM a n (fun k => gI m (0, 2, 6 + a) k) m2 := ⟨ha, hn, (hC.1.2.2.2 5 0 a (by simp)).trans ((hX.2.2.2.2 5 0 a (by simp)).trans T.2.2.1), fun k hk => ((hC.1.2.2.2 6 0 _ (by simp)).trans (hX.2.2.2.2 6 0 _ (by simp))).trans (T.2.2.2 k hk)⟩
            have e3 : gI m2 (0, 5, 0) 3 = nI (yN (gsF (fun k => gI m (0, 2, 6 + a) k) n (n + 1) 0 0 gs0)) := hC.2.2.1
            show cW (d + 6) n_M_street [vo 1 0 0, vi (nI a)] m2 (fun w m2' => K (some (vi (gI m2 (0, 5, 0) 3))) w m2')
            rw [e3]
            exact m_M_street1 (d := d + 1) hC.1.1 T2 hF (fun m3 N8 b1 b2 hZ => h _ _ (R.street hX hk hj hC N8 b1 b2 hZ))
          · first | exact absurd c22 (by decide) | exact absurd (by decide) c22 | (exfalso; grind)
        · first | exact absurd c11 (by decide) | exact absurd (by decide) c11 | (exfalso; grind)
    · refine w_X_street (Go.runR (callT_mono MT _) [] 200 (by repeat' (first | exact hR | apply OKR.pI | apply OKR.pL | apply OKR.cpI | apply OKR.wI)) ?_)
      refine m_X_isText1 (by repeat' (first | exact hR | apply OKR.pI | apply OKR.pL | apply OKR.cpI | apply OKR.wI)) ha (And.intro (by repeat' (first | exact hR | apply OKR.pI | apply OKR.pL | apply OKR.cpI | apply OKR.wI)) ?_)
      refine And.intro (fun c3 => ?_) (fun c3 => ?_)
      · first | exact absurd c3 (by decide) | exact absurd (by decide) c3 | (exfalso; grind)
      · try dsimp only at c3
        refine And.intro ⟨(by first | decide | assumption | omega), (by first | decide | assumption | omega)⟩ ?_
        refine And.intro ⟨(vp_nI (N := 4) ha (by decide)), ⟨rfl, by rw [e0]; exact ha⟩⟩ ?_
        rw [show (nI a).toNatClampNeg = a from e0]
        refine m_Ce_isMissing0 (by repeat' (first | exact hR | apply OKR.pI | apply OKR.pL | apply OKR.cpI | apply OKR.wI)) (n := n) hn s1 (And.intro (by repeat' (first | exact hR | apply OKR.pI | apply OKR.pL | apply OKR.cpI | apply OKR.wI)) ?_)
        refine And.intro (fun c11 => ?_) (fun c11 => ?_)
        · try dsimp only at c11
          refine And.intro ⟨(by first | decide | assumption | omega), (by first | decide | assumption | omega)⟩ ?_
          refine And.intro ⟨(vp_nI (N := 4) ha (by decide)), ⟨rfl, by rw [e0]; exact ha⟩⟩ ?_
          refine m_Gr_faultOf hR (c := 6 + a) (n := n) (b := fun k => gI m (0, 2, 6 + a) k) (by omega) (by rw [ln26]; exact hn) hn s1 (fun k _ => rfl) (by rw [e0]) (And.intro hR ?_)
          refine And.intro (fun c22 => ?_) (fun c22 => ?_)
          · exact absurd c22 hF
          · try dsimp only at c22
            refine And.intro trivial ?_
            refine w_M_street (Go.runR (callT_mono MT _) [] 200 (by repeat' (first | exact hR | apply OKR.pI | apply OKR.pL | apply OKR.cpI | apply OKR.wI)) ?_)
            refine m_M_askedText (by repeat' (first | exact hR | apply OKR.pI | apply OKR.pL | apply OKR.cpI | apply OKR.wI)) (fun z => absurd (istext_in ha) z) (fun _ z => absurd z (by rw [e0]; show ¬ gI m (1, 5, 0) a < 0; rw [s2]; exact (szneg hn).1)) (fun _ _ => And.intro (by repeat' (first | exact hR | apply OKR.pI | apply OKR.pL | apply OKR.cpI | apply OKR.wI)) ?_)
            refine And.intro (fun c5 => ?_) (fun c5 => ?_)
            · try dsimp only at c5
              refine m_M_goesOn hR T rfl (fun m1 G _ => And.intro G.ok ?_)
              refine And.intro (fun c12 => ?_) (fun c12 => ?_)
              · exact absurd c12 hF
              · try dsimp only at c12
                refine And.intro trivial ?_
                exact h _ _ (G.rel R)
            · first | exact absurd c5 (by decide) | exact absurd (by decide) c5 | (exfalso; grind)
        · first | exact absurd c11 (by decide) | exact absurd (by decide) c11 | (exfalso; grind)

