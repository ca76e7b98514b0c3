/-! Written by a program (wip/whole/p68.py): keep, on. -/
theorem pk3 (b k : Nat) {c : Int32} (c' : Nat) (hc : c = nI c') : nI b + c + nI k = nI (b + (c' + k)) := by rw [hc, nI_add, nI_add, Nat.add_assoc]
theorem pk2 (b : Nat) {c : Int32} (c' : Nat) (hc : c = nI c') : nI b + c = nI (b + c') := by rw [hc, nI_add]
/-- what the reference keeps of the street, in its order -/
def kS (m : Mem) (x : Nat) : Int32 := if x = 0 then gI m (1, 0, 0) 20 else if x = 1 then gI m (1, 0, 0) 11 else if x = 2 then gI m (1, 0, 0) 21 else if x = 3 then gI m (1, 0, 0) 22 else if x < 12 then gI m (1, 9, 0) (x - 4) else if x < 20 then gI m (1, 10, 0) (x - 12) else if x < 28 then gI m (1, 11, 0) (x - 20) else if x < 92 then gI m (1, 18, 0) (x - 28) else gI m (1, 12, 0) (x - 92)
theorem kS_4 (m : Mem) {k : Nat} (h : k < 8) : kS m (4 + k) = gI m (1, 9, 0) k := by
  unfold kS
  rw [if_neg (by omega), if_neg (by omega), if_neg (by omega), if_neg (by omega), if_pos (by omega), show 4 + k - 4 = k by omega]
theorem kS_12 (m : Mem) {k : Nat} (h : k < 8) : kS m (12 + k) = gI m (1, 10, 0) k := by
  unfold kS
  rw [if_neg (by omega), if_neg (by omega), if_neg (by omega), if_neg (by omega), if_neg (by omega), if_pos (by omega), show 12 + k - 12 = k by omega]
theorem kS_20 (m : Mem) {k : Nat} (h : k < 8) : kS m (20 + k) = gI m (1, 11, 0) k := by
  unfold kS
  rw [if_neg (by omega), if_neg (by omega), if_neg (by omega), if_neg (by omega), if_neg (by omega), if_neg (by omega), if_pos (by omega), show 20 + k - 20 = k by omega]
theorem kS_28 (m : Mem) {k : Nat} (h : k < 64) : kS m (28 + k) = gI m (1, 18, 0) k := by
  unfold kS
  rw [if_neg (by omega), if_neg (by omega), if_neg (by omega), if_neg (by omega), if_neg (by omega), if_neg (by omega), if_neg (by omega), if_pos (by omega), show 28 + k - 28 = k by omega]
theorem kS_92 (m : Mem) (k : Nat) : kS m (92 + k) = gI m (1, 12, 0) k := by
  unfold kS
  rw [if_neg (by omega), if_neg (by omega), if_neg (by omega), if_neg (by omega), if_neg (by omega), if_neg (by omega), if_neg (by omega), if_neg (by omega), show 92 + k - 92 = k by omega]
def Kq (b : Nat) (W : Nat → Prop) (m0 m : Mem) : Prop := Nx [] [13] m0 m ∧ (∀ x, W x → x < 580 → gI m (1, 13, 0) (b + x) = kS m0 x) ∧ ∀ j, j < b ∨ b + 580 ≤ j → gI m (1, 13, 0) j = gI m0 (1, 13, 0) j
theorem Kq.put {b : Nat} {W Q : Nat → Prop} {m0 m : Mem} {i x : Nat} {v : Int32} (H : Kq b W m0 m) (hx : x < 580) (hi : i = b + x) (hv : v = kS m0 x) (hp : ∀ y, Q y → W y ∨ y = x) : Kq b Q m0 (pI m (1, 13, 0) i v) := by
  subst hi; subst hv
  refine ⟨H.1.p1 (by simp), fun y q hy => ?_, fun j hj => ?_⟩
  · rw [rd11]
    by_cases z : y = x
    · rw [if_pos ⟨rfl, rfl, by omega⟩, z]
    · rw [if_neg (fun w => z (by have := w.2.2; omega))]
      exact H.2.1 y ((hp y q).resolve_right z) hy
  · rw [rd11, if_neg (fun w => by have := w.2.2; omega)]
    exact H.2.2 j hj
theorem Kq.rd {b : Nat} {W : Nat → Prop} {m0 m : Mem} (H : Kq b W m0 m) {t k : Nat} (ht : t ≠ 13) : gI m (1, t, 0) k = gI m0 (1, t, 0) k := H.1.2.2.2.2 t 0 k (by simp [ht])

theorem l_M_keep110 {d b : Nat} {m0 : Mem} {K : Option Vv → Mem → Prop} {w : Int32} (hb : b ≤ 1160) (h : ∀ m, Kq b (fun x => x < 572) m0 m → K (some (vi (gI m0 (1, 0, 0) 20))) m) (k : Nat) (m : Mem) (H : Kq b (fun x => x < 92 + k) m0 m) (hk : k ≤ 480) : Go (cW d) i_M_keep (0, 0) K 110 [vo 1 0 0, vi w, vi (nI b), vi (nI k)] [] m 0 0 := by
  have hR := H.1.ok
  have e0 : (nI k).toNatClampNeg = k := nI_clamp (by omega)
  refine Go.runR (callT_mono MT _) [110, 110] 200 hR ?_
  refine And.intro (fun c112 => ?_) (fun c112 => ?_)
  · try dsimp only at c112
    have hk2 := lq_e (n := 480) c112 rfl rfl hk (by omega)
    subst hk2
    refine And.intro trivial ?_
    rw [show gI m (1, 0, 0) 20 = gI m0 (1, 0, 0) 20 from H.rd (by decide)]
    exact h _ ⟨H.1, fun x _ hx => H.2.1 x (by omega) hx, H.2.2⟩
  · try dsimp only at c112
    have hk2 := lq_m (n := 480) c112 rfl rfl hk (by omega)
    refine And.intro ⟨rfl, rfl, rfl⟩ ?_
    refine And.intro ⟨rfl, rfl, rfl⟩ ?_
    refine And.intro (by exact vp_nI (k := k) (N := 480) (by omega) (by decide)) ?_
    refine And.intro (by show vp_in (nI b + 92 + nI k) 1740; rw [pk3 b k (c := 92) 92 rfl]; exact vp_nI (by omega) (by decide)) ?_
    have key : ∀ i v, i = b + (92 + k) → v = kS m0 (92 + k) → Go (cW d) i_M_keep (0, 0) K 110 [vo 1 0 0, vi w, vi (nI b), vi (nI k + 1)] [] (pI m (1, 13, 0) i v) 0 0 := fun i v yi yv => by
      exact go_eq (by rw [← nI_succ]) rfl (l_M_keep110 hb h (k + 1) _ (H.put (x := 92 + k) (by omega) yi yv (fun y hy => by omega)) hk2)
    exact key _ _ (by show (nI b + 92 + nI k).toNatClampNeg = b + (92 + k); rw [pk3 b k (c := 92) 92 rfl, nI_clamp (by omega)]) (by rw [e0, kS_92 m0 k]; exact H.rd (by decide))
termination_by 480 - k
decreasing_by all_goals omega

theorem l_M_keep91 {d b : Nat} {m0 : Mem} {K : Option Vv → Mem → Prop} {w : Int32} (hb : b ≤ 1160) (h : ∀ m, Kq b (fun x => x < 572) m0 m → K (some (vi (gI m0 (1, 0, 0) 20))) m) (k : Nat) (m : Mem) (H : Kq b (fun x => x < 28 + k) m0 m) (hk : k ≤ 64) : Go (cW d) i_M_keep (0, 0) K 91 [vo 1 0 0, vi w, vi (nI b), vi (nI k)] [] m 0 0 := by
  have hR := H.1.ok
  have e0 : (nI k).toNatClampNeg = k := nI_clamp (by omega)
  refine Go.runR (callT_mono MT _) [91, 110] 200 hR ?_
  refine And.intro (fun c93 => ?_) (fun c93 => ?_)
  · try dsimp only at c93
    have hk2 := lq_e (n := 64) c93 rfl rfl hk (by omega)
    subst hk2
    refine go_eq (ls' := [vo 1 0 0, vi w, vi (nI b), vi (nI 0)]) rfl rfl (l_M_keep110 hb h 0 m ⟨H.1, fun x _ hx => H.2.1 x (by omega) hx, H.2.2⟩ (by omega))
  · try dsimp only at c93
    have hk2 := lq_m (n := 64) c93 rfl rfl hk (by omega)
    refine And.intro ⟨rfl, rfl, rfl⟩ ?_
    refine And.intro ⟨rfl, rfl, rfl⟩ ?_
    refine And.intro (by exact vp_nI (k := k) (N := 64) (by omega) (by decide)) ?_
    refine And.intro (by show vp_in (nI b + 28 + nI k) 1740; rw [pk3 b k (c := 28) 28 rfl]; exact vp_nI (by omega) (by decide)) ?_
    have key : ∀ i v, i = b + (28 + k) → v = kS m0 (28 + k) → Go (cW d) i_M_keep (0, 0) K 91 [vo 1 0 0, vi w, vi (nI b), vi (nI k + 1)] [] (pI m (1, 13, 0) i v) 0 0 := fun i v yi yv => by
      exact go_eq (by rw [← nI_succ]) rfl (l_M_keep91 hb h (k + 1) _ (H.put (x := 28 + k) (by omega) yi yv (fun y hy => by omega)) hk2)
    exact key _ _ (by show (nI b + 28 + nI k).toNatClampNeg = b + (28 + k); rw [pk3 b k (c := 28) 28 rfl, nI_clamp (by omega)]) (by rw [e0, kS_28 m0 hk2]; exact H.rd (by decide))
termination_by 64 - k
decreasing_by all_goals omega

theorem l_M_keep48 {d b : Nat} {m0 : Mem} {K : Option Vv → Mem → Prop} {w : Int32} (hb : b ≤ 1160) (h : ∀ m, Kq b (fun x => x < 572) m0 m → K (some (vi (gI m0 (1, 0, 0) 20))) m) (k : Nat) (m : Mem) (H : Kq b (fun x => x < 4 + k ∨ (12 ≤ x ∧ x < 12 + k) ∨ (20 ≤ x ∧ x < 20 + k)) m0 m) (hk : k ≤ 8) : Go (cW d) i_M_keep (0, 0) K 48 [vo 1 0 0, vi w, vi (nI b), vi (nI k)] [] m 0 0 := by
  have hR := H.1.ok
  have e0 : (nI k).toNatClampNeg = k := nI_clamp (by omega)
  refine Go.runR (callT_mono MT _) [48, 91] 200 hR ?_
  refine And.intro (fun c50 => ?_) (fun c50 => ?_)
  · try dsimp only at c50
    have hk2 := lq_e (n := 8) c50 rfl rfl hk (by omega)
    subst hk2
    refine go_eq (ls' := [vo 1 0 0, vi w, vi (nI b), vi (nI 0)]) rfl rfl (l_M_keep91 hb h 0 m ⟨H.1, fun x _ hx => H.2.1 x (by omega) hx, H.2.2⟩ (by omega))
  · try dsimp only at c50
    have hk2 := lq_m (n := 8) c50 rfl rfl hk (by omega)
    refine And.intro ⟨rfl, rfl, rfl⟩ ?_
    refine And.intro ⟨rfl, rfl, rfl⟩ ?_
    refine And.intro (by exact vp_nI (k := k) (N := 16) (by omega) (by decide)) ?_
    refine And.intro (by show vp_in (nI b + 4 + nI k) 1740; rw [pk3 b k (c := 4) 4 rfl]; exact vp_nI (by omega) (by decide)) ?_
    refine And.intro ⟨rfl, rfl, rfl⟩ ?_
    refine And.intro ⟨rfl, rfl, rfl⟩ ?_
    refine And.intro (by exact vp_nI (k := k) (N := 8) (by omega) (by decide)) ?_
    refine And.intro (by show vp_in (nI b + 12 + nI k) 1740; rw [pk3 b k (c := 12) 12 rfl]; exact vp_nI (by omega) (by decide)) ?_
    refine And.intro ⟨rfl, rfl, rfl⟩ ?_
    refine And.intro ⟨rfl, rfl, rfl⟩ ?_
    refine And.intro (by exact vp_nI (k := k) (N := 8) (by omega) (by decide)) ?_
    refine And.intro (by show vp_in (nI b + 20 + nI k) 1740; rw [pk3 b k (c := 20) 20 rfl]; exact vp_nI (by omega) (by decide)) ?_
    have key : ∀ i1 i2 i3 v1 v2 v3, i1 = b + (4 + k) → i2 = b + (12 + k) → i3 = b + (20 + k) → v1 = kS m0 (4 + k) → v2 = kS m0 (12 + k) → v3 = kS m0 (20 + k) → Go (cW d) i_M_keep (0, 0) K 48 [vo 1 0 0, vi w, vi (nI b), vi (nI k + 1)] [] (pI (pI (pI m (1, 13, 0) i1 v1) (1, 13, 0) i2 v2) (1, 13, 0) i3 v3) 0 0 := fun i1 i2 i3 v1 v2 v3 a1 a2 a3 b1 b2 b3 => by
      have H1 := H.put (Q := fun x => x < 4 + (k + 1) ∨ (12 ≤ x ∧ x < 12 + k) ∨ (20 ≤ x ∧ x < 20 + k)) (x := 4 + k) (by omega) a1 b1 (fun y hy => by omega)
      have H2 := H1.put (Q := fun x => x < 4 + (k + 1) ∨ (12 ≤ x ∧ x < 12 + (k + 1)) ∨ (20 ≤ x ∧ x < 20 + k)) (x := 12 + k) (by omega) a2 b2 (fun y hy => by omega)
      exact go_eq (by rw [← nI_succ]) rfl (l_M_keep48 hb h (k + 1) _ (H2.put (x := 20 + k) (by omega) a3 b3 (fun y hy => by omega)) hk2)
    exact key _ _ _ _ _ _ (by show (nI b + 4 + nI k).toNatClampNeg = b + (4 + k); rw [pk3 b k (c := 4) 4 rfl, nI_clamp (by omega)]) (by show (nI b + 12 + nI k).toNatClampNeg = b + (12 + k); rw [pk3 b k (c := 12) 12 rfl, nI_clamp (by omega)]) (by show (nI b + 20 + nI k).toNatClampNeg = b + (20 + k); rw [pk3 b k (c := 20) 20 rfl, nI_clamp (by omega)]) (by rw [e0, kS_4 m0 hk2]; exact H.rd (by decide)) (by rw [e0, kS_12 m0 hk2, rd11, if_neg (by omega)]; exact H.rd (by decide)) (by rw [e0, kS_20 m0 hk2, rd11, if_neg (by omega), rd11, if_neg (by omega)]; exact H.rd (by decide))
termination_by 8 - k
decreasing_by all_goals omega

theorem m_M_keep1 {d n a : Nat} {m : Mem} {K : Option Vv → Mem → Prop} (hR : OKR m) (ha : a < 3) (hn : 0 < n) (h8 : n ≤ 8) (q2 : gI m (1, 0, 0) 10 = nI n) (h : ∀ m', Kq (580 * a) (fun x => x < 572) m m' → K (some (vi (gI m (1, 0, 0) 20))) m') : cW (d + 2) n_M_keep [vo 1 0 0, vi (nI a)] m K := by
  refine w_M_keep (Go.runR (callT_mono MT _) [48] 200 hR ?_)
  refine m_M_in (by repeat' (first | exact hR | apply OKR.pI | apply OKR.pL | apply OKR.cpI | apply OKR.wI)) (And.intro (by repeat' (first | exact hR | apply OKR.pI | apply OKR.pL | apply OKR.cpI | apply OKR.wI)) ?_)
  rw [show b2 (0 ≤ nI a ∧ nI a ≤ 2) = 1 from if_pos ⟨Int32.not_lt.mp (nI_pos (by omega)), nI_le (a := a) (b := 2) (by omega) (by omega)⟩]
  refine And.intro (fun c4 => ?_) (fun c4 => ?_)
  · first | exact absurd c4 (by decide) | exact absurd (by decide) c4 | (exfalso; grind)
  · try dsimp only at c4
    refine And.intro (fun c9 => ?_) (fun c9 => ?_)
    · exact absurd (show nI n = 0 from q2.symm.trans c9) (sz0 hn (by omega))
    · try dsimp only at c9
      refine And.intro ⟨rfl, rfl, rfl⟩ ?_
      refine And.intro (by show vp_in ((580 : Int32) * nI a) 1740; rw [pk580]; exact vp_nI (by omega) (by decide)) ?_
      refine And.intro ⟨rfl, rfl, rfl⟩ ?_
      refine And.intro (by show vp_in ((580 : Int32) * nI a + 1) 1740; rw [pk580, pk2 (580 * a) (c := 1) 1 rfl]; exact vp_nI (by omega) (by decide)) ?_
      refine And.intro ⟨rfl, rfl, rfl⟩ ?_
      refine And.intro (by show vp_in ((580 : Int32) * nI a + 2) 1740; rw [pk580, pk2 (580 * a) (c := 2) 2 rfl]; exact vp_nI (by omega) (by decide)) ?_
      refine And.intro ⟨rfl, rfl, rfl⟩ ?_
      refine And.intro (by show vp_in ((580 : Int32) * nI a + 3) 1740; rw [pk580, pk2 (580 * a) (c := 3) 3 rfl]; exact vp_nI (by omega) (by decide)) ?_
      have key : ∀ i0 i1 i2 i3 v0 v1 v2 v3, i0 = 580 * a + 0 → i1 = 580 * a + 1 → i2 = 580 * a + 2 → i3 = 580 * a + 3 → v0 = kS m 0 → v1 = kS m 1 → v2 = kS m 2 → v3 = kS m 3 → Go (cW (d + 1)) i_M_keep (0, 0) K 48 [vo 1 0 0, vi (nI a), vi ((580 : Int32) * nI a), vi 0] [] (pI (pI (pI (pI m (1, 13, 0) i0 v0) (1, 13, 0) i1 v1) (1, 13, 0) i2 v2) (1, 13, 0) i3 v3) 0 0 := fun i0 i1 i2 i3 v0 v1 v2 v3 a0 a1 a2 a3 b0 b1 b2 b3 => by
        have H0 : Kq (580 * a) (fun _ => False) m m := ⟨Nx.refl hR, fun _ z => absurd z id, fun _ _ => rfl⟩
        have H1 := H0.put (Q := fun x => x < 1) (x := 0) (by omega) a0 b0 (fun y hy => by omega)
        have H2 := H1.put (Q := fun x => x < 2) (x := 1) (by omega) a1 b1 (fun y hy => by omega)
        have H3 := H2.put (Q := fun x => x < 3) (x := 2) (by omega) a2 b2 (fun y hy => by omega)
        have H4 := H3.put (Q := fun x => x < 4 + 0 ∨ (12 ≤ x ∧ x < 12 + 0) ∨ (20 ≤ x ∧ x < 20 + 0)) (x := 3) (by omega) a3 b3 (fun y hy => by omega)
        exact go_eq (by rw [pk580]; rfl) rfl (l_M_keep48 (b := 580 * a) (by omega) h 0 _ H4 (by omega))
      exact key _ _ _ _ _ _ _ _ (by show ((580 : Int32) * nI a).toNatClampNeg = _; rw [pk580, nI_clamp (by omega)]; rfl) (by show ((580 : Int32) * nI a + 1).toNatClampNeg = _; rw [pk580, pk2 _ (c := 1) 1 rfl, nI_clamp (by omega)]) (by show ((580 : Int32) * nI a + 2).toNatClampNeg = _; rw [pk580, pk2 _ (c := 2) 2 rfl, nI_clamp (by omega)]) (by show ((580 : Int32) * nI a + 3).toNatClampNeg = _; rw [pk580, pk2 _ (c := 3) 3 rfl, nI_clamp (by omega)]) rfl (by rw [rd11, if_neg (by omega)]; rfl) (by rw [rd11, if_neg (by omega), rd11, if_neg (by omega)]; rfl) (by rw [rd11, if_neg (by omega), rd11, if_neg (by omega), rd11, if_neg (by omega)]; rfl)

def Oq (b k1 k2 k3 : Nat) (m0 m : Mem) : Prop := Nx [] [0, 9, 10, 11, 12, 18] m0 m ∧ (∀ q, gI m (1, 0, 0) q = if q = 20 then gI m0 (1, 13, 0) b else if q = 11 then gI m0 (1, 13, 0) (b + 1) else if q = 21 then gI m0 (1, 13, 0) (b + 2) else if q = 22 then gI m0 (1, 13, 0) (b + 3) else gI m0 (1, 0, 0) q) ∧ (∀ i, i < k1 → gI m (1, 9, 0) i = gI m0 (1, 13, 0) (b + (4 + i)) ∧ gI m (1, 10, 0) i = gI m0 (1, 13, 0) (b + (12 + i)) ∧ gI m (1, 11, 0) i = gI m0 (1, 13, 0) (b + (20 + i))) ∧ (∀ i, i < k2 → gI m (1, 18, 0) i = gI m0 (1, 13, 0) (b + (28 + i))) ∧ ∀ i, i < k3 → gI m (1, 12, 0) i = gI m0 (1, 13, 0) (b + (92 + i))
theorem Oq.rd {b k1 k2 k3 : Nat} {m0 m : Mem} (H : Oq b k1 k2 k3 m0 m) (k : Nat) : gI m (1, 13, 0) k = gI m0 (1, 13, 0) k := H.1.2.2.2.2 13 0 k (by simp)
theorem Oq.p1 {b k1 k2 k3 : Nat} {m0 m : Mem} (H : Oq b k1 k2 k3 m0 m) {v1 v2 v3 : Int32} (y1 : v1 = gI m0 (1, 13, 0) (b + (4 + k1))) (y2 : v2 = gI m0 (1, 13, 0) (b + (12 + k1))) (y3 : v3 = gI m0 (1, 13, 0) (b + (20 + k1))) : Oq b (k1 + 1) k2 k3 m0 (pI (pI (pI m (1, 9, 0) k1 v1) (1, 10, 0) k1 v2) (1, 11, 0) k1 v3) := by
  subst y1; subst y2; subst y3
  refine ⟨((H.1.p1 (by simp)).p1 (by simp)).p1 (by simp), H.2.1, fun i hi => ?_, H.2.2.2.1, H.2.2.2.2⟩
  by_cases z : i = k1
  · subst z
    refine ⟨?_, ?_, ?_⟩
    · rw [rd11, if_neg (by omega), rd11, if_neg (by omega), rd11, if_pos ⟨rfl, rfl, rfl⟩]
    · rw [rd11, if_neg (by omega), rd11, if_pos ⟨rfl, rfl, rfl⟩]
    · rw [rd11, if_pos ⟨rfl, rfl, rfl⟩]
  · have a := H.2.2.1 i (by omega)
    refine ⟨?_, ?_, ?_⟩
    · rw [rd11, if_neg (by omega), rd11, if_neg (by omega), rd11, if_neg (by omega)]
      exact a.1
    · rw [rd11, if_neg (by omega), rd11, if_neg (by omega), rd11, if_neg (by omega)]
      exact a.2.1
    · rw [rd11, if_neg (by omega), rd11, if_neg (by omega), rd11, if_neg (by omega)]
      exact a.2.2
theorem Oq.p2 {b k1 k2 k3 : Nat} {m0 m : Mem} (H : Oq b k1 k2 k3 m0 m) {v : Int32} (y : v = gI m0 (1, 13, 0) (b + (28 + k2))) : Oq b k1 (k2 + 1) k3 m0 (pI m (1, 18, 0) k2 v) := by
  subst y
  refine ⟨H.1.p1 (by simp), H.2.1, H.2.2.1, fun i hi => ?_, H.2.2.2.2⟩
  rw [rd11]
  by_cases z : i = k2
  · rw [if_pos ⟨rfl, rfl, z⟩, z]
  · rw [if_neg (fun w => z w.2.2)]
    exact H.2.2.2.1 i (by omega)
theorem Oq.p3 {b k1 k2 k3 : Nat} {m0 m : Mem} (H : Oq b k1 k2 k3 m0 m) {v : Int32} (y : v = gI m0 (1, 13, 0) (b + (92 + k3))) : Oq b k1 k2 (k3 + 1) m0 (pI m (1, 12, 0) k3 v) := by
  subst y
  refine ⟨H.1.p1 (by simp), H.2.1, H.2.2.1, H.2.2.2.1, fun i hi => ?_⟩
  rw [rd11]
  by_cases z : i = k3
  · rw [if_pos ⟨rfl, rfl, z⟩, z]
  · rw [if_neg (fun w => z w.2.2)]
    exact H.2.2.2.2 i (by omega)

theorem l_M_on115 {d b : Nat} {m0 : Mem} {K : Option Vv → Mem → Prop} {w : Int32} (hb : b ≤ 1160) (h : ∀ m, Oq b 8 64 480 m0 m → K (some (vi (gI m0 (1, 13, 0) b))) m) (k : Nat) (m : Mem) (H : Oq b 8 64 k m0 m) (hk : k ≤ 480) : Go (cW d) i_M_on (0, 0) K 115 [vo 1 0 0, vi w, vi (nI b), vi (nI k)] [] m 0 0 := by
  have hR := H.1.ok
  have e0 : (nI k).toNatClampNeg = k := nI_clamp (by omega)
  refine Go.runR (callT_mono MT _) [115, 115] 200 hR ?_
  refine And.intro (fun c117 => ?_) (fun c117 => ?_)
  · try dsimp only at c117
    have hk2 := lq_e (n := 480) c117 rfl rfl hk (by omega)
    subst hk2
    refine And.intro trivial ?_
    rw [show gI m (1, 0, 0) 20 = gI m0 (1, 13, 0) b from H.2.1 20]
    exact h _ H
  · try dsimp only at c117
    have hk2 := lq_m (n := 480) c117 rfl rfl hk (by omega)
    refine And.intro ⟨rfl, rfl, rfl⟩ ?_
    refine And.intro ⟨rfl, rfl, rfl⟩ ?_
    refine And.intro (by show vp_in (nI b + 92 + nI k) 1740; rw [pk3 b k (c := 92) 92 rfl]; exact vp_nI (by omega) (by decide)) ?_
    refine And.intro (by exact vp_nI (k := k) (N := 480) (by omega) (by decide)) ?_
    have key : ∀ i v, i = k → v = gI m0 (1, 13, 0) (b + (92 + k)) → Go (cW d) i_M_on (0, 0) K 115 [vo 1 0 0, vi w, vi (nI b), vi (nI k + 1)] [] (pI m (1, 12, 0) i v) 0 0 := fun i v yi yv => by
      subst yi
      exact go_eq (by rw [← nI_succ]) rfl (l_M_on115 hb h (i + 1) _ (H.p3 yv) hk2)
    exact key _ _ e0 (by dsimp only; rw [pk3 b k (c := 92) 92 rfl, nI_clamp (by omega)]; exact H.rd _)
termination_by 480 - k
decreasing_by all_goals omega

theorem l_M_on96 {d b : Nat} {m0 : Mem} {K : Option Vv → Mem → Prop} {w : Int32} (hb : b ≤ 1160) (h : ∀ m, Oq b 8 64 480 m0 m → K (some (vi (gI m0 (1, 13, 0) b))) m) (k : Nat) (m : Mem) (H : Oq b 8 k 0 m0 m) (hk : k ≤ 64) : Go (cW d) i_M_on (0, 0) K 96 [vo 1 0 0, vi w, vi (nI b), vi (nI k)] [] m 0 0 := by
  have hR := H.1.ok
  have e0 : (nI k).toNatClampNeg = k := nI_clamp (by omega)
  refine Go.runR (callT_mono MT _) [96, 115] 200 hR ?_
  refine And.intro (fun c98 => ?_) (fun c98 => ?_)
  · try dsimp only at c98
    have hk2 := lq_e (n := 64) c98 rfl rfl hk (by omega)
    subst hk2
    refine go_eq (ls' := [vo 1 0 0, vi w, vi (nI b), vi (nI 0)]) rfl rfl (l_M_on115 hb h 0 m H (by omega))
  · try dsimp only at c98
    have hk2 := lq_m (n := 64) c98 rfl rfl hk (by omega)
    refine And.intro ⟨rfl, rfl, rfl⟩ ?_
    refine And.intro ⟨rfl, rfl, rfl⟩ ?_
    refine And.intro (by show vp_in (nI b + 28 + nI k) 1740; rw [pk3 b k (c := 28) 28 rfl]; exact vp_nI (by omega) (by decide)) ?_
    refine And.intro (by exact vp_nI (k := k) (N := 64) (by omega) (by decide)) ?_
    have key : ∀ i v, i = k → v = gI m0 (1, 13, 0) (b + (28 + k)) → Go (cW d) i_M_on (0, 0) K 96 [vo 1 0 0, vi w, vi (nI b), vi (nI k + 1)] [] (pI m (1, 18, 0) i v) 0 0 := fun i v yi yv => by
      subst yi
      exact go_eq (by rw [← nI_succ]) rfl (l_M_on96 hb h (i + 1) _ (H.p2 yv) hk2)
    exact key _ _ e0 (by dsimp only; rw [pk3 b k (c := 28) 28 rfl, nI_clamp (by omega)]; exact H.rd _)
termination_by 64 - k
decreasing_by all_goals omega

theorem l_M_on53 {d b : Nat} {m0 : Mem} {K : Option Vv → Mem → Prop} {w : Int32} (hb : b ≤ 1160) (h : ∀ m, Oq b 8 64 480 m0 m → K (some (vi (gI m0 (1, 13, 0) b))) m) (k : Nat) (m : Mem) (H : Oq b k 0 0 m0 m) (hk : k ≤ 8) : Go (cW d) i_M_on (0, 0) K 53 [vo 1 0 0, vi w, vi (nI b), vi (nI k)] [] m 0 0 := by
  have hR := H.1.ok
  have e0 : (nI k).toNatClampNeg = k := nI_clamp (by omega)
  refine Go.runR (callT_mono MT _) [53, 96] 200 hR ?_
  refine And.intro (fun c55 => ?_) (fun c55 => ?_)
  · try dsimp only at c55
    have hk2 := lq_e (n := 8) c55 rfl rfl hk (by omega)
    subst hk2
    refine go_eq (ls' := [vo 1 0 0, vi w, vi (nI b), vi (nI 0)]) rfl rfl (l_M_on96 hb h 0 m H (by omega))
  · try dsimp only at c55
    have hk2 := lq_m (n := 8) c55 rfl rfl hk (by omega)
    refine And.intro ⟨rfl, rfl, rfl⟩ ?_
    refine And.intro ⟨rfl, rfl, rfl⟩ ?_
    refine And.intro (by show vp_in (nI b + 4 + nI k) 1740; rw [pk3 b k (c := 4) 4 rfl]; exact vp_nI (by omega) (by decide)) ?_
    refine And.intro (by exact vp_nI (k := k) (N := 16) (by omega) (by decide)) ?_
    refine And.intro ⟨rfl, rfl, rfl⟩ ?_
    refine And.intro ⟨rfl, rfl, rfl⟩ ?_
    refine And.intro (by show vp_in (nI b + 12 + nI k) 1740; rw [pk3 b k (c := 12) 12 rfl]; exact vp_nI (by omega) (by decide)) ?_
    refine And.intro (by exact vp_nI (k := k) (N := 8) (by omega) (by decide)) ?_
    refine And.intro ⟨rfl, rfl, rfl⟩ ?_
    refine And.intro ⟨rfl, rfl, rfl⟩ ?_
    refine And.intro (by show vp_in (nI b + 20 + nI k) 1740; rw [pk3 b k (c := 20) 20 rfl]; exact vp_nI (by omega) (by decide)) ?_
    refine And.intro (by exact vp_nI (k := k) (N := 8) (by omega) (by decide)) ?_
    have key : ∀ i v1 v2 v3, i = k → v1 = gI m0 (1, 13, 0) (b + (4 + k)) → v2 = gI m0 (1, 13, 0) (b + (12 + k)) → v3 = gI m0 (1, 13, 0) (b + (20 + k)) → Go (cW d) i_M_on (0, 0) K 53 [vo 1 0 0, vi w, vi (nI b), vi (nI k + 1)] [] (pI (pI (pI m (1, 9, 0) i v1) (1, 10, 0) i v2) (1, 11, 0) i v3) 0 0 := fun i v1 v2 v3 yi y1 y2 y3 => by
      subst yi
      exact go_eq (by rw [← nI_succ]) rfl (l_M_on53 hb h (i + 1) _ (H.p1 y1 y2 y3) hk2)
    exact key _ _ _ _ e0 (by dsimp only; rw [pk3 b k (c := 4) 4 rfl, nI_clamp (by omega)]; exact H.rd _) (by dsimp only; rw [pk3 b k (c := 12) 12 rfl, nI_clamp (n := b + (12 + k)) (by omega), rd11, if_neg (by omega)]; exact H.rd _) (by dsimp only; rw [pk3 b k (c := 20) 20 rfl, nI_clamp (n := b + (20 + k)) (by omega), rd11, if_neg (by omega), rd11, if_neg (by omega)]; exact H.rd _)
termination_by 8 - k
decreasing_by all_goals omega

theorem m_M_on1 {d a : Nat} {m : Mem} {K : Option Vv → Mem → Prop} (hR : OKR m) (ha : a < 3) (q2 : ¬ gI m (1, 13, 0) (580 * a) = -9) (h : ∀ m', Oq (580 * a) 8 64 480 m m' → K (some (vi (gI m (1, 13, 0) (580 * a)))) m') : cW (d + 2) n_M_on [vo 1 0 0, vi (nI a)] m K := by
  have e0 : ((580 : Int32) * nI a).toNatClampNeg = 580 * a := by rw [pk580, nI_clamp (by omega)]
  have e1 : ((580 : Int32) * nI a + 1).toNatClampNeg = 580 * a + 1 := by rw [pk580, pk2 _ (c := 1) 1 rfl, nI_clamp (by omega)]
  have e2 : ((580 : Int32) * nI a + 2).toNatClampNeg = 580 * a + 2 := by rw [pk580, pk2 _ (c := 2) 2 rfl, nI_clamp (by omega)]
  have e3 : ((580 : Int32) * nI a + 3).toNatClampNeg = 580 * a + 3 := by rw [pk580, pk2 _ (c := 3) 3 rfl, nI_clamp (by omega)]
  refine w_M_on (Go.runR (callT_mono MT _) [53] 200 hR ?_)
  refine m_M_in (by repeat' (first | exact hR | apply OKR.pI | apply OKR.pL | apply OKR.cpI | apply OKR.wI)) (And.intro (by repeat' (first | exact hR | apply OKR.pI | apply OKR.pL | apply OKR.cpI | apply OKR.wI)) ?_)
  rw [show b2 (0 ≤ nI a ∧ nI a ≤ 2) = 1 from if_pos ⟨Int32.not_lt.mp (nI_pos (by omega)), nI_le (a := a) (b := 2) (by omega) (by omega)⟩]
  refine And.intro (fun c4 => ?_) (fun c4 => ?_)
  · first | exact absurd c4 (by decide) | exact absurd (by decide) c4 | (exfalso; grind)
  · try dsimp only at c4
    refine And.intro ⟨rfl, rfl, rfl⟩ ?_
    refine And.intro (by show vp_in ((580 : Int32) * nI a) 1740; rw [pk580]; exact vp_nI (by omega) (by decide)) ?_
    refine And.intro (fun c16 => ?_) (fun c16 => ?_)
    · exact absurd (show gI m (1, 13, 0) (580 * a) = -9 by rw [← e0]; exact c16) q2
    · try dsimp only at c16
      refine And.intro ⟨rfl, rfl, rfl⟩ ?_
      refine And.intro (by show vp_in ((580 : Int32) * nI a) 1740; rw [pk580]; exact vp_nI (by omega) (by decide)) ?_
      refine And.intro ⟨rfl, rfl, rfl⟩ ?_
      refine And.intro (by show vp_in ((580 : Int32) * nI a + 1) 1740; rw [pk580, pk2 (580 * a) (c := 1) 1 rfl]; exact vp_nI (by omega) (by decide)) ?_
      refine And.intro ⟨rfl, rfl, rfl⟩ ?_
      refine And.intro (by show vp_in ((580 : Int32) * nI a + 2) 1740; rw [pk580, pk2 (580 * a) (c := 2) 2 rfl]; exact vp_nI (by omega) (by decide)) ?_
      refine And.intro ⟨rfl, rfl, rfl⟩ ?_
      refine And.intro (by show vp_in ((580 : Int32) * nI a + 3) 1740; rw [pk580, pk2 (580 * a) (c := 3) 3 rfl]; exact vp_nI (by omega) (by decide)) ?_
      have key : ∀ v0 v1 v2 v3, v0 = gI m (1, 13, 0) (580 * a) → v1 = gI m (1, 13, 0) (580 * a + 1) → v2 = gI m (1, 13, 0) (580 * a + 2) → v3 = gI m (1, 13, 0) (580 * a + 3) → Go (cW (d + 1)) i_M_on (0, 0) K 53 [vo 1 0 0, vi (nI a), vi ((580 : Int32) * nI a), vi 0] [] (pI (pI (pI (pI m (1, 0, 0) 20 v0) (1, 0, 0) 11 v1) (1, 0, 0) 21 v2) (1, 0, 0) 22 v3) 0 0 := fun v0 v1 v2 v3 b0 b1 b2 b3 => by
        subst b0; subst b1; subst b2; subst b3
        refine go_eq (ls' := [vo 1 0 0, vi (nI a), vi (nI (580 * a)), vi (nI 0)]) (by rw [pk580]; rfl) rfl (l_M_on53 (b := 580 * a) (by omega) h 0 _ ⟨((((Nx.refl hR).p1 (by simp)).p1 (by simp)).p1 (by simp)).p1 (by simp), fun q => ?_, fun i hi => absurd hi (by omega), fun i hi => absurd hi (by omega), fun i hi => absurd hi (by omega)⟩ (by omega))
        rw [rd11, rd11, rd11, rd11]
        by_cases z1 : q = 20
        · simp [z1]
        · by_cases z2 : q = 11
          · simp [z2]
          · by_cases z3 : q = 21
            · simp [z3]
            · by_cases z4 : q = 22
              · simp [z4]
              · simp [z1, z2, z3, z4]
      exact key _ _ _ _ (by dsimp only; rw [e0]) (by dsimp only; rw [e1, rd11, if_neg (by omega)]) (by dsimp only; rw [e2, rd11, if_neg (by omega), rd11, if_neg (by omega)]) (by dsimp only; rw [e3, rd11, if_neg (by omega), rd11, if_neg (by omega), rd11, if_neg (by omega)])

theorem m_X_isKeptPlace {d : Nat} {m : Mem} {K : Option Vv → Mem → Prop} {v : Int32} (hR : OKR m) (h : K (some (vi (b2 (0 ≤ v ∧ v ≤ 2)))) m) : cW (d + 1) n_X_isKeptPlace [vo 0 0 0, vi v] m K := by
  refine w_X_isKeptPlace (Go.runR (callT_mono MT _) [] 200 hR ?_)
  refine And.intro (fun c1 => ?_) (fun c1 => ?_)
  · try dsimp only at c1
    refine And.intro (by first | exact Or.inl rfl | exact Or.inr rfl | grind) ?_
    exact kvi (by first | exact (if_pos (by grind)) | exact (if_neg (by grind)) | exact (if_pos (by grind)).symm | exact (if_neg (by grind)).symm) h
  · try dsimp only at c1
    refine And.intro ⟨(by first | decide | assumption | omega), (by first | decide | assumption | omega)⟩ ?_
    refine And.intro (fun c6 => ?_) (fun c6 => ?_)
    · try dsimp only at c6
      have c7 : (3 : Int32) ≤ v := c6
      refine And.intro (by first | exact Or.inl rfl | exact Or.inr rfl | grind) ?_
      exact kvi (by first | exact (if_pos (by grind)) | exact (if_neg (by grind)) | exact (if_pos (by grind)).symm | exact (if_neg (by grind)).symm) h
    · try dsimp only at c6
      have c7 : ¬ (3 : Int32) ≤ v := c6
      refine And.intro (by first | exact Or.inl rfl | exact Or.inr rfl | grind) ?_
      exact kvi (by first | exact (if_pos (by grind)) | exact (if_neg (by grind)) | exact (if_pos (by grind)).symm | exact (if_neg (by grind)).symm) h
