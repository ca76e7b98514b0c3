/-! Written by a program (wip/whole/p90.py): the law's calls. -/
theorem Int64_cmp {a b : Int64} (e : a = b) : lg_cmp a b = 0 := by
  subst e
  unfold lg_cmp
  first
  | (rw [if_pos rfl]; done)
  | (rw [if_neg (Int64.lt_irrefl _), if_neg (Int64.lt_irrefl _)]; done)
  | simp

set_option maxRecDepth 20000 in
theorem l_L_row {L i : Nat} {K : Option Vv → Mem → Prop} (hL : L ≤ 3072) (hi : i + 6 ≤ L) {m : Mem} (R : RelAB m) (h : ∀ m', RelAB m' → Go (cW 11) i_L_law (450, 8070) K 968 [vo 2 0 L, vo 0 0 0, vo 1 0 0, vi (nI i)] [] m' 450 8070) : Go (cW 11) i_L_law (450, 8070) K 22 [vo 2 0 L, vo 0 0 0, vo 1 0 0, vi (nI i)] [] m 450 8070 := by
  have hX := cW_int (d := 10) (r := r_X_row) rfl (by decide +kernel) (p_row (d := 8) (K := fun u w m2 => RelAB m2 ∧ u = w) R (r := gI m (2, 0, L) (nI i + 1).toNatClampNeg) (n := gI m (2, 0, L) (nI i + 2).toNatClampNeg) (fun v m' R' => ⟨R', rfl⟩))
  refine Go.run (callT_mono MT _) [968] 100 ?_
  refine And.intro (vpk (c := 1) hL hi (by decide) rfl) ?_
  refine And.intro (vpk (c := 2) hL hi (by decide) rfl) ?_
  refine callT_mono MT 11 _ _ _ _ _ (fun u m1 hu => ?_) hX
  obtain ⟨⟨hM, hs⟩, a, rfl⟩ := hu
  rw [← scr_eq hs L (nI i + 1).toNatClampNeg, ← scr_eq hs L (nI i + 2).toNatClampNeg] at hM
  have hM2 := cW_int (d := 10) (r := r_M_row) rfl (by decide +kernel) hM
  refine And.intro (vpk (c := 1) hL hi (by decide) rfl) ?_
  refine And.intro (vpk (c := 2) hL hi (by decide) rfl) ?_
  refine callT_mono MT 11 _ _ _ _ _ (fun w m2 hw => ?_) hM2
  obtain ⟨⟨⟨R', ew⟩, -⟩, b, rfl⟩ := hw
  refine And.intro (fun c => h m2 R') (fun c => ?_)
  exact absurd (show a = b from Sum.inl.inj (Option.some.inj ew)) c

set_option maxRecDepth 20000 in
theorem l_L_copy {L i : Nat} {K : Option Vv → Mem → Prop} (hL : L ≤ 3072) (hi : i + 6 ≤ L) {m : Mem} (R : RelAB m) (h : ∀ m', RelAB m' → Go (cW 11) i_L_law (450, 8070) K 968 [vo 2 0 L, vo 0 0 0, vo 1 0 0, vi (nI i)] [] m' 450 8070) : Go (cW 11) i_L_law (450, 8070) K 130 [vo 2 0 L, vo 0 0 0, vo 1 0 0, vi (nI i)] [] m 450 8070 := by
  have hX := cW_int (d := 10) (r := r_X_copy) rfl (by decide +kernel) (p_copy (d := 6) (K := fun u w m2 => RelAB m2 ∧ u = w) R (r := gI m (2, 0, L) (nI i + 1).toNatClampNeg) (i := gI m (2, 0, L) (nI i + 2).toNatClampNeg) (t := gI m (2, 0, L) (nI i + 3).toNatClampNeg) (j := gI m (2, 0, L) (nI i + 4).toNatClampNeg) (c' := gI m (2, 0, L) (nI i + 5).toNatClampNeg) (fun v m' R' => ⟨R', rfl⟩))
  refine Go.run (callT_mono MT _) [968] 100 ?_
  refine And.intro (vpk (c := 1) hL hi (by decide) rfl) ?_
  refine And.intro (vpk (c := 2) hL hi (by decide) rfl) ?_
  refine And.intro (vpk (c := 3) hL hi (by decide) rfl) ?_
  refine And.intro (vpk (c := 4) hL hi (by decide) rfl) ?_
  refine And.intro (vpk (c := 5) hL hi (by decide) rfl) ?_
  refine callT_mono MT 11 _ _ _ _ _ (fun u m1 hu => ?_) hX
  obtain ⟨⟨hM, hs⟩, a, rfl⟩ := hu
  rw [← scr_eq hs L (nI i + 1).toNatClampNeg, ← scr_eq hs L (nI i + 2).toNatClampNeg, ← scr_eq hs L (nI i + 3).toNatClampNeg, ← scr_eq hs L (nI i + 4).toNatClampNeg, ← scr_eq hs L (nI i + 5).toNatClampNeg] at hM
  have hM2 := cW_int (d := 10) (r := r_M_copy) rfl (by decide +kernel) hM
  refine And.intro (vpk (c := 1) hL hi (by decide) rfl) ?_
  refine And.intro (vpk (c := 2) hL hi (by decide) rfl) ?_
  refine And.intro (vpk (c := 3) hL hi (by decide) rfl) ?_
  refine And.intro (vpk (c := 4) hL hi (by decide) rfl) ?_
  refine And.intro (vpk (c := 5) hL hi (by decide) rfl) ?_
  refine callT_mono MT 11 _ _ _ _ _ (fun w m2 hw => ?_) hM2
  obtain ⟨⟨⟨R', ew⟩, -⟩, b, rfl⟩ := hw
  refine And.intro (fun c => h m2 R') (fun c => ?_)
  exact absurd (show a = b from Sum.inl.inj (Option.some.inj ew)) c

set_option maxRecDepth 20000 in
theorem l_L_wedding {L i : Nat} {K : Option Vv → Mem → Prop} (hL : L ≤ 3072) (hi : i + 6 ≤ L) {m : Mem} (R : RelAB m) (h : ∀ m', RelAB m' → Go (cW 11) i_L_law (450, 8070) K 968 [vo 2 0 L, vo 0 0 0, vo 1 0 0, vi (nI i)] [] m' 450 8070) : Go (cW 11) i_L_law (450, 8070) K 689 [vo 2 0 L, vo 0 0 0, vo 1 0 0, vi (nI i)] [] m 450 8070 := by
  have hX := cW_int (d := 10) (r := r_X_wedding) rfl (by decide +kernel) (p_wedding (d := 5) (K := fun u w m2 => RelAB m2 ∧ u = w) R (v := gI m (2, 0, L) (nI i + 1).toNatClampNeg) (fun v m' R' => ⟨R', rfl⟩))
  refine Go.run (callT_mono MT _) [968] 100 ?_
  refine And.intro (vpk (c := 1) hL hi (by decide) rfl) ?_
  refine callT_mono MT 11 _ _ _ _ _ (fun u m1 hu => ?_) hX
  obtain ⟨⟨hM, hs⟩, a, rfl⟩ := hu
  rw [← scr_eq hs L (nI i + 1).toNatClampNeg] at hM
  have hM2 := cW_int (d := 10) (r := r_M_wedding) rfl (by decide +kernel) hM
  refine And.intro (vpk (c := 1) hL hi (by decide) rfl) ?_
  refine callT_mono MT 11 _ _ _ _ _ (fun w m2 hw => ?_) hM2
  obtain ⟨⟨⟨R', ew⟩, -⟩, b, rfl⟩ := hw
  refine And.intro (fun c => h m2 R') (fun c => ?_)
  exact absurd (show a = b from Sum.inl.inj (Option.some.inj ew)) c

set_option maxRecDepth 20000 in
theorem l_L_asked {L i : Nat} {K : Option Vv → Mem → Prop} (hL : L ≤ 3072) (hi : i + 6 ≤ L) {m : Mem} (R : RelAB m) (h : ∀ m', RelAB m' → Go (cW 11) i_L_law (450, 8070) K 968 [vo 2 0 L, vo 0 0 0, vo 1 0 0, vi (nI i)] [] m' 450 8070) : Go (cW 11) i_L_law (450, 8070) K 896 [vo 2 0 L, vo 0 0 0, vo 1 0 0, vi (nI i)] [] m 450 8070 := by
  have hX := cW_int (d := 10) (r := r_X_asked) rfl (by decide +kernel) (p_asked (d := 10) (K := fun u w m2 => RelAB m2 ∧ u = w) R  (fun v m' R' => ⟨R', rfl⟩))
  refine Go.run (callT_mono MT _) [968] 100 ?_
  skip
  refine callT_mono MT 11 _ _ _ _ _ (fun u m1 hu => ?_) hX
  obtain ⟨⟨hM, hs⟩, a, rfl⟩ := hu
  have hM2 := cW_int (d := 10) (r := r_M_asked) rfl (by decide +kernel) hM
  skip
  refine callT_mono MT 11 _ _ _ _ _ (fun w m2 hw => ?_) hM2
  obtain ⟨⟨⟨R', ew⟩, -⟩, b, rfl⟩ := hw
  refine And.intro (fun c => h m2 R') (fun c => ?_)
  exact absurd (show a = b from Sum.inl.inj (Option.some.inj ew)) c

set_option maxRecDepth 20000 in
theorem l_L_digest {L i : Nat} {K : Option Vv → Mem → Prop} (hL : L ≤ 3072) (hi : i + 6 ≤ L) {m : Mem} (R : RelAB m) (h : ∀ m', RelAB m' → Go (cW 11) i_L_law (450, 8070) K 968 [vo 2 0 L, vo 0 0 0, vo 1 0 0, vi (nI i)] [] m' 450 8070) : Go (cW 11) i_L_law (450, 8070) K 960 [vo 2 0 L, vo 0 0 0, vo 1 0 0, vi (nI i)] [] m 450 8070 := by
  have hX := cW_long (d := 10) (r := r_X_digest) rfl (by decide +kernel) (p_digest (d := 5) (K := fun u w m2 => RelAB m2 ∧ u = w) R  (fun v m' R' => ⟨R', rfl⟩))
  refine Go.run (callT_mono MT _) [968] 100 ?_
  skip
  refine callT_mono MT 11 _ _ _ _ _ (fun u m1 hu => ?_) hX
  obtain ⟨⟨hM, hs⟩, a, rfl⟩ := hu
  have hM2 := cW_long (d := 10) (r := r_M_digest) rfl (by decide +kernel) hM
  skip
  refine callT_mono MT 11 _ _ _ _ _ (fun w m2 hw => ?_) hM2
  obtain ⟨⟨⟨R', ew⟩, -⟩, b, rfl⟩ := hw
  refine And.intro (fun c => h m2 R') (fun c => ?_)
  exact absurd (Int64_cmp (show a = b from Sum.inl.inj (Sum.inr.inj (Option.some.inj ew)))) c
