/-! Written by a program (wip/whole/p90.py): the law's calls. -/
theorem Int64_cmp {a b : Int64} (e : a = b) : lg_cmp a b = 0 := by
  subst e
  unfold lg_cmp
  first
  | (rw [if_pos rfl]; done)
  | (rw [if_neg (Int64.lt_irrefl _), if_neg (Int64.lt_irrefl _)]; done)
  | simp

set_option maxRecDepth 20000 in
theorem l_L_row {L i : Nat} {K : Option Vv → Mem → Prop} (hL : L ≤ 3072) (hi : i + 6 ≤ L) {m : Mem} (R : RelAB m) (h : ∀ m', RelAB m' → Go (cW 11) i_L_law (450, 8070) K 968 [vo 2 0 L, vo 0 0 0, vo 1 0 0, vi (nI i)] [] m' 450 8070) : Go (cW 11) i_L_law (450, 8070) K 22 [vo 2 0 L, vo 0 0 0, vo 1 0 0, vi (nI i)] [] m 450 8070 := by
  have hX := cW_int (d := 10) (r := r_X_row) rfl (by decide +kernel) (p_row (d := 8) (K := fun u w m2 => RelAB m2 ∧ u = w) R (r := gI m (2, 0, L) (nI i + 1).toNatClampNeg) (n := gI m (2, 0, L) (nI i + 2).toNatClampNeg) (fun v m' R' => ⟨R', rfl⟩))
  refine Go.run (callT_mono MT _) [968] 100 ?_
  refine And.intro (vpk (c := 1) hL hi (by decide) rfl) ?_
  refine And.intro (vpk (c := 2) hL hi (by decide) rfl) ?_
  refine callT_mono MT 11 _ _ _ _ _ (fun u m1 hu => ?_) hX
  obtain ⟨⟨hM, hs⟩, a, rfl⟩ := hu
  rw [← scr_eq hs L (nI i + 1).toNatClampNeg, ← scr_eq hs L (nI i + 2).toNatClampNeg] at hM
  have hM2 := cW_int (d := 10) (r := r_M_row) rfl (by decide +kernel) hM
  refine And.intro (vpk (c := 1) hL hi (by decide) rfl) ?_
  refine And.intro (vpk (c := 2) hL hi (by decide) rfl) ?_
  refine callT_mono MT 11 _ _ _ _ _ (fun w m2 hw => ?_) hM2
  obtain ⟨⟨⟨R', ew⟩, -⟩, b, rfl⟩ := hw
  refine And.intro (fun c => h m2 R') (fun c => ?_)
  exact absurd (show a = b from Sum.inl.inj (Option.some.inj ew)) c

set_option maxRecDepth 20000 in
theorem l_L_lay {L i : Nat} {K : Option Vv → Mem → Prop} (hL : L ≤ 3072) (hi : i + 6 ≤ L) {m : Mem} (R : RelAB m) (h : ∀ m', RelAB m' → Go (cW 11) i_L_law (450, 8070) K 968 [vo 2 0 L, vo 0 0 0, vo 1 0 0, vi (nI i)] [] m' 450 8070) : Go (cW 11) i_L_law (450, 8070) K 49 [vo 2 0 L, vo 0 0 0, vo 1 0 0, vi (nI i)] [] m 450 8070 := by
  have hX := cW_int (d := 10) (r := r_X_lay) rfl (by decide +kernel) (p_lay (d := 6) (K := fun u w m2 => RelAB m2 ∧ u = w) R (r := gI m (2, 0, L) (nI i + 1).toNatClampNeg) (i := gI m (2, 0, L) (nI i + 2).toNatClampNeg) (v := gI m (2, 0, L) (nI i + 3).toNatClampNeg) (fun v m' R' => ⟨R', rfl⟩))
  refine Go.run (callT_mono MT _) [968] 100 ?_
  refine And.intro (vpk (c := 1) hL hi (by decide) rfl) ?_
  refine And.intro (vpk (c := 2) hL hi (by decide) rfl) ?_
  refine And.intro (vpk (c := 3) hL hi (by decide) rfl) ?_
  refine callT_mono MT 11 _ _ _ _ _ (fun u m1 hu => ?_) hX
  obtain ⟨⟨hM, hs⟩, a, rfl⟩ := hu
  rw [← scr_eq hs L (nI i + 1).toNatClampNeg, ← scr_eq hs L (nI i + 2).toNatClampNeg, ← scr_eq hs L (nI i + 3).toNatClampNeg] at hM
  have hM2 := cW_int (d := 10) (r := r_M_lay) rfl (by decide +kernel) hM
  refine And.intro (vpk (c := 1) hL hi (by decide) rfl) ?_
  refine And.intro (vpk (c := 2) hL hi (by decide) rfl) ?_
  refine And.intro (vpk (c := 3) hL hi (by decide) rfl) ?_
  refine callT_mono MT 11 _ _ _ _ _ (fun w m2 hw => ?_) hM2
  obtain ⟨⟨⟨R', ew⟩, -⟩, b, rfl⟩ := hw
  refine And.intro (fun c => h m2 R') (fun c => ?_)
  exact absurd (show a = b from Sum.inl.inj (Option.some.inj ew)) c

set_option maxRecDepth 20000 in
theorem l_L_at {L i : Nat} {K : Option Vv → Mem → Prop} (hL : L ≤ 3072) (hi : i + 6 ≤ L) {m : Mem} (R : RelAB m) (h : ∀ m', RelAB m' → Go (cW 11) i_L_law (450, 8070) K 968 [vo 2 0 L, vo 0 0 0, vo 1 0 0, vi (nI i)] [] m' 450 8070) : Go (cW 11) i_L_law (450, 8070) K 86 [vo 2 0 L, vo 0 0 0, vo 1 0 0, vi (nI i)] [] m 450 8070 := by
  have hX := cW_int (d := 10) (r := r_X_at) rfl (by decide +kernel) (p_at (d := 7) (K := fun u w m2 => RelAB m2 ∧ u = w) R (r := gI m (2, 0, L) (nI i + 1).toNatClampNeg) (i := gI m (2, 0, L) (nI i + 2).toNatClampNeg) (fun v m' R' => ⟨R', rfl⟩))
  refine Go.run (callT_mono MT _) [968] 100 ?_
  refine And.intro (vpk (c := 1) hL hi (by decide) rfl) ?_
  refine And.intro (vpk (c := 2) hL hi (by decide) rfl) ?_
  refine callT_mono MT 11 _ _ _ _ _ (fun u m1 hu => ?_) hX
  obtain ⟨⟨hM, hs⟩, a, rfl⟩ := hu
  rw [← scr_eq hs L (nI i + 1).toNatClampNeg, ← scr_eq hs L (nI i + 2).toNatClampNeg] at hM
  have hM2 := cW_int (d := 10) (r := r_M_at) rfl (by decide +kernel) hM
  refine And.intro (vpk (c := 1) hL hi (by decide) rfl) ?_
  refine And.intro (vpk (c := 2) hL hi (by decide) rfl) ?_
  refine callT_mono MT 11 _ _ _ _ _ (fun w m2 hw => ?_) hM2
  obtain ⟨⟨⟨R', ew⟩, -⟩, b, rfl⟩ := hw
  refine And.intro (fun c => h m2 R') (fun c => ?_)
  exact absurd (show a = b from Sum.inl.inj (Option.some.inj ew)) c

set_option maxRecDepth 20000 in
theorem l_L_tear {L i : Nat} {K : Option Vv → Mem → Prop} (hL : L ≤ 3072) (hi : i + 6 ≤ L) {m : Mem} (R : RelAB m) (h : ∀ m', RelAB m' → Go (cW 11) i_L_law (450, 8070) K 968 [vo 2 0 L, vo 0 0 0, vo 1 0 0, vi (nI i)] [] m' 450 8070) : Go (cW 11) i_L_law (450, 8070) K 113 [vo 2 0 L, vo 0 0 0, vo 1 0 0, vi (nI i)] [] m 450 8070 := by
  have hX := cW_int (d := 10) (r := r_X_tear) rfl (by decide +kernel) (p_tear (d := 7) (K := fun u w m2 => RelAB m2 ∧ u = w) R (r := gI m (2, 0, L) (nI i + 1).toNatClampNeg) (fun v m' R' => ⟨R', rfl⟩))
  refine Go.run (callT_mono MT _) [968] 100 ?_
  refine And.intro (vpk (c := 1) hL hi (by decide) rfl) ?_
  refine callT_mono MT 11 _ _ _ _ _ (fun u m1 hu => ?_) hX
  obtain ⟨⟨hM, hs⟩, a, rfl⟩ := hu
  rw [← scr_eq hs L (nI i + 1).toNatClampNeg] at hM
  have hM2 := cW_int (d := 10) (r := r_M_tear) rfl (by decide +kernel) hM
  refine And.intro (vpk (c := 1) hL hi (by decide) rfl) ?_
  refine callT_mono MT 11 _ _ _ _ _ (fun w m2 hw => ?_) hM2
  obtain ⟨⟨⟨R', ew⟩, -⟩, b, rfl⟩ := hw
  refine And.intro (fun c => h m2 R') (fun c => ?_)
  exact absurd (show a = b from Sum.inl.inj (Option.some.inj ew)) c

set_option maxRecDepth 20000 in
theorem l_L_copy {L i : Nat} {K : Option Vv → Mem → Prop} (hL : L ≤ 3072) (hi : i + 6 ≤ L) {m : Mem} (R : RelAB m) (h : ∀ m', RelAB m' → Go (cW 11) i_L_law (450, 8070) K 968 [vo 2 0 L, vo 0 0 0, vo 1 0 0, vi (nI i)] [] m' 450 8070) : Go (cW 11) i_L_law (450, 8070) K 130 [vo 2 0 L, vo 0 0 0, vo 1 0 0, vi (nI i)] [] m 450 8070 := by
  have hX := cW_int (d := 10) (r := r_X_copy) rfl (by decide +kernel) (p_copy (d := 6) (K := fun u w m2 => RelAB m2 ∧ u = w) R (r := gI m (2, 0, L) (nI i + 1).toNatClampNeg) (i := gI m (2, 0, L) (nI i + 2).toNatClampNeg) (t := gI m (2, 0, L) (nI i + 3).toNatClampNeg) (j := gI m (2, 0, L) (nI i + 4).toNatClampNeg) (c' := gI m (2, 0, L) (nI i + 5).toNatClampNeg) (fun v m' R' => ⟨R', rfl⟩))
  refine Go.run (callT_mono MT _) [968] 100 ?_
  refine And.intro (vpk (c := 1) hL hi (by decide) rfl) ?_
  refine And.intro (vpk (c := 2) hL hi (by decide) rfl) ?_
  refine And.intro (vpk (c := 3) hL hi (by decide) rfl) ?_
  refine And.intro (vpk (c := 4) hL hi (by decide) rfl) ?_
  refine And.intro (vpk (c := 5) hL hi (by decide) rfl) ?_
  refine callT_mono MT 11 _ _ _ _ _ (fun u m1 hu => ?_) hX
  obtain ⟨⟨hM, hs⟩, a, rfl⟩ := hu
  rw [← scr_eq hs L (nI i + 1).toNatClampNeg, ← scr_eq hs L (nI i + 2).toNatClampNeg, ← scr_eq hs L (nI i + 3).toNatClampNeg, ← scr_eq hs L (nI i + 4).toNatClampNeg, ← scr_eq hs L (nI i + 5).toNatClampNeg] at hM
  have hM2 := cW_int (d := 10) (r := r_M_copy) rfl (by decide +kernel) hM
  refine And.intro (vpk (c := 1) hL hi (by decide) rfl) ?_
  refine And.intro (vpk (c := 2) hL hi (by decide) rfl) ?_
  refine And.intro (vpk (c := 3) hL hi (by decide) rfl) ?_
  refine And.intro (vpk (c := 4) hL hi (by decide) rfl) ?_
  refine And.intro (vpk (c := 5) hL hi (by decide) rfl) ?_
  refine callT_mono MT 11 _ _ _ _ _ (fun w m2 hw => ?_) hM2
  obtain ⟨⟨⟨R', ew⟩, -⟩, b, rfl⟩ := hw
  refine And.intro (fun c => h m2 R') (fun c => ?_)
  exact absurd (show a = b from Sum.inl.inj (Option.some.inj ew)) c

set_option maxRecDepth 20000 in
theorem l_L_mean {L i : Nat} {K : Option Vv → Mem → Prop} (hL : L ≤ 3072) (hi : i + 6 ≤ L) {m : Mem} (R : RelAB m) (h : ∀ m', RelAB m' → Go (cW 11) i_L_law (450, 8070) K 968 [vo 2 0 L, vo 0 0 0, vo 1 0 0, vi (nI i)] [] m' 450 8070) : Go (cW 11) i_L_law (450, 8070) K 187 [vo 2 0 L, vo 0 0 0, vo 1 0 0, vi (nI i)] [] m 450 8070 := by
  have hX := cW_int (d := 10) (r := r_X_mean) rfl (by decide +kernel) (p_mean (d := 7) (K := fun u w m2 => RelAB m2 ∧ u = w) R (r := gI m (2, 0, L) (nI i + 1).toNatClampNeg) (fun v m' R' => ⟨R', rfl⟩))
  refine Go.run (callT_mono MT _) [968] 100 ?_
  refine And.intro (vpk (c := 1) hL hi (by decide) rfl) ?_
  refine callT_mono MT 11 _ _ _ _ _ (fun u m1 hu => ?_) hX
  obtain ⟨⟨hM, hs⟩, a, rfl⟩ := hu
  rw [← scr_eq hs L (nI i + 1).toNatClampNeg] at hM
  have hM2 := cW_int (d := 10) (r := r_M_mean) rfl (by decide +kernel) hM
  refine And.intro (vpk (c := 1) hL hi (by decide) rfl) ?_
  refine callT_mono MT 11 _ _ _ _ _ (fun w m2 hw => ?_) hM2
  obtain ⟨⟨⟨R', ew⟩, -⟩, b, rfl⟩ := hw
  refine And.intro (fun c => h m2 R') (fun c => ?_)
  exact absurd (show a = b from Sum.inl.inj (Option.some.inj ew)) c

set_option maxRecDepth 20000 in
theorem l_L_text {L i : Nat} {K : Option Vv → Mem → Prop} (hL : L ≤ 3072) (hi : i + 6 ≤ L) {m : Mem} (R : RelAB m) (h : ∀ m', RelAB m' → Go (cW 11) i_L_law (450, 8070) K 968 [vo 2 0 L, vo 0 0 0, vo 1 0 0, vi (nI i)] [] m' 450 8070) : Go (cW 11) i_L_law (450, 8070) K 204 [vo 2 0 L, vo 0 0 0, vo 1 0 0, vi (nI i)] [] m 450 8070 := by
  have hX := cW_int (d := 10) (r := r_X_text) rfl (by decide +kernel) (p_text (d := 8) (K := fun u w m2 => RelAB m2 ∧ u = w) R (r := gI m (2, 0, L) (nI i + 1).toNatClampNeg) (n := gI m (2, 0, L) (nI i + 2).toNatClampNeg) (fun v m' R' => ⟨R', rfl⟩))
  refine Go.run (callT_mono MT _) [968] 100 ?_
  refine And.intro (vpk (c := 1) hL hi (by decide) rfl) ?_
  refine And.intro (vpk (c := 2) hL hi (by decide) rfl) ?_
  refine callT_mono MT 11 _ _ _ _ _ (fun u m1 hu => ?_) hX
  obtain ⟨⟨hM, hs⟩, a, rfl⟩ := hu
  rw [← scr_eq hs L (nI i + 1).toNatClampNeg, ← scr_eq hs L (nI i + 2).toNatClampNeg] at hM
  have hM2 := cW_int (d := 10) (r := r_M_text) rfl (by decide +kernel) hM
  refine And.intro (vpk (c := 1) hL hi (by decide) rfl) ?_
  refine And.intro (vpk (c := 2) hL hi (by decide) rfl) ?_
  refine callT_mono MT 11 _ _ _ _ _ (fun w m2 hw => ?_) hM2
  obtain ⟨⟨⟨R', ew⟩, -⟩, b, rfl⟩ := hw
  refine And.intro (fun c => h m2 R') (fun c => ?_)
  exact absurd (show a = b from Sum.inl.inj (Option.some.inj ew)) c

set_option maxRecDepth 20000 in
theorem l_L_put {L i : Nat} {K : Option Vv → Mem → Prop} (hL : L ≤ 3072) (hi : i + 6 ≤ L) {m : Mem} (R : RelAB m) (h : ∀ m', RelAB m' → Go (cW 11) i_L_law (450, 8070) K 968 [vo 2 0 L, vo 0 0 0, vo 1 0 0, vi (nI i)] [] m' 450 8070) : Go (cW 11) i_L_law (450, 8070) K 231 [vo 2 0 L, vo 0 0 0, vo 1 0 0, vi (nI i)] [] m 450 8070 := by
  have hX := cW_int (d := 10) (r := r_X_put) rfl (by decide +kernel) (p_put (d := 6) (K := fun u w m2 => RelAB m2 ∧ u = w) R (r := gI m (2, 0, L) (nI i + 1).toNatClampNeg) (i := gI m (2, 0, L) (nI i + 2).toNatClampNeg) (v := gI m (2, 0, L) (nI i + 3).toNatClampNeg) (fun v m' R' => ⟨R', rfl⟩))
  refine Go.run (callT_mono MT _) [968] 100 ?_
  refine And.intro (vpk (c := 1) hL hi (by decide) rfl) ?_
  refine And.intro (vpk (c := 2) hL hi (by decide) rfl) ?_
  refine And.intro (vpk (c := 3) hL hi (by decide) rfl) ?_
  refine callT_mono MT 11 _ _ _ _ _ (fun u m1 hu => ?_) hX
  obtain ⟨⟨hM, hs⟩, a, rfl⟩ := hu
  rw [← scr_eq hs L (nI i + 1).toNatClampNeg, ← scr_eq hs L (nI i + 2).toNatClampNeg, ← scr_eq hs L (nI i + 3).toNatClampNeg] at hM
  have hM2 := cW_int (d := 10) (r := r_M_put) rfl (by decide +kernel) hM
  refine And.intro (vpk (c := 1) hL hi (by decide) rfl) ?_
  refine And.intro (vpk (c := 2) hL hi (by decide) rfl) ?_
  refine And.intro (vpk (c := 3) hL hi (by decide) rfl) ?_
  refine callT_mono MT 11 _ _ _ _ _ (fun w m2 hw => ?_) hM2
  obtain ⟨⟨⟨R', ew⟩, -⟩, b, rfl⟩ := hw
  refine And.intro (fun c => h m2 R') (fun c => ?_)
  exact absurd (show a = b from Sum.inl.inj (Option.some.inj ew)) c

set_option maxRecDepth 20000 in
theorem l_L_fault {L i : Nat} {K : Option Vv → Mem → Prop} (hL : L ≤ 3072) (hi : i + 6 ≤ L) {m : Mem} (R : RelAB m) (h : ∀ m', RelAB m' → Go (cW 11) i_L_law (450, 8070) K 968 [vo 2 0 L, vo 0 0 0, vo 1 0 0, vi (nI i)] [] m' 450 8070) : Go (cW 11) i_L_law (450, 8070) K 268 [vo 2 0 L, vo 0 0 0, vo 1 0 0, vi (nI i)] [] m 450 8070 := by
  have hX := cW_int (d := 10) (r := r_X_fault) rfl (by decide +kernel) (p_fault (d := 5) (K := fun u w m2 => RelAB m2 ∧ u = w) R (r := gI m (2, 0, L) (nI i + 1).toNatClampNeg) (fun v m' R' => ⟨R', rfl⟩))
  refine Go.run (callT_mono MT _) [968] 100 ?_
  refine And.intro (vpk (c := 1) hL hi (by decide) rfl) ?_
  refine callT_mono MT 11 _ _ _ _ _ (fun u m1 hu => ?_) hX
  obtain ⟨⟨hM, hs⟩, a, rfl⟩ := hu
  rw [← scr_eq hs L (nI i + 1).toNatClampNeg] at hM
  have hM2 := cW_int (d := 10) (r := r_M_fault) rfl (by decide +kernel) hM
  refine And.intro (vpk (c := 1) hL hi (by decide) rfl) ?_
  refine callT_mono MT 11 _ _ _ _ _ (fun w m2 hw => ?_) hM2
  obtain ⟨⟨⟨R', ew⟩, -⟩, b, rfl⟩ := hw
  refine And.intro (fun c => h m2 R') (fun c => ?_)
  exact absurd (show a = b from Sum.inl.inj (Option.some.inj ew)) c

set_option maxRecDepth 20000 in
theorem l_L_street {L i : Nat} {K : Option Vv → Mem → Prop} (hL : L ≤ 3072) (hi : i + 6 ≤ L) {m : Mem} (R : RelAB m) (h : ∀ m', RelAB m' → Go (cW 11) i_L_law (450, 8070) K 968 [vo 2 0 L, vo 0 0 0, vo 1 0 0, vi (nI i)] [] m' 450 8070) : Go (cW 11) i_L_law (450, 8070) K 285 [vo 2 0 L, vo 0 0 0, vo 1 0 0, vi (nI i)] [] m 450 8070 := by
  have hX := cW_int (d := 10) (r := r_X_street) rfl (by decide +kernel) (p_street (d := 5) (K := fun u w m2 => RelAB m2 ∧ u = w) R (r := gI m (2, 0, L) (nI i + 1).toNatClampNeg) (fun v m' R' => ⟨R', rfl⟩))
  refine Go.run (callT_mono MT _) [968] 100 ?_
  refine And.intro (vpk (c := 1) hL hi (by decide) rfl) ?_
  refine callT_mono MT 11 _ _ _ _ _ (fun u m1 hu => ?_) hX
  obtain ⟨⟨hM, hs⟩, a, rfl⟩ := hu
  rw [← scr_eq hs L (nI i + 1).toNatClampNeg] at hM
  have hM2 := cW_int (d := 10) (r := r_M_street) rfl (by decide +kernel) hM
  refine And.intro (vpk (c := 1) hL hi (by decide) rfl) ?_
  refine callT_mono MT 11 _ _ _ _ _ (fun w m2 hw => ?_) hM2
  obtain ⟨⟨⟨R', ew⟩, -⟩, b, rfl⟩ := hw
  refine And.intro (fun c => h m2 R') (fun c => ?_)
  exact absurd (show a = b from Sum.inl.inj (Option.some.inj ew)) c

set_option maxRecDepth 20000 in
theorem l_L_house {L i : Nat} {K : Option Vv → Mem → Prop} (hL : L ≤ 3072) (hi : i + 6 ≤ L) {m : Mem} (R : RelAB m) (h : ∀ m', RelAB m' → Go (cW 11) i_L_law (450, 8070) K 968 [vo 2 0 L, vo 0 0 0, vo 1 0 0, vi (nI i)] [] m' 450 8070) : Go (cW 11) i_L_law (450, 8070) K 302 [vo 2 0 L, vo 0 0 0, vo 1 0 0, vi (nI i)] [] m 450 8070 := by
  have hX := cW_int (d := 10) (r := r_X_house) rfl (by decide +kernel) (p_house (d := 7) (K := fun u w m2 => RelAB m2 ∧ u = w) R (i := gI m (2, 0, L) (nI i + 1).toNatClampNeg) (v := gI m (2, 0, L) (nI i + 2).toNatClampNeg) (fun v m' R' => ⟨R', rfl⟩))
  refine Go.run (callT_mono MT _) [968] 100 ?_
  refine And.intro (vpk (c := 1) hL hi (by decide) rfl) ?_
  refine And.intro (vpk (c := 2) hL hi (by decide) rfl) ?_
  refine callT_mono MT 11 _ _ _ _ _ (fun u m1 hu => ?_) hX
  obtain ⟨⟨hM, hs⟩, a, rfl⟩ := hu
  rw [← scr_eq hs L (nI i + 1).toNatClampNeg, ← scr_eq hs L (nI i + 2).toNatClampNeg] at hM
  have hM2 := cW_int (d := 10) (r := r_M_house) rfl (by decide +kernel) hM
  refine And.intro (vpk (c := 1) hL hi (by decide) rfl) ?_
  refine And.intro (vpk (c := 2) hL hi (by decide) rfl) ?_
  refine callT_mono MT 11 _ _ _ _ _ (fun w m2 hw => ?_) hM2
  obtain ⟨⟨⟨R', ew⟩, -⟩, b, rfl⟩ := hw
  refine And.intro (fun c => h m2 R') (fun c => ?_)
  exact absurd (show a = b from Sum.inl.inj (Option.some.inj ew)) c

set_option maxRecDepth 20000 in
theorem l_L_mark {L i : Nat} {K : Option Vv → Mem → Prop} (hL : L ≤ 3072) (hi : i + 6 ≤ L) {m : Mem} (R : RelAB m) (h : ∀ m', RelAB m' → Go (cW 11) i_L_law (450, 8070) K 968 [vo 2 0 L, vo 0 0 0, vo 1 0 0, vi (nI i)] [] m' 450 8070) : Go (cW 11) i_L_law (450, 8070) K 329 [vo 2 0 L, vo 0 0 0, vo 1 0 0, vi (nI i)] [] m 450 8070 := by
  have hX := cW_int (d := 10) (r := r_X_mark) rfl (by decide +kernel) (p_mark (d := 5) (K := fun u w m2 => RelAB m2 ∧ u = w) R (i := gI m (2, 0, L) (nI i + 1).toNatClampNeg) (v := gI m (2, 0, L) (nI i + 2).toNatClampNeg) (fun v m' R' => ⟨R', rfl⟩))
  refine Go.run (callT_mono MT _) [968] 100 ?_
  refine And.intro (vpk (c := 1) hL hi (by decide) rfl) ?_
  refine And.intro (vpk (c := 2) hL hi (by decide) rfl) ?_
  refine callT_mono MT 11 _ _ _ _ _ (fun u m1 hu => ?_) hX
  obtain ⟨⟨hM, hs⟩, a, rfl⟩ := hu
  rw [← scr_eq hs L (nI i + 1).toNatClampNeg, ← scr_eq hs L (nI i + 2).toNatClampNeg] at hM
  have hM2 := cW_int (d := 10) (r := r_M_mark) rfl (by decide +kernel) hM
  refine And.intro (vpk (c := 1) hL hi (by decide) rfl) ?_
  refine And.intro (vpk (c := 2) hL hi (by decide) rfl) ?_
  refine callT_mono MT 11 _ _ _ _ _ (fun w m2 hw => ?_) hM2
  obtain ⟨⟨⟨R', ew⟩, -⟩, b, rfl⟩ := hw
  refine And.intro (fun c => h m2 R') (fun c => ?_)
  exact absurd (show a = b from Sum.inl.inj (Option.some.inj ew)) c

set_option maxRecDepth 20000 in
theorem l_L_altar {L i : Nat} {K : Option Vv → Mem → Prop} (hL : L ≤ 3072) (hi : i + 6 ≤ L) {m : Mem} (R : RelAB m) (h : ∀ m', RelAB m' → Go (cW 11) i_L_law (450, 8070) K 968 [vo 2 0 L, vo 0 0 0, vo 1 0 0, vi (nI i)] [] m' 450 8070) : Go (cW 11) i_L_law (450, 8070) K 356 [vo 2 0 L, vo 0 0 0, vo 1 0 0, vi (nI i)] [] m 450 8070 := by
  have hX := cW_int (d := 10) (r := r_X_altar) rfl (by decide +kernel) (p_altar (d := 9) (K := fun u w m2 => RelAB m2 ∧ u = w) R (v := gI m (2, 0, L) (nI i + 1).toNatClampNeg) (fun v m' R' => ⟨R', rfl⟩))
  refine Go.run (callT_mono MT _) [968] 100 ?_
  refine And.intro (vpk (c := 1) hL hi (by decide) rfl) ?_
  refine callT_mono MT 11 _ _ _ _ _ (fun u m1 hu => ?_) hX
  obtain ⟨⟨hM, hs⟩, a, rfl⟩ := hu
  rw [← scr_eq hs L (nI i + 1).toNatClampNeg] at hM
  have hM2 := cW_int (d := 10) (r := r_M_altar) rfl (by decide +kernel) hM
  refine And.intro (vpk (c := 1) hL hi (by decide) rfl) ?_
  refine callT_mono MT 11 _ _ _ _ _ (fun w m2 hw => ?_) hM2
  obtain ⟨⟨⟨R', ew⟩, -⟩, b, rfl⟩ := hw
  refine And.intro (fun c => h m2 R') (fun c => ?_)
  exact absurd (show a = b from Sum.inl.inj (Option.some.inj ew)) c

set_option maxRecDepth 20000 in
theorem l_L_wall {L i : Nat} {K : Option Vv → Mem → Prop} (hL : L ≤ 3072) (hi : i + 6 ≤ L) {m : Mem} (R : RelAB m) (h : ∀ m', RelAB m' → Go (cW 11) i_L_law (450, 8070) K 968 [vo 2 0 L, vo 0 0 0, vo 1 0 0, vi (nI i)] [] m' 450 8070) : Go (cW 11) i_L_law (450, 8070) K 373 [vo 2 0 L, vo 0 0 0, vo 1 0 0, vi (nI i)] [] m 450 8070 := by
  have hX := cW_int (d := 10) (r := r_X_wall) rfl (by decide +kernel) (p_wall (d := 8) (K := fun u w m2 => RelAB m2 ∧ u = w) R (i := gI m (2, 0, L) (nI i + 1).toNatClampNeg) (v := gI m (2, 0, L) (nI i + 2).toNatClampNeg) (fun v m' R' => ⟨R', rfl⟩))
  refine Go.run (callT_mono MT _) [968] 100 ?_
  refine And.intro (vpk (c := 1) hL hi (by decide) rfl) ?_
  refine And.intro (vpk (c := 2) hL hi (by decide) rfl) ?_
  refine callT_mono MT 11 _ _ _ _ _ (fun u m1 hu => ?_) hX
  obtain ⟨⟨hM, hs⟩, a, rfl⟩ := hu
  rw [← scr_eq hs L (nI i + 1).toNatClampNeg, ← scr_eq hs L (nI i + 2).toNatClampNeg] at hM
  have hM2 := cW_int (d := 10) (r := r_M_wall) rfl (by decide +kernel) hM
  refine And.intro (vpk (c := 1) hL hi (by decide) rfl) ?_
  refine And.intro (vpk (c := 2) hL hi (by decide) rfl) ?_
  refine callT_mono MT 11 _ _ _ _ _ (fun w m2 hw => ?_) hM2
  obtain ⟨⟨⟨R', ew⟩, -⟩, b, rfl⟩ := hw
  refine And.intro (fun c => h m2 R') (fun c => ?_)
  exact absurd (show a = b from Sum.inl.inj (Option.some.inj ew)) c

set_option maxRecDepth 20000 in
theorem l_L_hour {L i : Nat} {K : Option Vv → Mem → Prop} (hL : L ≤ 3072) (hi : i + 6 ≤ L) {m : Mem} (R : RelAB m) (h : ∀ m', RelAB m' → Go (cW 11) i_L_law (450, 8070) K 968 [vo 2 0 L, vo 0 0 0, vo 1 0 0, vi (nI i)] [] m' 450 8070) : Go (cW 11) i_L_law (450, 8070) K 400 [vo 2 0 L, vo 0 0 0, vo 1 0 0, vi (nI i)] [] m 450 8070 := by
  have hX := cW_int (d := 10) (r := r_X_hour) rfl (by decide +kernel) (p_hour (d := 2) (K := fun u w m2 => RelAB m2 ∧ u = w) R (v := gI m (2, 0, L) (nI i + 1).toNatClampNeg) (fun v m' R' => ⟨R', rfl⟩))
  refine Go.run (callT_mono MT _) [968] 100 ?_
  refine And.intro (vpk (c := 1) hL hi (by decide) rfl) ?_
  refine callT_mono MT 11 _ _ _ _ _ (fun u m1 hu => ?_) hX
  obtain ⟨⟨hM, hs⟩, a, rfl⟩ := hu
  rw [← scr_eq hs L (nI i + 1).toNatClampNeg] at hM
  have hM2 := cW_int (d := 10) (r := r_M_hour) rfl (by decide +kernel) hM
  refine And.intro (vpk (c := 1) hL hi (by decide) rfl) ?_
  refine callT_mono MT 11 _ _ _ _ _ (fun w m2 hw => ?_) hM2
  obtain ⟨⟨⟨R', ew⟩, -⟩, b, rfl⟩ := hw
  refine And.intro (fun c => h m2 R') (fun c => ?_)
  exact absurd (show a = b from Sum.inl.inj (Option.some.inj ew)) c

set_option maxRecDepth 20000 in
theorem l_L_undo {L i : Nat} {K : Option Vv → Mem → Prop} (hL : L ≤ 3072) (hi : i + 6 ≤ L) {m : Mem} (R : RelAB m) (h : ∀ m', RelAB m' → Go (cW 11) i_L_law (450, 8070) K 968 [vo 2 0 L, vo 0 0 0, vo 1 0 0, vi (nI i)] [] m' 450 8070) : Go (cW 11) i_L_law (450, 8070) K 417 [vo 2 0 L, vo 0 0 0, vo 1 0 0, vi (nI i)] [] m 450 8070 := by
  have hX := cW_int (d := 10) (r := r_X_undo) rfl (by decide +kernel) (p_undo (d := 6) (K := fun u w m2 => RelAB m2 ∧ u = w) R (v := gI m (2, 0, L) (nI i + 1).toNatClampNeg) (fun v m' R' => ⟨R', rfl⟩))
  refine Go.run (callT_mono MT _) [968] 100 ?_
  refine And.intro (vpk (c := 1) hL hi (by decide) rfl) ?_
  refine callT_mono MT 11 _ _ _ _ _ (fun u m1 hu => ?_) hX
  obtain ⟨⟨hM, hs⟩, a, rfl⟩ := hu
  rw [← scr_eq hs L (nI i + 1).toNatClampNeg] at hM
  have hM2 := cW_int (d := 10) (r := r_M_undo) rfl (by decide +kernel) hM
  refine And.intro (vpk (c := 1) hL hi (by decide) rfl) ?_
  refine callT_mono MT 11 _ _ _ _ _ (fun w m2 hw => ?_) hM2
  obtain ⟨⟨⟨R', ew⟩, -⟩, b, rfl⟩ := hw
  refine And.intro (fun c => h m2 R') (fun c => ?_)
  exact absurd (show a = b from Sum.inl.inj (Option.some.inj ew)) c

set_option maxRecDepth 20000 in
theorem l_L_jar {L i : Nat} {K : Option Vv → Mem → Prop} (hL : L ≤ 3072) (hi : i + 6 ≤ L) {m : Mem} (R : RelAB m) (h : ∀ m', RelAB m' → Go (cW 11) i_L_law (450, 8070) K 968 [vo 2 0 L, vo 0 0 0, vo 1 0 0, vi (nI i)] [] m' 450 8070) : Go (cW 11) i_L_law (450, 8070) K 434 [vo 2 0 L, vo 0 0 0, vo 1 0 0, vi (nI i)] [] m 450 8070 := by
  have hX := cW_int (d := 10) (r := r_X_jar) rfl (by decide +kernel) (p_jar (d := 9) (K := fun u w m2 => RelAB m2 ∧ u = w) R  (fun v m' R' => ⟨R', rfl⟩))
  refine Go.run (callT_mono MT _) [968] 100 ?_
  skip
  refine callT_mono MT 11 _ _ _ _ _ (fun u m1 hu => ?_) hX
  obtain ⟨⟨hM, hs⟩, a, rfl⟩ := hu
  have hM2 := cW_int (d := 10) (r := r_M_jar) rfl (by decide +kernel) hM
  skip
  refine callT_mono MT 11 _ _ _ _ _ (fun w m2 hw => ?_) hM2
  obtain ⟨⟨⟨R', ew⟩, -⟩, b, rfl⟩ := hw
  refine And.intro (fun c => h m2 R') (fun c => ?_)
  exact absurd (show a = b from Sum.inl.inj (Option.some.inj ew)) c

set_option maxRecDepth 20000 in
theorem l_L_loud {L i : Nat} {K : Option Vv → Mem → Prop} (hL : L ≤ 3072) (hi : i + 6 ≤ L) {m : Mem} (R : RelAB m) (h : ∀ m', RelAB m' → Go (cW 11) i_L_law (450, 8070) K 968 [vo 2 0 L, vo 0 0 0, vo 1 0 0, vi (nI i)] [] m' 450 8070) : Go (cW 11) i_L_law (450, 8070) K 441 [vo 2 0 L, vo 0 0 0, vo 1 0 0, vi (nI i)] [] m 450 8070 := by
  have hX := cW_int (d := 10) (r := r_X_loud) rfl (by decide +kernel) (p_loud (d := 7) (K := fun u w m2 => RelAB m2 ∧ u = w) R (t := gI m (2, 0, L) (nI i + 1).toNatClampNeg) (fun v m' R' => ⟨R', rfl⟩))
  refine Go.run (callT_mono MT _) [968] 100 ?_
  refine And.intro (vpk (c := 1) hL hi (by decide) rfl) ?_
  refine callT_mono MT 11 _ _ _ _ _ (fun u m1 hu => ?_) hX
  obtain ⟨⟨hM, hs⟩, a, rfl⟩ := hu
  rw [← scr_eq hs L (nI i + 1).toNatClampNeg] at hM
  have hM2 := cW_int (d := 10) (r := r_M_loud) rfl (by decide +kernel) hM
  refine And.intro (vpk (c := 1) hL hi (by decide) rfl) ?_
  refine callT_mono MT 11 _ _ _ _ _ (fun w m2 hw => ?_) hM2
  obtain ⟨⟨⟨R', ew⟩, -⟩, b, rfl⟩ := hw
  refine And.intro (fun c => h m2 R') (fun c => ?_)
  exact absurd (show a = b from Sum.inl.inj (Option.some.inj ew)) c

set_option maxRecDepth 20000 in
theorem l_L_made {L i : Nat} {K : Option Vv → Mem → Prop} (hL : L ≤ 3072) (hi : i + 6 ≤ L) {m : Mem} (R : RelAB m) (h : ∀ m', RelAB m' → Go (cW 11) i_L_law (450, 8070) K 968 [vo 2 0 L, vo 0 0 0, vo 1 0 0, vi (nI i)] [] m' 450 8070) : Go (cW 11) i_L_law (450, 8070) K 458 [vo 2 0 L, vo 0 0 0, vo 1 0 0, vi (nI i)] [] m 450 8070 := by
  have hX := cW_int (d := 10) (r := r_X_made) rfl (by decide +kernel) (p_made (d := 8) (K := fun u w m2 => RelAB m2 ∧ u = w) R (i := gI m (2, 0, L) (nI i + 1).toNatClampNeg) (fun v m' R' => ⟨R', rfl⟩))
  refine Go.run (callT_mono MT _) [968] 100 ?_
  refine And.intro (vpk (c := 1) hL hi (by decide) rfl) ?_
  refine callT_mono MT 11 _ _ _ _ _ (fun u m1 hu => ?_) hX
  obtain ⟨⟨hM, hs⟩, a, rfl⟩ := hu
  rw [← scr_eq hs L (nI i + 1).toNatClampNeg] at hM
  have hM2 := cW_int (d := 10) (r := r_M_made) rfl (by decide +kernel) hM
  refine And.intro (vpk (c := 1) hL hi (by decide) rfl) ?_
  refine callT_mono MT 11 _ _ _ _ _ (fun w m2 hw => ?_) hM2
  obtain ⟨⟨⟨R', ew⟩, -⟩, b, rfl⟩ := hw
  refine And.intro (fun c => h m2 R') (fun c => ?_)
  exact absurd (show a = b from Sum.inl.inj (Option.some.inj ew)) c

set_option maxRecDepth 20000 in
theorem l_L_tithe {L i : Nat} {K : Option Vv → Mem → Prop} (hL : L ≤ 3072) (hi : i + 6 ≤ L) {m : Mem} (R : RelAB m) (h : ∀ m', RelAB m' → Go (cW 11) i_L_law (450, 8070) K 968 [vo 2 0 L, vo 0 0 0, vo 1 0 0, vi (nI i)] [] m' 450 8070) : Go (cW 11) i_L_law (450, 8070) K 475 [vo 2 0 L, vo 0 0 0, vo 1 0 0, vi (nI i)] [] m 450 8070 := by
  have hX := cW_int (d := 10) (r := r_X_tithe) rfl (by decide +kernel) (p_tithe (d := 6) (K := fun u w m2 => RelAB m2 ∧ u = w) R (i := gI m (2, 0, L) (nI i + 1).toNatClampNeg) (fun v m' R' => ⟨R', rfl⟩))
  refine Go.run (callT_mono MT _) [968] 100 ?_
  refine And.intro (vpk (c := 1) hL hi (by decide) rfl) ?_
  refine callT_mono MT 11 _ _ _ _ _ (fun u m1 hu => ?_) hX
  obtain ⟨⟨hM, hs⟩, a, rfl⟩ := hu
  rw [← scr_eq hs L (nI i + 1).toNatClampNeg] at hM
  have hM2 := cW_int (d := 10) (r := r_M_tithe) rfl (by decide +kernel) hM
  refine And.intro (vpk (c := 1) hL hi (by decide) rfl) ?_
  refine callT_mono MT 11 _ _ _ _ _ (fun w m2 hw => ?_) hM2
  obtain ⟨⟨⟨R', ew⟩, -⟩, b, rfl⟩ := hw
  refine And.intro (fun c => h m2 R') (fun c => ?_)
  exact absurd (show a = b from Sum.inl.inj (Option.some.inj ew)) c

set_option maxRecDepth 20000 in
theorem l_L_pay {L i : Nat} {K : Option Vv → Mem → Prop} (hL : L ≤ 3072) (hi : i + 6 ≤ L) {m : Mem} (R : RelAB m) (h : ∀ m', RelAB m' → Go (cW 11) i_L_law (450, 8070) K 968 [vo 2 0 L, vo 0 0 0, vo 1 0 0, vi (nI i)] [] m' 450 8070) : Go (cW 11) i_L_law (450, 8070) K 492 [vo 2 0 L, vo 0 0 0, vo 1 0 0, vi (nI i)] [] m 450 8070 := by
  have hX := cW_int (d := 10) (r := r_X_pay) rfl (by decide +kernel) (p_pay (d := 8) (K := fun u w m2 => RelAB m2 ∧ u = w) R (i := gI m (2, 0, L) (nI i + 1).toNatClampNeg) (v := gI m (2, 0, L) (nI i + 2).toNatClampNeg) (fun v m' R' => ⟨R', rfl⟩))
  refine Go.run (callT_mono MT _) [968] 100 ?_
  refine And.intro (vpk (c := 1) hL hi (by decide) rfl) ?_
  refine And.intro (vpk (c := 2) hL hi (by decide) rfl) ?_
  refine callT_mono MT 11 _ _ _ _ _ (fun u m1 hu => ?_) hX
  obtain ⟨⟨hM, hs⟩, a, rfl⟩ := hu
  rw [← scr_eq hs L (nI i + 1).toNatClampNeg, ← scr_eq hs L (nI i + 2).toNatClampNeg] at hM
  have hM2 := cW_int (d := 10) (r := r_M_pay) rfl (by decide +kernel) hM
  refine And.intro (vpk (c := 1) hL hi (by decide) rfl) ?_
  refine And.intro (vpk (c := 2) hL hi (by decide) rfl) ?_
  refine callT_mono MT 11 _ _ _ _ _ (fun w m2 hw => ?_) hM2
  obtain ⟨⟨⟨R', ew⟩, -⟩, b, rfl⟩ := hw
  refine And.intro (fun c => h m2 R') (fun c => ?_)
  exact absurd (show a = b from Sum.inl.inj (Option.some.inj ew)) c

set_option maxRecDepth 20000 in
theorem l_L_due {L i : Nat} {K : Option Vv → Mem → Prop} (hL : L ≤ 3072) (hi : i + 6 ≤ L) {m : Mem} (R : RelAB m) (h : ∀ m', RelAB m' → Go (cW 11) i_L_law (450, 8070) K 968 [vo 2 0 L, vo 0 0 0, vo 1 0 0, vi (nI i)] [] m' 450 8070) : Go (cW 11) i_L_law (450, 8070) K 519 [vo 2 0 L, vo 0 0 0, vo 1 0 0, vi (nI i)] [] m 450 8070 := by
  have hX := cW_int (d := 10) (r := r_X_due) rfl (by decide +kernel) (p_due (d := 5) (K := fun u w m2 => RelAB m2 ∧ u = w) R  (fun v m' R' => ⟨R', rfl⟩))
  refine Go.run (callT_mono MT _) [968] 100 ?_
  skip
  refine callT_mono MT 11 _ _ _ _ _ (fun u m1 hu => ?_) hX
  obtain ⟨⟨hM, hs⟩, a, rfl⟩ := hu
  have hM2 := cW_int (d := 10) (r := r_M_due) rfl (by decide +kernel) hM
  skip
  refine callT_mono MT 11 _ _ _ _ _ (fun w m2 hw => ?_) hM2
  obtain ⟨⟨⟨R', ew⟩, -⟩, b, rfl⟩ := hw
  refine And.intro (fun c => h m2 R') (fun c => ?_)
  exact absurd (show a = b from Sum.inl.inj (Option.some.inj ew)) c

set_option maxRecDepth 20000 in
theorem l_L_keep {L i : Nat} {K : Option Vv → Mem → Prop} (hL : L ≤ 3072) (hi : i + 6 ≤ L) {m : Mem} (R : RelAB m) (h : ∀ m', RelAB m' → Go (cW 11) i_L_law (450, 8070) K 968 [vo 2 0 L, vo 0 0 0, vo 1 0 0, vi (nI i)] [] m' 450 8070) : Go (cW 11) i_L_law (450, 8070) K 526 [vo 2 0 L, vo 0 0 0, vo 1 0 0, vi (nI i)] [] m 450 8070 := by
  have hX := cW_int (d := 10) (r := r_X_keep) rfl (by decide +kernel) (p_keep (d := 8) (K := fun u w m2 => RelAB m2 ∧ u = w) R (v := gI m (2, 0, L) (nI i + 1).toNatClampNeg) (fun v m' R' => ⟨R', rfl⟩))
  refine Go.run (callT_mono MT _) [968] 100 ?_
  refine And.intro (vpk (c := 1) hL hi (by decide) rfl) ?_
  refine callT_mono MT 11 _ _ _ _ _ (fun u m1 hu => ?_) hX
  obtain ⟨⟨hM, hs⟩, a, rfl⟩ := hu
  rw [← scr_eq hs L (nI i + 1).toNatClampNeg] at hM
  have hM2 := cW_int (d := 10) (r := r_M_keep) rfl (by decide +kernel) hM
  refine And.intro (vpk (c := 1) hL hi (by decide) rfl) ?_
  refine callT_mono MT 11 _ _ _ _ _ (fun w m2 hw => ?_) hM2
  obtain ⟨⟨⟨R', ew⟩, -⟩, b, rfl⟩ := hw
  refine And.intro (fun c => h m2 R') (fun c => ?_)
  exact absurd (show a = b from Sum.inl.inj (Option.some.inj ew)) c

set_option maxRecDepth 20000 in
theorem l_L_on {L i : Nat} {K : Option Vv → Mem → Prop} (hL : L ≤ 3072) (hi : i + 6 ≤ L) {m : Mem} (R : RelAB m) (h : ∀ m', RelAB m' → Go (cW 11) i_L_law (450, 8070) K 968 [vo 2 0 L, vo 0 0 0, vo 1 0 0, vi (nI i)] [] m' 450 8070) : Go (cW 11) i_L_law (450, 8070) K 543 [vo 2 0 L, vo 0 0 0, vo 1 0 0, vi (nI i)] [] m 450 8070 := by
  have hX := cW_int (d := 10) (r := r_X_on) rfl (by decide +kernel) (p_on (d := 8) (K := fun u w m2 => RelAB m2 ∧ u = w) R (v := gI m (2, 0, L) (nI i + 1).toNatClampNeg) (fun v m' R' => ⟨R', rfl⟩))
  refine Go.run (callT_mono MT _) [968] 100 ?_
  refine And.intro (vpk (c := 1) hL hi (by decide) rfl) ?_
  refine callT_mono MT 11 _ _ _ _ _ (fun u m1 hu => ?_) hX
  obtain ⟨⟨hM, hs⟩, a, rfl⟩ := hu
  rw [← scr_eq hs L (nI i + 1).toNatClampNeg] at hM
  have hM2 := cW_int (d := 10) (r := r_M_on) rfl (by decide +kernel) hM
  refine And.intro (vpk (c := 1) hL hi (by decide) rfl) ?_
  refine callT_mono MT 11 _ _ _ _ _ (fun w m2 hw => ?_) hM2
  obtain ⟨⟨⟨R', ew⟩, -⟩, b, rfl⟩ := hw
  refine And.intro (fun c => h m2 R') (fun c => ?_)
  exact absurd (show a = b from Sum.inl.inj (Option.some.inj ew)) c

set_option maxRecDepth 20000 in
theorem l_L_fits {L i : Nat} {K : Option Vv → Mem → Prop} (hL : L ≤ 3072) (hi : i + 6 ≤ L) {m : Mem} (R : RelAB m) (h : ∀ m', RelAB m' → Go (cW 11) i_L_law (450, 8070) K 968 [vo 2 0 L, vo 0 0 0, vo 1 0 0, vi (nI i)] [] m' 450 8070) : Go (cW 11) i_L_law (450, 8070) K 560 [vo 2 0 L, vo 0 0 0, vo 1 0 0, vi (nI i)] [] m 450 8070 := by
  have hX := cW_int (d := 10) (r := r_X_fits) rfl (by decide +kernel) (p_fits (d := 5) (K := fun u w m2 => RelAB m2 ∧ u = w) R (v := gI m (2, 0, L) (nI i + 1).toNatClampNeg) (fun v m' R' => ⟨R', rfl⟩))
  refine Go.run (callT_mono MT _) [968] 100 ?_
  refine And.intro (vpk (c := 1) hL hi (by decide) rfl) ?_
  refine callT_mono MT 11 _ _ _ _ _ (fun u m1 hu => ?_) hX
  obtain ⟨⟨hM, hs⟩, a, rfl⟩ := hu
  rw [← scr_eq hs L (nI i + 1).toNatClampNeg] at hM
  have hM2 := cW_int (d := 10) (r := r_M_fits) rfl (by decide +kernel) hM
  refine And.intro (vpk (c := 1) hL hi (by decide) rfl) ?_
  refine callT_mono MT 11 _ _ _ _ _ (fun w m2 hw => ?_) hM2
  obtain ⟨⟨⟨R', ew⟩, -⟩, b, rfl⟩ := hw
  refine And.intro (fun c => h m2 R') (fun c => ?_)
  exact absurd (show a = b from Sum.inl.inj (Option.some.inj ew)) c

set_option maxRecDepth 20000 in
theorem l_L_sure {L i : Nat} {K : Option Vv → Mem → Prop} (hL : L ≤ 3072) (hi : i + 6 ≤ L) {m : Mem} (R : RelAB m) (h : ∀ m', RelAB m' → Go (cW 11) i_L_law (450, 8070) K 968 [vo 2 0 L, vo 0 0 0, vo 1 0 0, vi (nI i)] [] m' 450 8070) : Go (cW 11) i_L_law (450, 8070) K 577 [vo 2 0 L, vo 0 0 0, vo 1 0 0, vi (nI i)] [] m 450 8070 := by
  have hX := cW_int (d := 10) (r := r_X_sure) rfl (by decide +kernel) (p_sure (d := 5) (K := fun u w m2 => RelAB m2 ∧ u = w) R (v := gI m (2, 0, L) (nI i + 1).toNatClampNeg) (fun v m' R' => ⟨R', rfl⟩))
  refine Go.run (callT_mono MT _) [968] 100 ?_
  refine And.intro (vpk (c := 1) hL hi (by decide) rfl) ?_
  refine callT_mono MT 11 _ _ _ _ _ (fun u m1 hu => ?_) hX
  obtain ⟨⟨hM, hs⟩, a, rfl⟩ := hu
  rw [← scr_eq hs L (nI i + 1).toNatClampNeg] at hM
  have hM2 := cW_int (d := 10) (r := r_M_sure) rfl (by decide +kernel) hM
  refine And.intro (vpk (c := 1) hL hi (by decide) rfl) ?_
  refine callT_mono MT 11 _ _ _ _ _ (fun w m2 hw => ?_) hM2
  obtain ⟨⟨⟨R', ew⟩, -⟩, b, rfl⟩ := hw
  refine And.intro (fun c => h m2 R') (fun c => ?_)
  exact absurd (show a = b from Sum.inl.inj (Option.some.inj ew)) c

set_option maxRecDepth 20000 in
theorem l_L_odds {L i : Nat} {K : Option Vv → Mem → Prop} (hL : L ≤ 3072) (hi : i + 6 ≤ L) {m : Mem} (R : RelAB m) (h : ∀ m', RelAB m' → Go (cW 11) i_L_law (450, 8070) K 968 [vo 2 0 L, vo 0 0 0, vo 1 0 0, vi (nI i)] [] m' 450 8070) : Go (cW 11) i_L_law (450, 8070) K 594 [vo 2 0 L, vo 0 0 0, vo 1 0 0, vi (nI i)] [] m 450 8070 := by
  have hX := cW_int (d := 10) (r := r_X_odds) rfl (by decide +kernel) (p_odds (d := 5) (K := fun u w m2 => RelAB m2 ∧ u = w) R (i := gI m (2, 0, L) (nI i + 1).toNatClampNeg) (v := gI m (2, 0, L) (nI i + 2).toNatClampNeg) (fun v m' R' => ⟨R', rfl⟩))
  refine Go.run (callT_mono MT _) [968] 100 ?_
  refine And.intro (vpk (c := 1) hL hi (by decide) rfl) ?_
  refine And.intro (vpk (c := 2) hL hi (by decide) rfl) ?_
  refine callT_mono MT 11 _ _ _ _ _ (fun u m1 hu => ?_) hX
  obtain ⟨⟨hM, hs⟩, a, rfl⟩ := hu
  rw [← scr_eq hs L (nI i + 1).toNatClampNeg, ← scr_eq hs L (nI i + 2).toNatClampNeg] at hM
  have hM2 := cW_int (d := 10) (r := r_M_odds) rfl (by decide +kernel) hM
  refine And.intro (vpk (c := 1) hL hi (by decide) rfl) ?_
  refine And.intro (vpk (c := 2) hL hi (by decide) rfl) ?_
  refine callT_mono MT 11 _ _ _ _ _ (fun w m2 hw => ?_) hM2
  obtain ⟨⟨⟨R', ew⟩, -⟩, b, rfl⟩ := hw
  refine And.intro (fun c => h m2 R') (fun c => ?_)
  exact absurd (show a = b from Sum.inl.inj (Option.some.inj ew)) c

set_option maxRecDepth 20000 in
theorem l_L_thunder {L i : Nat} {K : Option Vv → Mem → Prop} (hL : L ≤ 3072) (hi : i + 6 ≤ L) {m : Mem} (R : RelAB m) (h : ∀ m', RelAB m' → Go (cW 11) i_L_law (450, 8070) K 968 [vo 2 0 L, vo 0 0 0, vo 1 0 0, vi (nI i)] [] m' 450 8070) : Go (cW 11) i_L_law (450, 8070) K 621 [vo 2 0 L, vo 0 0 0, vo 1 0 0, vi (nI i)] [] m 450 8070 := by
  have hX := cW_int (d := 10) (r := r_X_thunder) rfl (by decide +kernel) (p_thunder (d := 5) (K := fun u w m2 => RelAB m2 ∧ u = w) R (v := gI m (2, 0, L) (nI i + 1).toNatClampNeg) (w := gI m (2, 0, L) (nI i + 2).toNatClampNeg) (fun v m' R' => ⟨R', rfl⟩))
  refine Go.run (callT_mono MT _) [968] 100 ?_
  refine And.intro (vpk (c := 1) hL hi (by decide) rfl) ?_
  refine And.intro (vpk (c := 2) hL hi (by decide) rfl) ?_
  refine callT_mono MT 11 _ _ _ _ _ (fun u m1 hu => ?_) hX
  obtain ⟨⟨hM, hs⟩, a, rfl⟩ := hu
  rw [← scr_eq hs L (nI i + 1).toNatClampNeg, ← scr_eq hs L (nI i + 2).toNatClampNeg] at hM
  have hM2 := cW_int (d := 10) (r := r_M_thunder) rfl (by decide +kernel) hM
  refine And.intro (vpk (c := 1) hL hi (by decide) rfl) ?_
  refine And.intro (vpk (c := 2) hL hi (by decide) rfl) ?_
  refine callT_mono MT 11 _ _ _ _ _ (fun w m2 hw => ?_) hM2
  obtain ⟨⟨⟨R', ew⟩, -⟩, b, rfl⟩ := hw
  refine And.intro (fun c => h m2 R') (fun c => ?_)
  exact absurd (show a = b from Sum.inl.inj (Option.some.inj ew)) c

set_option maxRecDepth 20000 in
theorem l_L_joined {L i : Nat} {K : Option Vv → Mem → Prop} (hL : L ≤ 3072) (hi : i + 6 ≤ L) {m : Mem} (R : RelAB m) (h : ∀ m', RelAB m' → Go (cW 11) i_L_law (450, 8070) K 968 [vo 2 0 L, vo 0 0 0, vo 1 0 0, vi (nI i)] [] m' 450 8070) : Go (cW 11) i_L_law (450, 8070) K 648 [vo 2 0 L, vo 0 0 0, vo 1 0 0, vi (nI i)] [] m 450 8070 := by
  have hX := cW_int (d := 10) (r := r_X_joined) rfl (by decide +kernel) (p_joined (d := 4) (K := fun u w m2 => RelAB m2 ∧ u = w) R (r0 := gI m (2, 0, L) (nI i + 1).toNatClampNeg) (fun v m' R' => ⟨R', rfl⟩))
  refine Go.run (callT_mono MT _) [968] 100 ?_
  refine And.intro (vpk (c := 1) hL hi (by decide) rfl) ?_
  refine callT_mono MT 11 _ _ _ _ _ (fun u m1 hu => ?_) hX
  obtain ⟨⟨hM, hs⟩, a, rfl⟩ := hu
  rw [← scr_eq hs L (nI i + 1).toNatClampNeg] at hM
  have hM2 := cW_int (d := 10) (r := r_M_joined) rfl (by decide +kernel) hM
  refine And.intro (vpk (c := 1) hL hi (by decide) rfl) ?_
  refine callT_mono MT 11 _ _ _ _ _ (fun w m2 hw => ?_) hM2
  obtain ⟨⟨⟨R', ew⟩, -⟩, b, rfl⟩ := hw
  refine And.intro (fun c => h m2 R') (fun c => ?_)
  exact absurd (show a = b from Sum.inl.inj (Option.some.inj ew)) c

set_option maxRecDepth 20000 in
theorem l_L_silence {L i : Nat} {K : Option Vv → Mem → Prop} (hL : L ≤ 3072) (hi : i + 6 ≤ L) {m : Mem} (R : RelAB m) (h : ∀ m', RelAB m' → Go (cW 11) i_L_law (450, 8070) K 968 [vo 2 0 L, vo 0 0 0, vo 1 0 0, vi (nI i)] [] m' 450 8070) : Go (cW 11) i_L_law (450, 8070) K 665 [vo 2 0 L, vo 0 0 0, vo 1 0 0, vi (nI i)] [] m 450 8070 := by
  have hX := cW_int (d := 10) (r := r_X_silence) rfl (by decide +kernel) (p_silence (d := 5) (K := fun u w m2 => RelAB m2 ∧ u = w) R (v := gI m (2, 0, L) (nI i + 1).toNatClampNeg) (fun v m' R' => ⟨R', rfl⟩))
  refine Go.run (callT_mono MT _) [968] 100 ?_
  refine And.intro (vpk (c := 1) hL hi (by decide) rfl) ?_
  refine callT_mono MT 11 _ _ _ _ _ (fun u m1 hu => ?_) hX
  obtain ⟨⟨hM, hs⟩, a, rfl⟩ := hu
  rw [← scr_eq hs L (nI i + 1).toNatClampNeg] at hM
  have hM2 := cW_int (d := 10) (r := r_M_silence) rfl (by decide +kernel) hM
  refine And.intro (vpk (c := 1) hL hi (by decide) rfl) ?_
  refine callT_mono MT 11 _ _ _ _ _ (fun w m2 hw => ?_) hM2
  obtain ⟨⟨⟨R', ew⟩, -⟩, b, rfl⟩ := hw
  refine And.intro (fun c => h m2 R') (fun c => ?_)
  exact absurd (show a = b from Sum.inl.inj (Option.some.inj ew)) c

set_option maxRecDepth 20000 in
theorem l_L_rises {L i : Nat} {K : Option Vv → Mem → Prop} (hL : L ≤ 3072) (hi : i + 6 ≤ L) {m : Mem} (R : RelAB m) (h : ∀ m', RelAB m' → Go (cW 11) i_L_law (450, 8070) K 968 [vo 2 0 L, vo 0 0 0, vo 1 0 0, vi (nI i)] [] m' 450 8070) : Go (cW 11) i_L_law (450, 8070) K 682 [vo 2 0 L, vo 0 0 0, vo 1 0 0, vi (nI i)] [] m 450 8070 := by
  have hX := cW_int (d := 10) (r := r_X_rises) rfl (by decide +kernel) (p_rises (d := 5) (K := fun u w m2 => RelAB m2 ∧ u = w) R  (fun v m' R' => ⟨R', rfl⟩))
  refine Go.run (callT_mono MT _) [968] 100 ?_
  skip
  refine callT_mono MT 11 _ _ _ _ _ (fun u m1 hu => ?_) hX
  obtain ⟨⟨hM, hs⟩, a, rfl⟩ := hu
  have hM2 := cW_int (d := 10) (r := r_M_rises) rfl (by decide +kernel) hM
  skip
  refine callT_mono MT 11 _ _ _ _ _ (fun w m2 hw => ?_) hM2
  obtain ⟨⟨⟨R', ew⟩, -⟩, b, rfl⟩ := hw
  refine And.intro (fun c => h m2 R') (fun c => ?_)
  exact absurd (show a = b from Sum.inl.inj (Option.some.inj ew)) c

set_option maxRecDepth 20000 in
theorem l_L_wedding {L i : Nat} {K : Option Vv → Mem → Prop} (hL : L ≤ 3072) (hi : i + 6 ≤ L) {m : Mem} (R : RelAB m) (h : ∀ m', RelAB m' → Go (cW 11) i_L_law (450, 8070) K 968 [vo 2 0 L, vo 0 0 0, vo 1 0 0, vi (nI i)] [] m' 450 8070) : Go (cW 11) i_L_law (450, 8070) K 689 [vo 2 0 L, vo 0 0 0, vo 1 0 0, vi (nI i)] [] m 450 8070 := by
  have hX := cW_int (d := 10) (r := r_X_wedding) rfl (by decide +kernel) (p_wedding (d := 5) (K := fun u w m2 => RelAB m2 ∧ u = w) R (v := gI m (2, 0, L) (nI i + 1).toNatClampNeg) (fun v m' R' => ⟨R', rfl⟩))
  refine Go.run (callT_mono MT _) [968] 100 ?_
  refine And.intro (vpk (c := 1) hL hi (by decide) rfl) ?_
  refine callT_mono MT 11 _ _ _ _ _ (fun u m1 hu => ?_) hX
  obtain ⟨⟨hM, hs⟩, a, rfl⟩ := hu
  rw [← scr_eq hs L (nI i + 1).toNatClampNeg] at hM
  have hM2 := cW_int (d := 10) (r := r_M_wedding) rfl (by decide +kernel) hM
  refine And.intro (vpk (c := 1) hL hi (by decide) rfl) ?_
  refine callT_mono MT 11 _ _ _ _ _ (fun w m2 hw => ?_) hM2
  obtain ⟨⟨⟨R', ew⟩, -⟩, b, rfl⟩ := hw
  refine And.intro (fun c => h m2 R') (fun c => ?_)
  exact absurd (show a = b from Sum.inl.inj (Option.some.inj ew)) c

set_option maxRecDepth 20000 in
theorem l_L_feathers {L i : Nat} {K : Option Vv → Mem → Prop} (hL : L ≤ 3072) (hi : i + 6 ≤ L) {m : Mem} (R : RelAB m) (h : ∀ m', RelAB m' → Go (cW 11) i_L_law (450, 8070) K 968 [vo 2 0 L, vo 0 0 0, vo 1 0 0, vi (nI i)] [] m' 450 8070) : Go (cW 11) i_L_law (450, 8070) K 706 [vo 2 0 L, vo 0 0 0, vo 1 0 0, vi (nI i)] [] m 450 8070 := by
  have hX := cW_int (d := 10) (r := r_X_feathers) rfl (by decide +kernel) (p_feathers (d := 7) (K := fun u w m2 => RelAB m2 ∧ u = w) R (u' := gI m (2, 0, L) (nI i + 1).toNatClampNeg) (v := gI m (2, 0, L) (nI i + 2).toNatClampNeg) (r := gI m (2, 0, L) (nI i + 3).toNatClampNeg) (fun v m' R' => ⟨R', rfl⟩))
  refine Go.run (callT_mono MT _) [968] 100 ?_
  refine And.intro (vpk (c := 1) hL hi (by decide) rfl) ?_
  refine And.intro (vpk (c := 2) hL hi (by decide) rfl) ?_
  refine And.intro (vpk (c := 3) hL hi (by decide) rfl) ?_
  refine callT_mono MT 11 _ _ _ _ _ (fun u m1 hu => ?_) hX
  obtain ⟨⟨hM, hs⟩, a, rfl⟩ := hu
  rw [← scr_eq hs L (nI i + 1).toNatClampNeg, ← scr_eq hs L (nI i + 2).toNatClampNeg, ← scr_eq hs L (nI i + 3).toNatClampNeg] at hM
  have hM2 := cW_int (d := 10) (r := r_M_feathers) rfl (by decide +kernel) hM
  refine And.intro (vpk (c := 1) hL hi (by decide) rfl) ?_
  refine And.intro (vpk (c := 2) hL hi (by decide) rfl) ?_
  refine And.intro (vpk (c := 3) hL hi (by decide) rfl) ?_
  refine callT_mono MT 11 _ _ _ _ _ (fun w m2 hw => ?_) hM2
  obtain ⟨⟨⟨R', ew⟩, -⟩, b, rfl⟩ := hw
  refine And.intro (fun c => h m2 R') (fun c => ?_)
  exact absurd (show a = b from Sum.inl.inj (Option.some.inj ew)) c

set_option maxRecDepth 20000 in
theorem l_L_most {L i : Nat} {K : Option Vv → Mem → Prop} (hL : L ≤ 3072) (hi : i + 6 ≤ L) {m : Mem} (R : RelAB m) (h : ∀ m', RelAB m' → Go (cW 11) i_L_law (450, 8070) K 968 [vo 2 0 L, vo 0 0 0, vo 1 0 0, vi (nI i)] [] m' 450 8070) : Go (cW 11) i_L_law (450, 8070) K 743 [vo 2 0 L, vo 0 0 0, vo 1 0 0, vi (nI i)] [] m 450 8070 := by
  have hX := cW_int (d := 10) (r := r_X_most) rfl (by decide +kernel) (p_most (d := 5) (K := fun u w m2 => RelAB m2 ∧ u = w) R  (fun v m' R' => ⟨R', rfl⟩))
  refine Go.run (callT_mono MT _) [968] 100 ?_
  skip
  refine callT_mono MT 11 _ _ _ _ _ (fun u m1 hu => ?_) hX
  obtain ⟨⟨hM, hs⟩, a, rfl⟩ := hu
  have hM2 := cW_int (d := 10) (r := r_M_most) rfl (by decide +kernel) hM
  skip
  refine callT_mono MT 11 _ _ _ _ _ (fun w m2 hw => ?_) hM2
  obtain ⟨⟨⟨R', ew⟩, -⟩, b, rfl⟩ := hw
  refine And.intro (fun c => h m2 R') (fun c => ?_)
  exact absurd (show a = b from Sum.inl.inj (Option.some.inj ew)) c

set_option maxRecDepth 20000 in
theorem l_L_hours {L i : Nat} {K : Option Vv → Mem → Prop} (hL : L ≤ 3072) (hi : i + 6 ≤ L) {m : Mem} (R : RelAB m) (h : ∀ m', RelAB m' → Go (cW 11) i_L_law (450, 8070) K 968 [vo 2 0 L, vo 0 0 0, vo 1 0 0, vi (nI i)] [] m' 450 8070) : Go (cW 11) i_L_law (450, 8070) K 750 [vo 2 0 L, vo 0 0 0, vo 1 0 0, vi (nI i)] [] m 450 8070 := by
  have hX := cW_int (d := 10) (r := r_X_hours) rfl (by decide +kernel) (p_hours (d := 4) (K := fun u w m2 => RelAB m2 ∧ u = w) R (w := gI m (2, 0, L) (nI i + 1).toNatClampNeg) (v := gI m (2, 0, L) (nI i + 2).toNatClampNeg) (fun v m' R' => ⟨R', rfl⟩))
  refine Go.run (callT_mono MT _) [968] 100 ?_
  refine And.intro (vpk (c := 1) hL hi (by decide) rfl) ?_
  refine And.intro (vpk (c := 2) hL hi (by decide) rfl) ?_
  refine callT_mono MT 11 _ _ _ _ _ (fun u m1 hu => ?_) hX
  obtain ⟨⟨hM, hs⟩, a, rfl⟩ := hu
  rw [← scr_eq hs L (nI i + 1).toNatClampNeg, ← scr_eq hs L (nI i + 2).toNatClampNeg] at hM
  have hM2 := cW_int (d := 10) (r := r_M_hours) rfl (by decide +kernel) hM
  refine And.intro (vpk (c := 1) hL hi (by decide) rfl) ?_
  refine And.intro (vpk (c := 2) hL hi (by decide) rfl) ?_
  refine callT_mono MT 11 _ _ _ _ _ (fun w m2 hw => ?_) hM2
  obtain ⟨⟨⟨R', ew⟩, -⟩, b, rfl⟩ := hw
  refine And.intro (fun c => h m2 R') (fun c => ?_)
  exact absurd (show a = b from Sum.inl.inj (Option.some.inj ew)) c

set_option maxRecDepth 20000 in
theorem l_L_year {L i : Nat} {K : Option Vv → Mem → Prop} (hL : L ≤ 3072) (hi : i + 6 ≤ L) {m : Mem} (R : RelAB m) (h : ∀ m', RelAB m' → Go (cW 11) i_L_law (450, 8070) K 968 [vo 2 0 L, vo 0 0 0, vo 1 0 0, vi (nI i)] [] m' 450 8070) : Go (cW 11) i_L_law (450, 8070) K 777 [vo 2 0 L, vo 0 0 0, vo 1 0 0, vi (nI i)] [] m 450 8070 := by
  have hX := cW_int (d := 10) (r := r_X_year) rfl (by decide +kernel) (p_year (d := 4) (K := fun u w m2 => RelAB m2 ∧ u = w) R (r0 := gI m (2, 0, L) (nI i + 1).toNatClampNeg) (fun v m' R' => ⟨R', rfl⟩))
  refine Go.run (callT_mono MT _) [968] 100 ?_
  refine And.intro (vpk (c := 1) hL hi (by decide) rfl) ?_
  refine callT_mono MT 11 _ _ _ _ _ (fun u m1 hu => ?_) hX
  obtain ⟨⟨hM, hs⟩, a, rfl⟩ := hu
  rw [← scr_eq hs L (nI i + 1).toNatClampNeg] at hM
  have hM2 := cW_int (d := 10) (r := r_M_year) rfl (by decide +kernel) hM
  refine And.intro (vpk (c := 1) hL hi (by decide) rfl) ?_
  refine callT_mono MT 11 _ _ _ _ _ (fun w m2 hw => ?_) hM2
  obtain ⟨⟨⟨R', ew⟩, -⟩, b, rfl⟩ := hw
  refine And.intro (fun c => h m2 R') (fun c => ?_)
  exact absurd (show a = b from Sum.inl.inj (Option.some.inj ew)) c

set_option maxRecDepth 20000 in
theorem l_L_debt {L i : Nat} {K : Option Vv → Mem → Prop} (hL : L ≤ 3072) (hi : i + 6 ≤ L) {m : Mem} (R : RelAB m) (h : ∀ m', RelAB m' → Go (cW 11) i_L_law (450, 8070) K 968 [vo 2 0 L, vo 0 0 0, vo 1 0 0, vi (nI i)] [] m' 450 8070) : Go (cW 11) i_L_law (450, 8070) K 794 [vo 2 0 L, vo 0 0 0, vo 1 0 0, vi (nI i)] [] m 450 8070 := by
  have hX := cW_int (d := 10) (r := r_X_debt) rfl (by decide +kernel) (p_debt (d := 8) (K := fun u w m2 => RelAB m2 ∧ u = w) R (i := gI m (2, 0, L) (nI i + 1).toNatClampNeg) (l := gI m (2, 0, L) (nI i + 2).toNatClampNeg) (v := gI m (2, 0, L) (nI i + 3).toNatClampNeg) (fun v m' R' => ⟨R', rfl⟩))
  refine Go.run (callT_mono MT _) [968] 100 ?_
  refine And.intro (vpk (c := 1) hL hi (by decide) rfl) ?_
  refine And.intro (vpk (c := 2) hL hi (by decide) rfl) ?_
  refine And.intro (vpk (c := 3) hL hi (by decide) rfl) ?_
  refine callT_mono MT 11 _ _ _ _ _ (fun u m1 hu => ?_) hX
  obtain ⟨⟨hM, hs⟩, a, rfl⟩ := hu
  rw [← scr_eq hs L (nI i + 1).toNatClampNeg, ← scr_eq hs L (nI i + 2).toNatClampNeg, ← scr_eq hs L (nI i + 3).toNatClampNeg] at hM
  have hM2 := cW_int (d := 10) (r := r_M_debt) rfl (by decide +kernel) hM
  refine And.intro (vpk (c := 1) hL hi (by decide) rfl) ?_
  refine And.intro (vpk (c := 2) hL hi (by decide) rfl) ?_
  refine And.intro (vpk (c := 3) hL hi (by decide) rfl) ?_
  refine callT_mono MT 11 _ _ _ _ _ (fun w m2 hw => ?_) hM2
  obtain ⟨⟨⟨R', ew⟩, -⟩, b, rfl⟩ := hw
  refine And.intro (fun c => h m2 R') (fun c => ?_)
  exact absurd (show a = b from Sum.inl.inj (Option.some.inj ew)) c

set_option maxRecDepth 20000 in
theorem l_L_balance {L i : Nat} {K : Option Vv → Mem → Prop} (hL : L ≤ 3072) (hi : i + 6 ≤ L) {m : Mem} (R : RelAB m) (h : ∀ m', RelAB m' → Go (cW 11) i_L_law (450, 8070) K 968 [vo 2 0 L, vo 0 0 0, vo 1 0 0, vi (nI i)] [] m' 450 8070) : Go (cW 11) i_L_law (450, 8070) K 831 [vo 2 0 L, vo 0 0 0, vo 1 0 0, vi (nI i)] [] m 450 8070 := by
  have hX := cW_int (d := 10) (r := r_X_balance) rfl (by decide +kernel) (p_balance (d := 6) (K := fun u w m2 => RelAB m2 ∧ u = w) R (i := gI m (2, 0, L) (nI i + 1).toNatClampNeg) (fun v m' R' => ⟨R', rfl⟩))
  refine Go.run (callT_mono MT _) [968] 100 ?_
  refine And.intro (vpk (c := 1) hL hi (by decide) rfl) ?_
  refine callT_mono MT 11 _ _ _ _ _ (fun u m1 hu => ?_) hX
  obtain ⟨⟨hM, hs⟩, a, rfl⟩ := hu
  rw [← scr_eq hs L (nI i + 1).toNatClampNeg] at hM
  have hM2 := cW_int (d := 10) (r := r_M_balance) rfl (by decide +kernel) hM
  refine And.intro (vpk (c := 1) hL hi (by decide) rfl) ?_
  refine callT_mono MT 11 _ _ _ _ _ (fun w m2 hw => ?_) hM2
  obtain ⟨⟨⟨R', ew⟩, -⟩, b, rfl⟩ := hw
  refine And.intro (fun c => h m2 R') (fun c => ?_)
  exact absurd (show a = b from Sum.inl.inj (Option.some.inj ew)) c

set_option maxRecDepth 20000 in
theorem l_L_payments {L i : Nat} {K : Option Vv → Mem → Prop} (hL : L ≤ 3072) (hi : i + 6 ≤ L) {m : Mem} (R : RelAB m) (h : ∀ m', RelAB m' → Go (cW 11) i_L_law (450, 8070) K 968 [vo 2 0 L, vo 0 0 0, vo 1 0 0, vi (nI i)] [] m' 450 8070) : Go (cW 11) i_L_law (450, 8070) K 848 [vo 2 0 L, vo 0 0 0, vo 1 0 0, vi (nI i)] [] m 450 8070 := by
  have hX := cW_int (d := 10) (r := r_X_payments) rfl (by decide +kernel) (p_payments (d := 5) (K := fun u w m2 => RelAB m2 ∧ u = w) R  (fun v m' R' => ⟨R', rfl⟩))
  refine Go.run (callT_mono MT _) [968] 100 ?_
  skip
  refine callT_mono MT 11 _ _ _ _ _ (fun u m1 hu => ?_) hX
  obtain ⟨⟨hM, hs⟩, a, rfl⟩ := hu
  have hM2 := cW_int (d := 10) (r := r_M_payments) rfl (by decide +kernel) hM
  skip
  refine callT_mono MT 11 _ _ _ _ _ (fun w m2 hw => ?_) hM2
  obtain ⟨⟨⟨R', ew⟩, -⟩, b, rfl⟩ := hw
  refine And.intro (fun c => h m2 R') (fun c => ?_)
  exact absurd (show a = b from Sum.inl.inj (Option.some.inj ew)) c

set_option maxRecDepth 20000 in
theorem l_L_net {L i : Nat} {K : Option Vv → Mem → Prop} (hL : L ≤ 3072) (hi : i + 6 ≤ L) {m : Mem} (R : RelAB m) (h : ∀ m', RelAB m' → Go (cW 11) i_L_law (450, 8070) K 968 [vo 2 0 L, vo 0 0 0, vo 1 0 0, vi (nI i)] [] m' 450 8070) : Go (cW 11) i_L_law (450, 8070) K 855 [vo 2 0 L, vo 0 0 0, vo 1 0 0, vi (nI i)] [] m 450 8070 := by
  have hX := cW_int (d := 10) (r := r_X_net) rfl (by decide +kernel) (p_net (d := 5) (K := fun u w m2 => RelAB m2 ∧ u = w) R  (fun v m' R' => ⟨R', rfl⟩))
  refine Go.run (callT_mono MT _) [968] 100 ?_
  skip
  refine callT_mono MT 11 _ _ _ _ _ (fun u m1 hu => ?_) hX
  obtain ⟨⟨hM, hs⟩, a, rfl⟩ := hu
  have hM2 := cW_int (d := 10) (r := r_M_net) rfl (by decide +kernel) hM
  skip
  refine callT_mono MT 11 _ _ _ _ _ (fun w m2 hw => ?_) hM2
  obtain ⟨⟨⟨R', ew⟩, -⟩, b, rfl⟩ := hw
  refine And.intro (fun c => h m2 R') (fun c => ?_)
  exact absurd (show a = b from Sum.inl.inj (Option.some.inj ew)) c

set_option maxRecDepth 20000 in
theorem l_L_crickets {L i : Nat} {K : Option Vv → Mem → Prop} (hL : L ≤ 3072) (hi : i + 6 ≤ L) {m : Mem} (R : RelAB m) (h : ∀ m', RelAB m' → Go (cW 11) i_L_law (450, 8070) K 968 [vo 2 0 L, vo 0 0 0, vo 1 0 0, vi (nI i)] [] m' 450 8070) : Go (cW 11) i_L_law (450, 8070) K 862 [vo 2 0 L, vo 0 0 0, vo 1 0 0, vi (nI i)] [] m 450 8070 := by
  have hX := cW_int (d := 10) (r := r_X_crickets) rfl (by decide +kernel) (p_crickets (d := 5) (K := fun u w m2 => RelAB m2 ∧ u = w) R (v := gI m (2, 0, L) (nI i + 1).toNatClampNeg) (w := gI m (2, 0, L) (nI i + 2).toNatClampNeg) (fun v m' R' => ⟨R', rfl⟩))
  refine Go.run (callT_mono MT _) [968] 100 ?_
  refine And.intro (vpk (c := 1) hL hi (by decide) rfl) ?_
  refine And.intro (vpk (c := 2) hL hi (by decide) rfl) ?_
  refine callT_mono MT 11 _ _ _ _ _ (fun u m1 hu => ?_) hX
  obtain ⟨⟨hM, hs⟩, a, rfl⟩ := hu
  rw [← scr_eq hs L (nI i + 1).toNatClampNeg, ← scr_eq hs L (nI i + 2).toNatClampNeg] at hM
  have hM2 := cW_int (d := 10) (r := r_M_crickets) rfl (by decide +kernel) hM
  refine And.intro (vpk (c := 1) hL hi (by decide) rfl) ?_
  refine And.intro (vpk (c := 2) hL hi (by decide) rfl) ?_
  refine callT_mono MT 11 _ _ _ _ _ (fun w m2 hw => ?_) hM2
  obtain ⟨⟨⟨R', ew⟩, -⟩, b, rfl⟩ := hw
  refine And.intro (fun c => h m2 R') (fun c => ?_)
  exact absurd (show a = b from Sum.inl.inj (Option.some.inj ew)) c

set_option maxRecDepth 20000 in
theorem l_L_sings {L i : Nat} {K : Option Vv → Mem → Prop} (hL : L ≤ 3072) (hi : i + 6 ≤ L) {m : Mem} (R : RelAB m) (h : ∀ m', RelAB m' → Go (cW 11) i_L_law (450, 8070) K 968 [vo 2 0 L, vo 0 0 0, vo 1 0 0, vi (nI i)] [] m' 450 8070) : Go (cW 11) i_L_law (450, 8070) K 889 [vo 2 0 L, vo 0 0 0, vo 1 0 0, vi (nI i)] [] m 450 8070 := by
  have hX := cW_int (d := 10) (r := r_X_sings) rfl (by decide +kernel) (p_sings (d := 5) (K := fun u w m2 => RelAB m2 ∧ u = w) R  (fun v m' R' => ⟨R', rfl⟩))
  refine Go.run (callT_mono MT _) [968] 100 ?_
  skip
  refine callT_mono MT 11 _ _ _ _ _ (fun u m1 hu => ?_) hX
  obtain ⟨⟨hM, hs⟩, a, rfl⟩ := hu
  have hM2 := cW_int (d := 10) (r := r_M_sings) rfl (by decide +kernel) hM
  skip
  refine callT_mono MT 11 _ _ _ _ _ (fun w m2 hw => ?_) hM2
  obtain ⟨⟨⟨R', ew⟩, -⟩, b, rfl⟩ := hw
  refine And.intro (fun c => h m2 R') (fun c => ?_)
  exact absurd (show a = b from Sum.inl.inj (Option.some.inj ew)) c

set_option maxRecDepth 20000 in
theorem l_L_asked {L i : Nat} {K : Option Vv → Mem → Prop} (hL : L ≤ 3072) (hi : i + 6 ≤ L) {m : Mem} (R : RelAB m) (h : ∀ m', RelAB m' → Go (cW 11) i_L_law (450, 8070) K 968 [vo 2 0 L, vo 0 0 0, vo 1 0 0, vi (nI i)] [] m' 450 8070) : Go (cW 11) i_L_law (450, 8070) K 896 [vo 2 0 L, vo 0 0 0, vo 1 0 0, vi (nI i)] [] m 450 8070 := by
  have hX := cW_int (d := 10) (r := r_X_asked) rfl (by decide +kernel) (p_asked (d := 10) (K := fun u w m2 => RelAB m2 ∧ u = w) R  (fun v m' R' => ⟨R', rfl⟩))
  refine Go.run (callT_mono MT _) [968] 100 ?_
  skip
  refine callT_mono MT 11 _ _ _ _ _ (fun u m1 hu => ?_) hX
  obtain ⟨⟨hM, hs⟩, a, rfl⟩ := hu
  have hM2 := cW_int (d := 10) (r := r_M_asked) rfl (by decide +kernel) hM
  skip
  refine callT_mono MT 11 _ _ _ _ _ (fun w m2 hw => ?_) hM2
  obtain ⟨⟨⟨R', ew⟩, -⟩, b, rfl⟩ := hw
  refine And.intro (fun c => h m2 R') (fun c => ?_)
  exact absurd (show a = b from Sum.inl.inj (Option.some.inj ew)) c

set_option maxRecDepth 20000 in
theorem l_L_upper {L i : Nat} {K : Option Vv → Mem → Prop} (hL : L ≤ 3072) (hi : i + 6 ≤ L) {m : Mem} (R : RelAB m) (h : ∀ m', RelAB m' → Go (cW 11) i_L_law (450, 8070) K 968 [vo 2 0 L, vo 0 0 0, vo 1 0 0, vi (nI i)] [] m' 450 8070) : Go (cW 11) i_L_law (450, 8070) K 903 [vo 2 0 L, vo 0 0 0, vo 1 0 0, vi (nI i)] [] m 450 8070 := by
  have hX := cW_long (d := 10) (r := r_X_upper) rfl (by decide +kernel) (p_upper (d := 10) (K := fun u w m2 => RelAB m2 ∧ u = w) R  (fun v m' R' => ⟨R', rfl⟩))
  refine Go.run (callT_mono MT _) [968] 100 ?_
  skip
  refine callT_mono MT 11 _ _ _ _ _ (fun u m1 hu => ?_) hX
  obtain ⟨⟨hM, hs⟩, a, rfl⟩ := hu
  have hM2 := cW_long (d := 10) (r := r_M_upper) rfl (by decide +kernel) hM
  skip
  refine callT_mono MT 11 _ _ _ _ _ (fun w m2 hw => ?_) hM2
  obtain ⟨⟨⟨R', ew⟩, -⟩, b, rfl⟩ := hw
  refine And.intro (fun c => h m2 R') (fun c => ?_)
  exact absurd (Int64_cmp (show a = b from Sum.inl.inj (Sum.inr.inj (Option.some.inj ew)))) c

set_option maxRecDepth 20000 in
theorem l_L_lower {L i : Nat} {K : Option Vv → Mem → Prop} (hL : L ≤ 3072) (hi : i + 6 ≤ L) {m : Mem} (R : RelAB m) (h : ∀ m', RelAB m' → Go (cW 11) i_L_law (450, 8070) K 968 [vo 2 0 L, vo 0 0 0, vo 1 0 0, vi (nI i)] [] m' 450 8070) : Go (cW 11) i_L_law (450, 8070) K 911 [vo 2 0 L, vo 0 0 0, vo 1 0 0, vi (nI i)] [] m 450 8070 := by
  have hX := cW_long (d := 10) (r := r_X_lower) rfl (by decide +kernel) (p_lower (d := 10) (K := fun u w m2 => RelAB m2 ∧ u = w) R  (fun v m' R' => ⟨R', rfl⟩))
  refine Go.run (callT_mono MT _) [968] 100 ?_
  skip
  refine callT_mono MT 11 _ _ _ _ _ (fun u m1 hu => ?_) hX
  obtain ⟨⟨hM, hs⟩, a, rfl⟩ := hu
  have hM2 := cW_long (d := 10) (r := r_M_lower) rfl (by decide +kernel) hM
  skip
  refine callT_mono MT 11 _ _ _ _ _ (fun w m2 hw => ?_) hM2
  obtain ⟨⟨⟨R', ew⟩, -⟩, b, rfl⟩ := hw
  refine And.intro (fun c => h m2 R') (fun c => ?_)
  exact absurd (Int64_cmp (show a = b from Sum.inl.inj (Sum.inr.inj (Option.some.inj ew)))) c

set_option maxRecDepth 20000 in
theorem l_L_count {L i : Nat} {K : Option Vv → Mem → Prop} (hL : L ≤ 3072) (hi : i + 6 ≤ L) {m : Mem} (R : RelAB m) (h : ∀ m', RelAB m' → Go (cW 11) i_L_law (450, 8070) K 968 [vo 2 0 L, vo 0 0 0, vo 1 0 0, vi (nI i)] [] m' 450 8070) : Go (cW 11) i_L_law (450, 8070) K 919 [vo 2 0 L, vo 0 0 0, vo 1 0 0, vi (nI i)] [] m 450 8070 := by
  have hX := cW_int (d := 10) (r := r_X_count) rfl (by decide +kernel) (p_count (d := 5) (K := fun u w m2 => RelAB m2 ∧ u = w) R (v := gI m (2, 0, L) (nI i + 1).toNatClampNeg) (fun v m' R' => ⟨R', rfl⟩))
  refine Go.run (callT_mono MT _) [968] 100 ?_
  refine And.intro (vpk (c := 1) hL hi (by decide) rfl) ?_
  refine callT_mono MT 11 _ _ _ _ _ (fun u m1 hu => ?_) hX
  obtain ⟨⟨hM, hs⟩, a, rfl⟩ := hu
  rw [← scr_eq hs L (nI i + 1).toNatClampNeg] at hM
  have hM2 := cW_int (d := 10) (r := r_M_count) rfl (by decide +kernel) hM
  refine And.intro (vpk (c := 1) hL hi (by decide) rfl) ?_
  refine callT_mono MT 11 _ _ _ _ _ (fun w m2 hw => ?_) hM2
  obtain ⟨⟨⟨R', ew⟩, -⟩, b, rfl⟩ := hw
  refine And.intro (fun c => h m2 R') (fun c => ?_)
  exact absurd (show a = b from Sum.inl.inj (Option.some.inj ew)) c

set_option maxRecDepth 20000 in
theorem l_L_finding {L i : Nat} {K : Option Vv → Mem → Prop} (hL : L ≤ 3072) (hi : i + 6 ≤ L) {m : Mem} (R : RelAB m) (h : ∀ m', RelAB m' → Go (cW 11) i_L_law (450, 8070) K 968 [vo 2 0 L, vo 0 0 0, vo 1 0 0, vi (nI i)] [] m' 450 8070) : Go (cW 11) i_L_law (450, 8070) K 936 [vo 2 0 L, vo 0 0 0, vo 1 0 0, vi (nI i)] [] m 450 8070 := by
  have hX := cW_int (d := 10) (r := r_X_finding) rfl (by decide +kernel) (p_finding (d := 10) (K := fun u w m2 => RelAB m2 ∧ u = w) R  (fun v m' R' => ⟨R', rfl⟩))
  refine Go.run (callT_mono MT _) [968] 100 ?_
  skip
  refine callT_mono MT 11 _ _ _ _ _ (fun u m1 hu => ?_) hX
  obtain ⟨⟨hM, hs⟩, a, rfl⟩ := hu
  have hM2 := cW_int (d := 10) (r := r_M_finding) rfl (by decide +kernel) hM
  skip
  refine callT_mono MT 11 _ _ _ _ _ (fun w m2 hw => ?_) hM2
  obtain ⟨⟨⟨R', ew⟩, -⟩, b, rfl⟩ := hw
  refine And.intro (fun c => h m2 R') (fun c => ?_)
  exact absurd (show a = b from Sum.inl.inj (Option.some.inj ew)) c

set_option maxRecDepth 20000 in
theorem l_L_findings {L i : Nat} {K : Option Vv → Mem → Prop} (hL : L ≤ 3072) (hi : i + 6 ≤ L) {m : Mem} (R : RelAB m) (h : ∀ m', RelAB m' → Go (cW 11) i_L_law (450, 8070) K 968 [vo 2 0 L, vo 0 0 0, vo 1 0 0, vi (nI i)] [] m' 450 8070) : Go (cW 11) i_L_law (450, 8070) K 943 [vo 2 0 L, vo 0 0 0, vo 1 0 0, vi (nI i)] [] m 450 8070 := by
  have hX := cW_int (d := 10) (r := r_X_findings) rfl (by decide +kernel) (p_findings (d := 9) (K := fun u w m2 => RelAB m2 ∧ u = w) R (f := gI m (2, 0, L) (nI i + 1).toNatClampNeg) (fun v m' R' => ⟨R', rfl⟩))
  refine Go.run (callT_mono MT _) [968] 100 ?_
  refine And.intro (vpk (c := 1) hL hi (by decide) rfl) ?_
  refine callT_mono MT 11 _ _ _ _ _ (fun u m1 hu => ?_) hX
  obtain ⟨⟨hM, hs⟩, a, rfl⟩ := hu
  rw [← scr_eq hs L (nI i + 1).toNatClampNeg] at hM
  have hM2 := cW_int (d := 10) (r := r_M_findings) rfl (by decide +kernel) hM
  refine And.intro (vpk (c := 1) hL hi (by decide) rfl) ?_
  refine callT_mono MT 11 _ _ _ _ _ (fun w m2 hw => ?_) hM2
  obtain ⟨⟨⟨R', ew⟩, -⟩, b, rfl⟩ := hw
  refine And.intro (fun c => h m2 R') (fun c => ?_)
  exact absurd (show a = b from Sum.inl.inj (Option.some.inj ew)) c

set_option maxRecDepth 20000 in
theorem l_L_digest {L i : Nat} {K : Option Vv → Mem → Prop} (hL : L ≤ 3072) (hi : i + 6 ≤ L) {m : Mem} (R : RelAB m) (h : ∀ m', RelAB m' → Go (cW 11) i_L_law (450, 8070) K 968 [vo 2 0 L, vo 0 0 0, vo 1 0 0, vi (nI i)] [] m' 450 8070) : Go (cW 11) i_L_law (450, 8070) K 960 [vo 2 0 L, vo 0 0 0, vo 1 0 0, vi (nI i)] [] m 450 8070 := by
  have hX := cW_long (d := 10) (r := r_X_digest) rfl (by decide +kernel) (p_digest (d := 5) (K := fun u w m2 => RelAB m2 ∧ u = w) R  (fun v m' R' => ⟨R', rfl⟩))
  refine Go.run (callT_mono MT _) [968] 100 ?_
  skip
  refine callT_mono MT 11 _ _ _ _ _ (fun u m1 hu => ?_) hX
  obtain ⟨⟨hM, hs⟩, a, rfl⟩ := hu
  have hM2 := cW_long (d := 10) (r := r_M_digest) rfl (by decide +kernel) hM
  skip
  refine callT_mono MT 11 _ _ _ _ _ (fun w m2 hw => ?_) hM2
  obtain ⟨⟨⟨R', ew⟩, -⟩, b, rfl⟩ := hw
  refine And.intro (fun c => h m2 R') (fun c => ?_)
  exact absurd (Int64_cmp (show a = b from Sum.inl.inj (Sum.inr.inj (Option.some.inj ew)))) c
