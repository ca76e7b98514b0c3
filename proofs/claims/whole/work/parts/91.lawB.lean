/-! Written by a program (wip/whole/p91.py): the law. -/
theorem six_le {L i : Nat} (hL : L ≤ 3072) (hi : i ≤ 4000) (c : ¬ nI L - 6 < nI i) : i + 6 ≤ L := by
  rcases Nat.lt_or_ge L 6 with z | z
  · exfalso
    refine c ?_
    have h0 : (0 : Int32) ≤ nI i := nI_pos' (by omega)
    have h1 : nI L - 6 < 0 := by
      have : L = 0 ∨ L = 1 ∨ L = 2 ∨ L = 3 ∨ L = 4 ∨ L = 5 := by omega
      rcases this with rfl | rfl | rfl | rfl | rfl | rfl <;> decide
    exact Int32.lt_of_lt_of_le h1 h0
  · rw [show (6 : Int32) = nI 6 from rfl, pk_sub z] at c
    have := mt (nI_ltI (a := L - 6) (b := i) (by omega) (by omega)).mpr c
    omega
set_option maxRecDepth 20000 in
theorem l_L_law {L : Nat} (hL : L ≤ 3072) (i : Nat) (m : Mem) (R : RelAB m) (hi : i ≤ L) : Go (cW 11) i_L_law (450, 8070) (fun v _ => v = some (vi 1)) 10 [vo 2 0 L, vo 0 0 0, vo 1 0 0, vi (nI i)] [] m 450 8070 := by
  refine Go.run (callT_mono MT _) [22, 49, 86, 113, 130, 187, 204, 231, 268, 285, 302, 329, 356, 373, 400, 417, 434, 441, 458, 475, 492, 519, 526, 543, 560, 577, 594, 621, 648, 665, 682, 689, 706, 743, 750, 777, 794, 831, 848, 855, 862, 889, 896, 903, 911, 919, 936, 943, 960, 968, 970] 40 ?_
  refine And.intro (fun c => ?_) (fun c => ?_)
  · refine Go.run (callT_mono MT _) [] 20 ?_
    exact And.intro (Or.inr rfl) rfl
  · have h6 : i + 6 ≤ L := six_le hL (by omega) c
    have next : ∀ m', RelAB m' → Go (cW 11) i_L_law (450, 8070) (fun v _ => v = some (vi 1)) 968 [vo 2 0 L, vo 0 0 0, vo 1 0 0, vi (nI i)] [] m' 450 8070 := fun m' R' => by
      refine Go.run (callT_mono MT _) [10] 20 ?_
      exact go_eq (ls' := [vo 2 0 L, vo 0 0 0, vo 1 0 0, vi (nI (i + 6))]) (by rw [← nI_add]; rfl) rfl (l_L_law hL (i + 6) m' R' h6)
    refine And.intro (vp_nI (k := i) (N := L) (by omega) (by omega)) ?_
    refine And.intro (fun _ => ?_) (And.intro (fun _ => ?_) (And.intro (fun _ => ?_) (And.intro (fun _ => ?_) (And.intro (fun _ => ?_) (And.intro (fun _ => ?_) (And.intro (fun _ => ?_) (And.intro (fun _ => ?_) (And.intro (fun _ => ?_) (And.intro (fun _ => ?_) (And.intro (fun _ => ?_) (And.intro (fun _ => ?_) (And.intro (fun _ => ?_) (And.intro (fun _ => ?_) (And.intro (fun _ => ?_) (And.intro (fun _ => ?_) (And.intro (fun _ => ?_) (And.intro (fun _ => ?_) (And.intro (fun _ => ?_) (And.intro (fun _ => ?_) (And.intro (fun _ => ?_) (And.intro (fun _ => ?_) (And.intro (fun _ => ?_) (And.intro (fun _ => ?_) (And.intro (fun _ => ?_) (And.intro (fun _ => ?_) (And.intro (fun _ => ?_) (And.intro (fun _ => ?_) (And.intro (fun _ => ?_) (And.intro (fun _ => ?_) (And.intro (fun _ => ?_) (And.intro (fun _ => ?_) (And.intro (fun _ => ?_) (And.intro (fun _ => ?_) (And.intro (fun _ => ?_) (And.intro (fun _ => ?_) (And.intro (fun _ => ?_) (And.intro (fun _ => ?_) (And.intro (fun _ => ?_) (And.intro (fun _ => ?_) (And.intro (fun _ => ?_) (And.intro (fun _ => ?_) (And.intro (fun _ => ?_) (And.intro (fun _ => ?_) (And.intro (fun _ => ?_) (And.intro (fun _ => ?_) (And.intro (fun _ => ?_) (And.intro (fun _ => ?_) (And.intro (fun _ => ?_) (And.intro (fun _ => ?_) (trivial))))))))))))))))))))))))))))))))))))))))))))))))))
    · exact next m R
    · exact l_L_row hL h6 R next
    · exact l_L_lay hL h6 R next
    · exact l_L_at hL h6 R next
    · exact l_L_tear hL h6 R next
    · exact l_L_copy hL h6 R next
    · exact l_L_mean hL h6 R next
    · exact l_L_text hL h6 R next
    · exact l_L_put hL h6 R next
    · exact l_L_fault hL h6 R next
    · exact l_L_street hL h6 R next
    · exact l_L_house hL h6 R next
    · exact l_L_mark hL h6 R next
    · exact l_L_altar hL h6 R next
    · exact l_L_wall hL h6 R next
    · exact l_L_hour hL h6 R next
    · exact l_L_undo hL h6 R next
    · exact l_L_jar hL h6 R next
    · exact l_L_loud hL h6 R next
    · exact l_L_made hL h6 R next
    · exact l_L_tithe hL h6 R next
    · exact l_L_pay hL h6 R next
    · exact l_L_due hL h6 R next
    · exact l_L_keep hL h6 R next
    · exact l_L_on hL h6 R next
    · exact l_L_fits hL h6 R next
    · exact l_L_sure hL h6 R next
    · exact l_L_odds hL h6 R next
    · exact l_L_thunder hL h6 R next
    · exact l_L_joined hL h6 R next
    · exact l_L_silence hL h6 R next
    · exact l_L_rises hL h6 R next
    · exact l_L_wedding hL h6 R next
    · exact l_L_feathers hL h6 R next
    · exact l_L_most hL h6 R next
    · exact l_L_hours hL h6 R next
    · exact l_L_year hL h6 R next
    · exact l_L_debt hL h6 R next
    · exact l_L_balance hL h6 R next
    · exact l_L_payments hL h6 R next
    · exact l_L_net hL h6 R next
    · exact l_L_crickets hL h6 R next
    · exact l_L_sings hL h6 R next
    · exact l_L_asked hL h6 R next
    · exact l_L_upper hL h6 R next
    · exact l_L_lower hL h6 R next
    · exact l_L_count hL h6 R next
    · exact l_L_finding hL h6 R next
    · exact l_L_findings hL h6 R next
    · exact l_L_digest hL h6 R next
termination_by L - i
decreasing_by all_goals omega

theorem law_walk {L : Nat} (hL : L ≤ 3072) {m : Mem} (h1 : ∀ o k, o.1 < 2 → gI m o k = 0) (h2 : ∀ o k, o.1 < 2 → gL m o k = 0) (h3 : ∀ s t, m.2.2.2 s t = 0) : cW 12 n_L_law [vo 2 0 L] m (fun v _ => v = some (vi 1)) := by
  have cX : ∀ (x : Nat) (K : Option Vv → Mem → Prop), x = 0 → (∀ m, XI 6 4 3 m → K none m) → cW 11 n_X_init [vo 0 0 x] (al m 0 0 1) K := fun x K e hk => by
    subst e
    exact m_X_init (d := 8) ⟨fun o k q => by rw [gI_al]; exact h1 o k q, fun o k q => by rw [gL_al]; exact h2 o k q, fun t ht => by rw [cn_al, if_neg (fun z => ht z.2)]; exact h3 0 t, fun t => by rw [cn_al, if_neg (fun z => absurd z.1 (by decide))]; exact h3 1 t⟩ hk
  refine w_L_law (Go.run (callT_mono MT _) [4] 20 ?_)
  refine And.intro ⟨(show 1 ≤ 450 by decide), (show 9 ≤ 8070 by decide)⟩ ?_
  refine And.intro ⟨(show 430 ≤ 450 by decide), (show 4380 ≤ 8070 by decide)⟩ ?_
  refine cX _ _ (h3 0 0) (fun m1 X => ?_)
  refine go_eqC (ls' := [vo 2 0 L, vo 0 0 0, vu, vu]) ?_ rfl (show _ = 430 from rfl) (show _ = 4380 from rfl) ?_
  · show [vo 2 0 L, vo 0 0 (m.2.2.2 0 0), vu, vu] = _
    rw [h3 0 0]
  refine Go.run (callT_mono MT _) [7] 20 ?_
  refine And.intro ⟨(show 431 ≤ 450 by decide), (show 4418 ≤ 8070 by decide)⟩ ?_
  refine And.intro ⟨(show 450 ≤ 450 by decide), (show 8070 ≤ 8070 by decide)⟩ ?_
  refine m_M_init (d := 10) (m := al m1 1 0 1) (X.cx.2.2.2.2.2.2.2.2.2.2 0) (fun t ht => by rw [cn_al, if_neg (fun z => ht z.2)]; exact X.cx.2.2.2.2.2.2.2.2.2.2 t) (fun m2 m3 A J => ?_)
  refine go_eqC (ls' := [vo 2 0 L, vo 0 0 0, vu, vu]) rfl rfl (show _ = 450 from rfl) (show _ = 8070 from rfl) ?_
  have e : vo 1 0 (m1.2.2.2 1 0) = vo 1 0 0 := by rw [X.cx.2.2.2.2.2.2.2.2.2.2 0]
  have key : ∀ x : Vv, x = vo 1 0 0 → Go (cW 11) i_L_law (450, 8070) (fun v _ => v = some (vi 1)) 7 [vo 2 0 L, vo 0 0 0, vu, vu] [x] m3 450 8070 := fun x ex => by
    subst ex
    refine Go.run (callT_mono MT _) [10] 20 ?_
    exact l_L_law hL 0 m3 (RelAB.init X A J) (Nat.zero_le _)
  exact key _ e
