/-! Written by a program (wip/whole/p25.py): whole contents written; renew, row. -/
def sI (m : Mem) (o : Id3) (f : Nat → Int32) : Mem := sS m o.1 (fun t i k => if t = o.2.1 ∧ i = o.2.2 then f k else (sd m o.1).1 t i k, (sd m o.1).2)
theorem sI00 (m : Mem) (t i : Nat) (f : Nat → Int32) (t' i' k' : Nat) : gI (sI m (0, t, i) f) (0, t', i') k' = if t' = t ∧ i' = i then f k' else gI m (0, t', i') k' := rfl
theorem sI11 (m : Mem) (t i : Nat) (f : Nat → Int32) (t' i' k' : Nat) : gI (sI m (1, t, i) f) (1, t', i') k' = if t' = t ∧ i' = i then f k' else gI m (1, t', i') k' := rfl
theorem sI01 (m : Mem) (t i : Nat) (f : Nat → Int32) (t' i' k' : Nat) : gI (sI m (0, t, i) f) (1, t', i') k' = gI m (1, t', i') k' := rfl
theorem sI10 (m : Mem) (t i : Nat) (f : Nat → Int32) (t' i' k' : Nat) : gI (sI m (1, t, i) f) (0, t', i') k' = gI m (0, t', i') k' := rfl
theorem gR_sI (m : Mem) (o : Id3) (f : Nat → Int32) (o' : Id3) (k : Nat) : gR (sI m o f) o' k = gR m o' k := by
  obtain ⟨a, t, i⟩ := o
  obtain ⟨a', t', i'⟩ := o'
  rcases a with _ | _ | a <;> rcases a' with _ | _ | a' <;> rfl
theorem OKR.wI {m : Mem} {o : Id3} {f : Nat → Int32} (H : OKR m) : OKR (sI m o f) := H.cg fun _ _ => gR_sI ..
theorem sI_pI0 (m : Mem) (t i k : Nat) (v : Int32) (f : Nat → Int32) : sI (pI m (0, t, i) k v) (0, t, i) f = sI m (0, t, i) f := by
  refine Prod.ext (Prod.ext ?_ rfl) rfl
  funext t' i' k'
  show (if t' = t ∧ i' = i then f k' else if t' = t ∧ i' = i ∧ k' = k then v else m.1.1 t' i' k') = if t' = t ∧ i' = i then f k' else m.1.1 t' i' k'
  grind
theorem sI_pI1 (m : Mem) (t i k : Nat) (v : Int32) (f : Nat → Int32) : sI (pI m (1, t, i) k v) (1, t, i) f = sI m (1, t, i) f := by
  refine Prod.ext rfl (Prod.ext (Prod.ext ?_ rfl) rfl)
  funext t' i' k'
  show (if t' = t ∧ i' = i then f k' else if t' = t ∧ i' = i ∧ k' = k then v else m.2.1.1 t' i' k') = if t' = t ∧ i' = i then f k' else m.2.1.1 t' i' k'
  grind
theorem sI_self0 (m : Mem) (t i : Nat) (f : Nat → Int32) (h : ∀ k, f k = gI m (0, t, i) k) : sI m (0, t, i) f = m := by
  refine Prod.ext (Prod.ext ?_ rfl) rfl
  funext t' i' k'
  show (if t' = t ∧ i' = i then f k' else m.1.1 t' i' k') = m.1.1 t' i' k'
  split
  · rename_i q
    obtain ⟨rfl, rfl⟩ := q
    exact h k'
  · rfl
theorem sI_self1 (m : Mem) (t i : Nat) (f : Nat → Int32) (h : ∀ k, f k = gI m (1, t, i) k) : sI m (1, t, i) f = m := by
  refine Prod.ext rfl (Prod.ext (Prod.ext ?_ rfl) rfl)
  funext t' i' k'
  show (if t' = t ∧ i' = i then f k' else m.2.1.1 t' i' k') = m.2.1.1 t' i' k'
  split
  · rename_i q
    obtain ⟨rfl, rfl⟩ := q
    exact h k'
  · rfl
theorem go_eq {C : CT} {cd : List Ins} {cap : Nat × Nat} {K : Option Vv → Mem → Prop} {ix : Nat} {ls ls' st : List Vv} {m m' : Mem} {uc us : Nat} (e : ls = ls') (e2 : m = m') (h : Go C cd cap K ix ls' st m' uc us) : Go C cd cap K ix ls st m uc us := by subst e; subst e2; exact h
theorem ln2_le (c : Nat) : ln (0, 2, c) ≤ 80 := by
  show (if c < 6 then 40 else 80) ≤ 80
  split <;> decide

theorem l_Ce_renew {d : Nat} {K : Option Vv → Mem → Prop} {c s : Nat} {v nn : Int32} (hc : c < 10) (hl : s ≤ ln (0, 2, c)) (k : Nat) (m : Mem) (hR : OKR m) (hs : gI m (0, 1, c) 1 = nI s) (hk : k ≤ s) (h : K none (sI m (0, 2, c) (fun j => if k ≤ j ∧ j < s then v else gI m (0, 2, c) j))) : Go (cW d) i_Ce_renew (0, 0) K 11 [vo 0 1 c, vi nn, vi v, vi (nI k)] [] m 0 0 := by
  have hs8 := Nat.le_trans hl (ln2_le c)
  refine Go.runR (callT_mono MT _) [11] 200 hR ?_
  refine And.intro (fun c14 => ?_) (fun c14 => ?_)
  · try dsimp only at c14
    refine And.intro trivial ?_
    have q : s ≤ k := (nI_leI (by omega) (by omega)).mp (by rw [← hs]; exact c14)
    rw [sI_self0] at h
    · exact h
    · intro j; rw [if_neg (by omega)]
  · try dsimp only at c14
    have q : k < s := by have := mt (nI_leI (a := s) (b := k) (by omega) (by omega)).mpr (by rw [← hs]; exact c14); omega
    refine And.intro ⟨(by first | decide | assumption | omega), (by first | decide | assumption | omega)⟩ ?_
    refine And.intro (vp_nI (by omega) (ln2_lt c)) ?_
    refine go_eq (ls' := [vo 0 1 c, vi nn, vi v, vi (nI (k + 1))]) (by rw [nI_succ]; rfl) (congrArg (fun z => pI m (0, 2, c) z v) (nI_clamp (n := k) (by omega))) (l_Ce_renew hc hl (k + 1) _ hR.pI hs (by omega) ?_)
    rw [sI_pI0]
    have e : (fun j => if k + 1 ≤ j ∧ j < s then v else gI (pI m (0, 2, c) k v) (0, 2, c) j) = (fun j => if k ≤ j ∧ j < s then v else gI m (0, 2, c) j) := by
      funext j
      rw [rd00]
      grind
    rw [e]
    exact h
termination_by s - k
decreasing_by omega
