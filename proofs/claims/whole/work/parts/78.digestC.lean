/-! Written by a program (wip/whole/p78.py): digest, the reference. -/
def Mq (m0 m : Mem) (h : Int64) : Prop := Fr m0 m ∧ gL m (1, 0, 0) 37 = h
theorem Mq.put {m0 m : Mem} {h h' : Int64} (H : Mq m0 m h) : Mq m0 (pL m (1, 0, 0) 37 h') h' := by
  obtain ⟨⟨a1, a2, a3, a4, a5, a6, a7⟩, -⟩ := H
  exact ⟨⟨a1.pL, fun o k => (gR_pL ..).trans (a2 o k), fun k => a3 k, fun k hk => by
    rw [gL_pL m (1, 0, 0) 37 h' (1, 0, 0) k (by decide) (Or.inl (by decide)), if_neg (fun z => by have := z.2; omega)]
    exact a4 k hk, fun t i k q => a5 t i k q, fun k q => a6 k q, fun t k q1 q2 q3 => a7 t k q1 q2 q3⟩, by
    rw [gL_pL m (1, 0, 0) 37 h' (1, 0, 0) 37 (by decide) (Or.inl (by decide)), if_pos ⟨rfl, rfl⟩]⟩

theorem m_M_mix {d : Nat} {m0 m : Mem} {K : Option Vv → Mem → Prop} {h0 : Int64} {v : Int32} (H : Mq m0 m h0) (h : ∀ m', Mq m0 m' (mx h0 v) → K none m') : cW (d + 1) n_M_mix [vo 1 0 0, vi v] m K := by
  have hR := H.1.ok
  refine w_M_mix (Go.runR (callT_mono MT _) [] 200 hR ?_)
  refine And.intro trivial ?_
  have e : gL m (1, 0, 0) 37 = h0 := H.2
  subst e
  exact h _ H.put
