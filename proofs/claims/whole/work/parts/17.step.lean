/-! ONE STEP, whatever it is; whole methods. -/
theorem fall_of {pcs : List Nat} {nx q : Nat} (h : fall pcs nx q = true) : pcs[nx]? = some q := of_decide_eq_true h
/-- how a method may end at a place -/
def isRet (cc : ByteArray) (ret : Option FieldType) (pc : Nat) (v : Option Vv) : Prop :=
  (∃ x : Int32, v = some (vi x) ∧ decode cc pc = .ok (.ireturn, 1) ∧ (ret = some .int ∨ (ret = some .boolean ∧ (x = 0 ∨ x = 1)))) ∨ (∃ x : Int64, v = some (vl x) ∧ decode cc pc = .ok (.lreturn, 1) ∧ ret = some .long) ∨
  (∃ x : Option Id3, v = some (vr x) ∧ decode cc pc = .ok (.areturn, 1) ∧ ret = some (.object "NoiseTithe$Kind")) ∨ (v = none ∧ decode cc pc = .ok (.return_, 1) ∧ ret = none)
section TF
variable {p : Program} {l : Launch} {e : Env} {R : Room} {s : State} {mm : MethodId} {args : Array Value} {below : List Frame} {meth : Method} {c : Code} {Q : State → Prop} {cc : ByteArray} {nL oc B b L : Nat} {xs : Nat → Int32} {kd : Nat → Nat} {D : va_G} {m0 : Mem} {ad0 ad : Id3 → Nat} {pcs : List Nat}
  {C : CT} {cap : Nat × Nat} {K : Option Vv → Mem → Prop} {ls st : List Vv} {m : Mem} {uc us pc nx a : Nat} {H : Heap} {locs : List Loc} {lsC : Array Slot}
theorem end_of {uc us : Nat} {E : Eff} {P : PT} (h : stepE C cap P K (eEnd cap uc us E)) : (uc ≤ cap.1 ∧ us ≤ cap.2) ∧ stepE C cap P K E := by
  unfold eEnd at h
  split at h
  · rename_i hb
    rw [Bool.and_eq_true] at hb
    exact ⟨⟨Nat.le_of_ble_eq_true hb.1, Nat.le_of_ble_eq_true hb.2⟩, h⟩
  · exact absurd h id
set_option maxHeartbeats 4000000 in
theorem sx_all {ini : Bool} {ret : Option FieldType} {rf rl n b' : Nat} {v : Vv} {ts : List Nat} {i : Instr} (X : CTX p s mm args c cc nL oc B b L xs kd D) (Snd : SND l B b L xs kd C) (hcap : cap.1 ≤ R.cells ∧ cap.2 ≤ R.slots) (hR : rf ≤ R.frames ∧ rl ≤ R.locals) (hini : ini = true → meth.name = "<init>")
    (hret : ∀ (pc : Nat) (v : Option Vv) (m : Mem) (ad : Id3 → Nat) (H : Heap) (locs : List Loc) (lsC : Array Slot) (ls : List Vv) (uc us : Nat), isRet cc ret pc v → K v m → uc ≤ cap.1 → us ≤ cap.2 → ST B b L xs kd D s nL m0 ad0 ad H locs lsC ls v.toList m → W p l e R s mm args below meth c H locs uc us Q (F0 mm pc lsC (v.toList.map (cv ad))))
    (hd : decode cc pc = .ok (i, n)) (hchk : chkI oc ini ret rf rl pcs pc n a b' nx v ts i = true) (hs : stepE C cap (PW p l e R s mm args below meth c Q B b L xs kd D nL m0 ad0 pcs) K (eff cap (i, a, b', nx, v, ts) ls st m uc us)) (T : ST B b L xs kd D s nL m0 ad0 ad H locs lsC ls st m) : W p l e R s mm args below meth c H locs uc us Q (F0 mm pc lsC (st.map (cv ad))) := by
  cases i
  case iconst k =>
    simp only [chkI, Bool.and_eq_true, Nat.beq_eq, decide_eq_true_eq] at hchk
    obtain ⟨⟨rfl, hf⟩, rfl⟩ := hchk
    exact sx_iconst X hd (fall_of hf) hs T
  case bipush k =>
    simp only [chkI, Bool.and_eq_true, Nat.beq_eq, decide_eq_true_eq] at hchk
    obtain ⟨⟨rfl, hf⟩, rfl⟩ := hchk
    exact sx_bipush X hd (fall_of hf) hs T
  case sipush k =>
    simp only [chkI, Bool.and_eq_true, Nat.beq_eq, decide_eq_true_eq] at hchk
    obtain ⟨⟨rfl, hf⟩, rfl⟩ := hchk
    exact sx_sipush X hd (fall_of hf) hs T
  case lconst k =>
    simp only [chkI, Bool.and_eq_true, Nat.beq_eq, decide_eq_true_eq] at hchk
    obtain ⟨⟨rfl, hf⟩, rfl⟩ := hchk
    exact sx_lconst X hd (fall_of hf) hs T
  case ldc k =>
    rcases v with x | x | x | x <;> simp only [chkI, Bool.and_eq_true, Nat.beq_eq, Bool.false_eq_true, and_false, and_true] at hchk
    obtain ⟨⟨rfl, hf⟩, hk⟩ := hchk
    exact sx_ldc X hk hd (fall_of hf) hs T
  case ldc_w k =>
    rcases v with x | x | x | x <;> simp only [chkI, Bool.and_eq_true, Nat.beq_eq, Bool.false_eq_true, and_false, and_true] at hchk
    obtain ⟨⟨rfl, hf⟩, hk⟩ := hchk
    exact sx_ldcw X hk hd (fall_of hf) hs T
  case ldc2_w k =>
    rcases v with x | x | x | x <;> simp only [chkI, Bool.and_eq_true, Nat.beq_eq, Bool.false_eq_true, and_false, and_true] at hchk
    obtain ⟨⟨rfl, hf⟩, hk⟩ := hchk
    exact sx_ldc2 X hk hd (fall_of hf) hs T
  case aconst_null =>
    simp only [chkI, Bool.and_eq_true, Nat.beq_eq] at hchk
    obtain ⟨rfl, hf⟩ := hchk
    exact sx_null X hd (fall_of hf) hs T
  case getstatic k =>
    rw [show chkI oc ini ret rf rl pcs pc n a b' nx v ts (.getstatic k) = (Nat.beq n 3 && fall pcs nx (pc + 3) && staL.any (fun e => Nat.beq e.1 oc && Nat.beq e.2.1 k && Nat.beq e.2.2.1 a)) from rfl, Bool.and_eq_true, Bool.and_eq_true, Nat.beq_eq] at hchk
    obtain ⟨⟨rfl, hf⟩, hk⟩ := hchk
    exact sx_getstatic X hk hd (fall_of hf) hs T
  case iload k =>
    simp only [chkI, Bool.and_eq_true, Nat.beq_eq] at hchk
    obtain ⟨⟨rfl, hf⟩, rfl⟩ := hchk
    exact sx_iload X hd (fall_of hf) hs T
  case istore k =>
    simp only [chkI, Bool.and_eq_true, Nat.beq_eq] at hchk
    obtain ⟨⟨rfl, hf⟩, rfl⟩ := hchk
    exact sx_istore X hd (fall_of hf) hs T
  case iload_n k =>
    simp only [chkI, Bool.and_eq_true, Nat.beq_eq] at hchk
    obtain ⟨⟨rfl, hf⟩, rfl⟩ := hchk
    exact sx_iload_n X hd (fall_of hf) hs T
  case istore_n k =>
    simp only [chkI, Bool.and_eq_true, Nat.beq_eq] at hchk
    obtain ⟨⟨rfl, hf⟩, rfl⟩ := hchk
    exact sx_istore_n X hd (fall_of hf) hs T
  case lload k =>
    simp only [chkI, Bool.and_eq_true, Nat.beq_eq] at hchk
    obtain ⟨⟨rfl, hf⟩, rfl⟩ := hchk
    exact sx_lload X hd (fall_of hf) hs T
  case lstore k =>
    simp only [chkI, Bool.and_eq_true, Nat.beq_eq] at hchk
    obtain ⟨⟨rfl, hf⟩, rfl⟩ := hchk
    exact sx_lstore X hd (fall_of hf) hs T
  case lload_n k =>
    simp only [chkI, Bool.and_eq_true, Nat.beq_eq] at hchk
    obtain ⟨⟨rfl, hf⟩, rfl⟩ := hchk
    exact sx_lload_n X hd (fall_of hf) hs T
  case lstore_n k =>
    simp only [chkI, Bool.and_eq_true, Nat.beq_eq] at hchk
    obtain ⟨⟨rfl, hf⟩, rfl⟩ := hchk
    exact sx_lstore_n X hd (fall_of hf) hs T
  case aload k =>
    simp only [chkI, Bool.and_eq_true, Nat.beq_eq] at hchk
    obtain ⟨⟨rfl, hf⟩, rfl⟩ := hchk
    exact sx_aload X hd (fall_of hf) hs T
  case astore k =>
    simp only [chkI, Bool.and_eq_true, Nat.beq_eq] at hchk
    obtain ⟨⟨rfl, hf⟩, rfl⟩ := hchk
    exact sx_astore X hd (fall_of hf) hs T
  case aload_n k =>
    simp only [chkI, Bool.and_eq_true, Nat.beq_eq] at hchk
    obtain ⟨⟨rfl, hf⟩, rfl⟩ := hchk
    exact sx_aload_n X hd (fall_of hf) hs T
  case astore_n k =>
    simp only [chkI, Bool.and_eq_true, Nat.beq_eq] at hchk
    obtain ⟨⟨rfl, hf⟩, rfl⟩ := hchk
    exact sx_astore_n X hd (fall_of hf) hs T
  case iinc k c9 =>
    simp only [chkI, Bool.and_eq_true, Nat.beq_eq, decide_eq_true_eq] at hchk
    obtain ⟨⟨⟨rfl, hf⟩, rfl⟩, rfl⟩ := hchk
    exact sx_iinc X hd (fall_of hf) hs T
  case iadd =>
    simp only [chkI, Bool.and_eq_true, Nat.beq_eq] at hchk
    obtain ⟨rfl, hf⟩ := hchk
    exact sx_iadd X hd (fall_of hf) hs T
  case isub =>
    simp only [chkI, Bool.and_eq_true, Nat.beq_eq] at hchk
    obtain ⟨rfl, hf⟩ := hchk
    exact sx_isub X hd (fall_of hf) hs T
  case imul =>
    simp only [chkI, Bool.and_eq_true, Nat.beq_eq] at hchk
    obtain ⟨rfl, hf⟩ := hchk
    exact sx_imul X hd (fall_of hf) hs T
  case iand =>
    simp only [chkI, Bool.and_eq_true, Nat.beq_eq] at hchk
    obtain ⟨rfl, hf⟩ := hchk
    exact sx_iand X hd (fall_of hf) hs T
  case ior =>
    simp only [chkI, Bool.and_eq_true, Nat.beq_eq] at hchk
    obtain ⟨rfl, hf⟩ := hchk
    exact sx_ior X hd (fall_of hf) hs T
  case ixor =>
    simp only [chkI, Bool.and_eq_true, Nat.beq_eq] at hchk
    obtain ⟨rfl, hf⟩ := hchk
    exact sx_ixor X hd (fall_of hf) hs T
  case ishl =>
    simp only [chkI, Bool.and_eq_true, Nat.beq_eq] at hchk
    obtain ⟨rfl, hf⟩ := hchk
    exact sx_ishl X hd (fall_of hf) hs T
  case ishr =>
    simp only [chkI, Bool.and_eq_true, Nat.beq_eq] at hchk
    obtain ⟨rfl, hf⟩ := hchk
    exact sx_ishr X hd (fall_of hf) hs T
  case iushr =>
    simp only [chkI, Bool.and_eq_true, Nat.beq_eq] at hchk
    obtain ⟨rfl, hf⟩ := hchk
    exact sx_iushr X hd (fall_of hf) hs T
  case idiv =>
    simp only [chkI, Bool.and_eq_true, Nat.beq_eq] at hchk
    obtain ⟨rfl, hf⟩ := hchk
    exact sx_idiv X hd (fall_of hf) hs T
  case irem =>
    simp only [chkI, Bool.and_eq_true, Nat.beq_eq] at hchk
    obtain ⟨rfl, hf⟩ := hchk
    exact sx_irem X hd (fall_of hf) hs T
  case ineg =>
    simp only [chkI, Bool.and_eq_true, Nat.beq_eq] at hchk
    obtain ⟨rfl, hf⟩ := hchk
    exact sx_ineg X hd (fall_of hf) hs T
  case i2b =>
    simp only [chkI, Bool.and_eq_true, Nat.beq_eq] at hchk
    obtain ⟨rfl, hf⟩ := hchk
    exact sx_i2b X hd (fall_of hf) hs T
  case ladd =>
    simp only [chkI, Bool.and_eq_true, Nat.beq_eq] at hchk
    obtain ⟨rfl, hf⟩ := hchk
    exact sx_ladd X hd (fall_of hf) hs T
  case lsub =>
    simp only [chkI, Bool.and_eq_true, Nat.beq_eq] at hchk
    obtain ⟨rfl, hf⟩ := hchk
    exact sx_lsub X hd (fall_of hf) hs T
  case lmul =>
    simp only [chkI, Bool.and_eq_true, Nat.beq_eq] at hchk
    obtain ⟨rfl, hf⟩ := hchk
    exact sx_lmul X hd (fall_of hf) hs T
  case ldiv =>
    simp only [chkI, Bool.and_eq_true, Nat.beq_eq] at hchk
    obtain ⟨rfl, hf⟩ := hchk
    exact sx_ldiv X hd (fall_of hf) hs T
  case lrem =>
    simp only [chkI, Bool.and_eq_true, Nat.beq_eq] at hchk
    obtain ⟨rfl, hf⟩ := hchk
    exact sx_lrem X hd (fall_of hf) hs T
  case lcmp =>
    simp only [chkI, Bool.and_eq_true, Nat.beq_eq] at hchk
    obtain ⟨rfl, hf⟩ := hchk
    exact sx_lcmp X hd (fall_of hf) hs T
  case i2l =>
    simp only [chkI, Bool.and_eq_true, Nat.beq_eq] at hchk
    obtain ⟨rfl, hf⟩ := hchk
    exact sx_i2l X hd (fall_of hf) hs T
  case l2i =>
    simp only [chkI, Bool.and_eq_true, Nat.beq_eq] at hchk
    obtain ⟨rfl, hf⟩ := hchk
    exact sx_l2i X hd (fall_of hf) hs T
  case iaload =>
    simp only [chkI, Bool.and_eq_true, Nat.beq_eq] at hchk
    obtain ⟨rfl, hf⟩ := hchk
    exact sx_iaload X hd (fall_of hf) hs T
  case baload =>
    simp only [chkI, Bool.and_eq_true, Nat.beq_eq] at hchk
    obtain ⟨rfl, hf⟩ := hchk
    exact sx_baload X hd (fall_of hf) hs T
  case aaload =>
    simp only [chkI, Bool.and_eq_true, Nat.beq_eq] at hchk
    obtain ⟨rfl, hf⟩ := hchk
    exact sx_aaload X hd (fall_of hf) hs T
  case iastore =>
    simp only [chkI, Bool.and_eq_true, Nat.beq_eq] at hchk
    obtain ⟨rfl, hf⟩ := hchk
    exact sx_iastore X hd (fall_of hf) hs T
  case bastore =>
    simp only [chkI, Bool.and_eq_true, Nat.beq_eq] at hchk
    obtain ⟨rfl, hf⟩ := hchk
    exact sx_bastore X hd (fall_of hf) hs T
  case aastore =>
    simp only [chkI, Bool.and_eq_true, Nat.beq_eq] at hchk
    obtain ⟨rfl, hf⟩ := hchk
    exact sx_aastore X hd (fall_of hf) hs T
  case arraylength =>
    simp only [chkI, Bool.and_eq_true, Nat.beq_eq] at hchk
    obtain ⟨rfl, hf⟩ := hchk
    exact sx_arraylength X hd (fall_of hf) hs T
  case dup =>
    simp only [chkI, Bool.and_eq_true, Nat.beq_eq] at hchk
    obtain ⟨rfl, hf⟩ := hchk
    exact sx_dup X hd (fall_of hf) hs T
  case pop =>
    simp only [chkI, Bool.and_eq_true, Nat.beq_eq] at hchk
    obtain ⟨rfl, hf⟩ := hchk
    exact sx_pop X hd (fall_of hf) hs T
  case dup2 =>
    simp only [chkI, Bool.and_eq_true, Nat.beq_eq] at hchk
    obtain ⟨rfl, hf⟩ := hchk
    exact sx_dup2 X hd (fall_of hf) hs T
  case goto off =>
    simp only [chkI, Bool.and_eq_true, Nat.beq_eq] at hchk
    obtain ⟨rfl, hj⟩ := hchk
    obtain ⟨q, hq, ht⟩ := jmp_of hj
    exact sx_goto X ht hq hd hs T
  case if_icmp cd off =>
    simp only [chkI, Bool.and_eq_true, Nat.beq_eq] at hchk
    obtain ⟨⟨rfl, hf⟩, hj⟩ := hchk
    obtain ⟨q, hq, ht⟩ := jmp_of hj
    cases cd
    case eq => exact sx_icmp_eq X ht hq hd (fall_of hf) hs T
    case ne => exact sx_icmp_ne X ht hq hd (fall_of hf) hs T
    case lt => exact sx_icmp_lt X ht hq hd (fall_of hf) hs T
    case ge => exact sx_icmp_ge X ht hq hd (fall_of hf) hs T
    case gt => exact sx_icmp_gt X ht hq hd (fall_of hf) hs T
    case le => exact sx_icmp_le X ht hq hd (fall_of hf) hs T
  case ifCond cd off =>
    simp only [chkI, Bool.and_eq_true, Nat.beq_eq] at hchk
    obtain ⟨⟨rfl, hf⟩, hj⟩ := hchk
    obtain ⟨q, hq, ht⟩ := jmp_of hj
    cases cd
    case eq => exact sx_if_eq X ht hq hd (fall_of hf) hs T
    case ne => exact sx_if_ne X ht hq hd (fall_of hf) hs T
    case lt => exact sx_if_lt X ht hq hd (fall_of hf) hs T
    case ge => exact sx_if_ge X ht hq hd (fall_of hf) hs T
    case gt => exact sx_if_gt X ht hq hd (fall_of hf) hs T
    case le => exact sx_if_le X ht hq hd (fall_of hf) hs T
  case if_acmp cd off =>
    simp only [chkI, Bool.and_eq_true, Nat.beq_eq] at hchk
    obtain ⟨⟨rfl, hf⟩, hj⟩ := hchk
    obtain ⟨q, hq, ht⟩ := jmp_of hj
    cases cd
    case eq => exact sx_acmp_eq X ht hq hd (fall_of hf) hs T
    case ne => exact sx_acmp_ne X ht hq hd (fall_of hf) hs T
  case ifnull off =>
    simp only [chkI, Bool.and_eq_true, Nat.beq_eq] at hchk
    obtain ⟨⟨rfl, hf⟩, hj⟩ := hchk
    obtain ⟨q, hq, ht⟩ := jmp_of hj
    exact sx_ifnull X ht hq hd (fall_of hf) hs T
  case ifnonnull off =>
    simp only [chkI, Bool.and_eq_true, Nat.beq_eq] at hchk
    obtain ⟨⟨rfl, hf⟩, hj⟩ := hchk
    obtain ⟨q, hq, ht⟩ := jmp_of hj
    exact sx_ifnonnull X ht hq hd (fall_of hf) hs T
  case getfield k =>
    rw [chkI, Bool.and_eq_true, Bool.and_eq_true, Nat.beq_eq] at hchk
    obtain ⟨⟨rfl, hf⟩, hk⟩ := hchk
    exact sx_getfield X hd (fall_of hf) hk hs T
  case putfield k =>
    rw [chkI, Bool.and_eq_true, Bool.and_eq_true, Nat.beq_eq] at hchk
    obtain ⟨⟨rfl, hf⟩, hk⟩ := hchk
    exact sx_putfield X hini hd (fall_of hf) hk hs T
  case new k =>
    rw [chkI, Bool.and_eq_true, Bool.and_eq_true, Bool.and_eq_true, Bool.and_eq_true, Nat.beq_eq, decide_eq_true_eq] at hchk
    obtain ⟨⟨⟨⟨rfl, hf⟩, ht⟩, hts⟩, hk⟩ := hchk
    exact sx_new X hcap hk ht hts hd (fall_of hf) hs T
  case newarray t =>
    rw [chkI, Bool.and_eq_true, Bool.and_eq_true, Bool.and_eq_true, Nat.beq_eq, Bool.or_eq_true, Bool.and_eq_true, Bool.and_eq_true, decide_eq_true_eq, decide_eq_true_eq, Nat.beq_eq, Nat.beq_eq] at hchk
    obtain ⟨⟨⟨rfl, hf⟩, ht⟩, hk⟩ := hchk
    exact sx_newarray X hcap ht hk hd (fall_of hf) hs T
  case anewarray k =>
    rw [chkI, Bool.and_eq_true, Bool.and_eq_true, Bool.and_eq_true, Nat.beq_eq] at hchk
    obtain ⟨⟨⟨rfl, hf⟩, ht⟩, hk⟩ := hchk
    exact sx_anewarray X hcap hk ht hd (fall_of hf) hs T
  case multianewarray k d =>
    simp only [chkI, Bool.and_eq_true, Nat.beq_eq, decide_eq_true_eq] at hchk
    obtain ⟨⟨⟨⟨⟨⟨⟨rfl, hf⟩, rfl⟩, rfl⟩, hoc⟩, rfl⟩, rfl⟩, rfl⟩ := hchk
    exact sx_multi X hcap hoc hd (fall_of hf) hs T
  case tableswitch d lo hi offs =>
    rw [chkI, Bool.and_eq_true, Bool.and_eq_true, Bool.and_eq_true, Bool.and_eq_true, Bool.and_eq_true, decide_eq_true_eq, decide_eq_true_eq, Nat.beq_eq] at hchk
    obtain ⟨⟨⟨⟨⟨h1, h2⟩, h3⟩, h4⟩, h5⟩, h6⟩ := hchk
    exact sx_table X hd h1 h2 h3 h4 h5 (Nat.le_of_ble_eq_true h6) hs T
  case invokevirtual k =>
    replace hs := end_of hs
    obtain ⟨hu, hs⟩ := hs
    change (Nat.beq n 3 && fall pcs nx (pc + 3) && _) = true at hchk
    rw [Bool.and_eq_true, Bool.and_eq_true, Nat.beq_eq] at hchk
    obtain ⟨⟨rfl, hf⟩, hk⟩ := hchk
    rcases ts with _ | ⟨mc, _ | ⟨ms, _ | ⟨c9, _ | ⟨z, zs⟩⟩⟩⟩ <;> try exact Bool.noConfusion hk
    exact sx_call X Snd hcap hR (Or.inl rfl) hk (Or.inl ⟨rfl, hd⟩) (fall_of hf) hu hs T
  case invokespecial k =>
    replace hs := end_of hs
    obtain ⟨hu, hs⟩ := hs
    change (Nat.beq n 3 && fall pcs nx (pc + 3) && _) = true at hchk
    rw [Bool.and_eq_true, Bool.and_eq_true, Nat.beq_eq] at hchk
    obtain ⟨⟨rfl, hf⟩, hk⟩ := hchk
    rcases ts with _ | ⟨mc, _ | ⟨ms, _ | ⟨c9, _ | ⟨z, zs⟩⟩⟩⟩ <;> try exact Bool.noConfusion hk
    · dsimp only at hk
      rw [Bool.and_eq_true, Nat.beq_eq, chkPrm, Bool.and_eq_true, Bool.and_eq_true] at hk
      obtain ⟨rfl, ⟨hk, h1⟩, h2⟩ := hk
      exact sx_obj X (Nat.le_trans (Nat.le_of_ble_eq_true h1) hR.1) (Nat.le_trans (Nat.le_of_ble_eq_true h2) hR.2) hk hd (fall_of hf) hs T
    · exact sx_call X Snd hcap hR (Or.inr (Or.inr rfl)) hk (Or.inr (Or.inr ⟨rfl, hd⟩)) (fall_of hf) hu hs T
  case invokestatic k =>
    replace hs := end_of hs
    obtain ⟨hu, hs⟩ := hs
    change (Nat.beq n 3 && fall pcs nx (pc + 3) && _) = true at hchk
    rw [Bool.and_eq_true, Bool.and_eq_true, Nat.beq_eq] at hchk
    obtain ⟨⟨rfl, hf⟩, hk⟩ := hchk
    rcases ts with _ | ⟨mc, _ | ⟨ms, _ | ⟨c9, _ | ⟨z, zs⟩⟩⟩⟩ <;> try exact Bool.noConfusion hk
    · dsimp only at hk
      rw [Bool.and_eq_true, Bool.and_eq_true, chkPrm, Bool.and_eq_true, Bool.and_eq_true] at hk
      obtain ⟨⟨ha2, ha5⟩, ⟨hk, h1⟩, h2⟩ := hk
      have ha2 : 2 ≤ a := Nat.le_of_ble_eq_true ha2
      have ha5 : a ≤ 5 := Nat.le_of_ble_eq_true ha5
      have h1 : 1 ≤ R.frames := Nat.le_trans (Nat.le_of_ble_eq_true h1) hR.1
      have h2 : 40 ≤ R.locals := Nat.le_trans (Nat.le_of_ble_eq_true h2) hR.2
      by_cases h : a = 2
      · subst h
        exact sx_copy X h1 h2 hk hd (fall_of hf) hs T
      · exact sx_math X ⟨Nat.le_trans hu.1 hcap.1, Nat.le_trans hu.2 hcap.2⟩ h1 h2 (by omega) hk hd (fall_of hf) hs T
    · exact sx_call X Snd hcap hR (Or.inr (Or.inl rfl)) hk (Or.inr (Or.inl ⟨rfl, hd⟩)) (fall_of hf) hu hs T
  case ireturn =>
    replace hs := end_of hs
    obtain ⟨hu, hs⟩ := hs
    simp only [chkI, Bool.and_eq_true, Nat.beq_eq, Bool.or_eq_true, decide_eq_true_eq] at hchk
    obtain ⟨rfl, hk⟩ := hchk
    unfold eRet at hs
    split at hs
    · rename_i x
      rcases hk with ⟨h, hr⟩ | ⟨h, hr⟩
      · exact hret pc (some (vi x)) m ad H locs lsC ls uc us (Or.inl ⟨x, rfl, hd, Or.inl hr⟩) hs.2 hu.1 hu.2 T
      · cases h
    · rename_i x
      rcases hk with ⟨h, hr⟩ | ⟨h, hr⟩
      · cases h
      · exact hret pc (some (vi x)) m ad H locs lsC ls uc us (Or.inl ⟨x, rfl, hd, Or.inr ⟨hr, hs.1⟩⟩) hs.2 hu.1 hu.2 T
    · exact absurd hs id
  case lreturn =>
    replace hs := end_of hs
    obtain ⟨hu, hs⟩ := hs
    simp only [chkI, Bool.and_eq_true, Nat.beq_eq, decide_eq_true_eq] at hchk
    obtain ⟨rfl, hr⟩ := hchk
    unfold eRetL at hs
    split at hs
    · rename_i x
      exact hret pc (some (vl x)) m ad H locs lsC ls uc us (Or.inr (Or.inl ⟨x, rfl, hd, hr⟩)) hs.2 hu.1 hu.2 T
    · exact absurd hs id
  case areturn =>
    replace hs := end_of hs
    obtain ⟨hu, hs⟩ := hs
    simp only [chkI, Bool.and_eq_true, Nat.beq_eq, decide_eq_true_eq] at hchk
    obtain ⟨rfl, hr⟩ := hchk
    unfold eRetA at hs
    split at hs
    · rename_i x
      exact hret pc (some (vr x)) m ad H locs lsC ls uc us (Or.inr (Or.inr (Or.inl ⟨x, rfl, hd, hr⟩))) hs.2 hu.1 hu.2 T
    · exact absurd hs id
  case return_ =>
    replace hs := end_of hs
    obtain ⟨hu, hs⟩ := hs
    simp only [chkI, Bool.and_eq_true, Nat.beq_eq, decide_eq_true_eq] at hchk
    obtain ⟨rfl, hr⟩ := hchk
    unfold eRetV at hs
    split at hs
    · exact hret pc none m ad H locs lsC ls uc us (Or.inr (Or.inr (Or.inr ⟨rfl, hd, hr⟩))) hs.2 hu.1 hu.2 T
    · exact absurd hs id
  all_goals exact Bool.noConfusion hchk
end TF
