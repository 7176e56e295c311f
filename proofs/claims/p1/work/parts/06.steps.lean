section AM3
variable {l : Launch} {G : GG} {p : Program} {e : Env} {R : Room} {s : State} {m : MethodId} {args : Array Value} {below : List Frame} {meth : Method} {c : Code} {own : Nat} {g : SG} {mc ms : Nat} {Q : State → Prop} {pc : Nat} {lv : LV} {r st : List Value} {h : AH} {nx k n : Nat}
theorem fetch_mem : ∀ {es : List CE} {pc : Nat} {q : Instr × Nat × Nat × Nat × Nat × Int32 × Int64}, fetch es pc = some q → (pc, q) ∈ es
  | [], _, _, h => by cases h
  | x :: es, pc, q, h => by
    unfold fetch at h
    cases hb : Nat.beq x.1 pc with
    | true =>
      rw [hb] at h
      have e1 := Nat.eq_of_beq_eq_true hb
      have e2 : x.2 = q := Option.some.inj h
      rw [← e1, ← e2]
      exact List.mem_cons_self
    | false =>
      rw [hb] at h
      exact List.mem_cons_of_mem _ (fetch_mem h)
theorem ldOK {own i : Nat} {v : Int32} (h : LDt.any (fun q => Nat.beq q.1 own && (Nat.beq q.2.1 i && decide (q.2.2.1 = v))) = true) : Cond.constant (RN own) i v ∈ TB := by
  obtain ⟨q, hq, hb⟩ := List.any_eq_true.mp h
  simp only [Bool.and_eq_true, decide_eq_true_eq] at hb
  have e1 := Nat.eq_of_beq_eq_true hb.1
  have e2 := Nat.eq_of_beq_eq_true hb.2.1
  have hw := wAt_ok (LDt_ok q hq)
  rw [e1, e2, hb.2.2] at hw
  exact hw
theorem llOK {own i : Nat} {v : Int64} (h : LLt.any (fun q => Nat.beq q.1 own && (Nat.beq q.2.1 i && decide (q.2.2.1 = v))) = true) : Cond.constantLong (RN own) i v ∈ TB := by
  obtain ⟨q, hq, hb⟩ := List.any_eq_true.mp h
  simp only [Bool.and_eq_true, decide_eq_true_eq] at hb
  have e1 := Nat.eq_of_beq_eq_true hb.1
  have e2 := Nat.eq_of_beq_eq_true hb.2.1
  have hw := wAt_ok (LLt_ok q hq)
  rw [e1, e2, hb.2.2] at hw
  exact hw
def isRet (i : Instr) : Bool := match i with
  | .ireturn => true
  | .lreturn => true
  | .areturn => true
  | .return_ => true
  | _ => false
theorem Runs.mono {b c1 s1 : Nat} {As : List Value} {P P' : Option Value → AH → Nat → Prop} (hP : ∀ u h nx, P u h nx → P' u h nx) (hr : Runs l G b c1 s1 As h nx P) : Runs l G b c1 s1 As h nx P' := by
  intro p e h1 h2 h3 s m args below h4 h5 h6 h7
  obtain ⟨n, o, a1, a2, a3, ⟨⟨⟨r, h', nx', e1, e2, e3⟩, e4⟩, e5⟩⟩ := hr p e h1 h2 h3 s m args below h4 h5 h6 h7
  exact ⟨n, o, a1, a2, a3, ⟨⟨⟨r, h', nx', e1, hP _ _ _ e2, e3⟩, e4⟩, e5⟩⟩
theorem tsw_mono {x : Int32} {pc : Nat} {K K' : Nat → Prop} (hK : ∀ t, K t → K' t) : ∀ {lo : Int} {offs : List Int}, tsw x pc K lo offs → tsw x pc K' lo offs
  | _, [], _ => trivial
  | _, _ :: _, h => ⟨fun z => hK _ (h.1 z), tsw_mono hK h.2⟩
/-- a row of code that asks what a text constant is -/
def isStr (e : CE) : Bool := match e.2.1 with
  | .ldc _ => Nat.blt 0 e.2.2.2.2.1
  | .invokevirtual _ => Nat.blt 81 e.2.2.2.2.2.1
  | _ => false
set_option maxHeartbeats 4000000 in
theorem step_ok (C : Cx G p R s m args meth c own g mc ms) {es : List CE} (hT0 : es.any isStr = true → TX l G) (hck : CK own g es = true) {Ret : Instr → List Value → AH → Nat → Prop}
    (hret : ∀ (ins : Instr) (a b cc : Nat) (v : Int32) (w : Int64), isRet ins = true → decode g.2.1 pc = .ok (ins, 1) → xchk own g pc ins a b cc v w = true → Ret ins st h nx → Sem l G p e R s m args below meth c g.2.2.1 mc ms Q pc lv st h nx k n)
    {K : Nat → LV → List Value → AH → Nat → Nat → Nat → Prop} (hK : ∀ {pc : Nat} {lv : LV} {st : List Value} {h : AH} {nx k n : Nat}, K pc lv st h nx k n → Sem l G p e R s m args below meth c g.2.2.1 mc ms Q pc lv st h nx k n) (hs : stp G.2.2.2.2 (Runs l G) es Ret mc ms K pc lv st h nx k n) : Sem l G p e R s m args below meth c g.2.2.1 mc ms Q pc lv st h nx k n := by
  unfold stp at hs
  cases hf : fetch es pc with
  | none => rw [hf] at hs; exact hs.elim
  | some q =>
    obtain ⟨ins, nxt, a, b, cc, v, w⟩ := q
    rw [hf] at hs
    have hc := List.all_eq_true.mp hck _ (fetch_mem hf)
    unfold chkE at hc
    rw [Bool.and_eq_true, Bool.and_eq_true, decide_eq_true_eq] at hc
    obtain ⟨hd, hnx, hx⟩ := hc
    have hnx := Nat.eq_of_beq_eq_true hnx
    dsimp only at hd hnx hx hs
    cases ins with
    | iconst i =>
      have hd : decode g.2.1 pc = .ok (.iconst i, 1) := hd
      have hnx : nxt = pc + 1 := hnx
      subst hnx
      try dsimp only at hs
      exact so_iconst C hd (of_decide_eq_true hx) (hK hs)
    | bipush i =>
      have hd : decode g.2.1 pc = .ok (.bipush i, 2) := hd
      have hnx : nxt = pc + 2 := hnx
      subst hnx
      try dsimp only at hs
      exact so_bipush C hd (of_decide_eq_true hx) (hK hs)
    | sipush i =>
      have hd : decode g.2.1 pc = .ok (.sipush i, 3) := hd
      have hnx : nxt = pc + 3 := hnx
      subst hnx
      try dsimp only at hs
      exact so_sipush C hd (of_decide_eq_true hx) (hK hs)
    | ldc i =>
      have hd : decode g.2.1 pc = .ok (.ldc i, 2) := hd
      have hnx : nxt = pc + 2 := hnx
      subst hnx
      try dsimp only at hs
      split at hs
      · exact so_ldc C hd (ldOK hx) (hK hs)
      · next hb0 => exact so_ldcS (hT0 (List.any_eq_true.mpr ⟨_, fetch_mem hf, (by show Nat.blt 0 b = true; exact Nat.ble_eq.mpr (Nat.pos_of_ne_zero hb0))⟩)) C hd (by rw [xchk] at hx <;> first | exact hx | exact hb0) (hK hs)
    | ldc_w i =>
      have hd : decode g.2.1 pc = .ok (.ldc_w i, 3) := hd
      have hnx : nxt = pc + 3 := hnx
      subst hnx
      try dsimp only at hs
      split at hs
      · exact so_ldcw C hd (ldOK hx) (hK hs)
      · exact hs.elim
    | lconst i =>
      have hd : decode g.2.1 pc = .ok (.lconst i, 1) := hd
      have hnx : nxt = pc + 1 := hnx
      subst hnx
      try dsimp only at hs
      exact so_lconst C hd (of_decide_eq_true hx) (hK hs)
    | ldc2_w i =>
      have hd : decode g.2.1 pc = .ok (.ldc2_w i, 3) := hd
      have hnx : nxt = pc + 3 := hnx
      subst hnx
      try dsimp only at hs
      exact so_ldc2 C hd (llOK hx) (hK hs)
    | iload_n i =>
      have hd : decode g.2.1 pc = .ok (.iload_n i, 1) := hd
      have hnx : nxt = pc + 1 := hnx
      subst hnx
      try dsimp only at hs
      split at hs
      · next x heq => exact so_iload_n C hd (Nat.eq_of_beq_eq_true hx) heq (hK hs)
      · exact hs.elim
    | iload i =>
      have hd : decode g.2.1 pc = .ok (.iload i, 2) := hd
      have hnx : nxt = pc + 2 := hnx
      subst hnx
      try dsimp only at hs
      have hi := Nat.eq_of_beq_eq_true hx
      subst hi
      split at hs
      · next x heq => exact so_iload C hd heq (hK hs)
      · exact hs.elim
    | istore_n i =>
      have hd : decode g.2.1 pc = .ok (.istore_n i, 1) := hd
      have hnx : nxt = pc + 1 := hnx
      subst hnx
      try dsimp only at hs
      rw [xchk, Bool.and_eq_true] at hx
      split at hs
      · exact so_istore_n C hd (Nat.eq_of_beq_eq_true hx.1) (Nat.le_of_ble_eq_true hx.2) (hK hs)
      · exact hs.elim
    | istore i =>
      have hd : decode g.2.1 pc = .ok (.istore i, 2) := hd
      have hnx : nxt = pc + 2 := hnx
      subst hnx
      try dsimp only at hs
      rw [xchk, Bool.and_eq_true] at hx
      have hi := Nat.eq_of_beq_eq_true hx.1
      subst hi
      split at hs
      · exact so_istore C hd (Nat.le_of_ble_eq_true hx.2) (hK hs)
      · exact hs.elim
    | lload_n i =>
      have hd : decode g.2.1 pc = .ok (.lload_n i, 1) := hd
      have hnx : nxt = pc + 1 := hnx
      subst hnx
      try dsimp only at hs
      split at hs
      · next x heq => exact so_lload_n C hd (Nat.eq_of_beq_eq_true hx) heq (hK hs)
      · exact hs.elim
    | lload i =>
      have hd : decode g.2.1 pc = .ok (.lload i, 2) := hd
      have hnx : nxt = pc + 2 := hnx
      subst hnx
      try dsimp only at hs
      have hi := Nat.eq_of_beq_eq_true hx
      subst hi
      split at hs
      · next x heq => exact so_lload C hd heq (hK hs)
      · exact hs.elim
    | lstore_n i =>
      have hd : decode g.2.1 pc = .ok (.lstore_n i, 1) := hd
      have hnx : nxt = pc + 1 := hnx
      subst hnx
      try dsimp only at hs
      rw [xchk, Bool.and_eq_true] at hx
      split at hs
      · exact so_lstore_n C hd (Nat.eq_of_beq_eq_true hx.1) (Nat.le_of_ble_eq_true hx.2) (hK hs)
      · exact hs.elim
    | lstore i =>
      have hd : decode g.2.1 pc = .ok (.lstore i, 2) := hd
      have hnx : nxt = pc + 2 := hnx
      subst hnx
      try dsimp only at hs
      rw [xchk, Bool.and_eq_true] at hx
      have hi := Nat.eq_of_beq_eq_true hx.1
      subst hi
      split at hs
      · exact so_lstore C hd (Nat.le_of_ble_eq_true hx.2) (hK hs)
      · exact hs.elim
    | aload_n i =>
      have hd : decode g.2.1 pc = .ok (.aload_n i, 1) := hd
      have hnx : nxt = pc + 1 := hnx
      subst hnx
      try dsimp only at hs
      split at hs
      · next x heq => exact so_aload_n C hd (Nat.eq_of_beq_eq_true hx) heq (hK hs)
      · exact hs.elim
    | aload i =>
      have hd : decode g.2.1 pc = .ok (.aload i, 2) := hd
      have hnx : nxt = pc + 2 := hnx
      subst hnx
      try dsimp only at hs
      have hi := Nat.eq_of_beq_eq_true hx
      subst hi
      split at hs
      · next x heq => exact so_aload C hd heq (hK hs)
      · exact hs.elim
    | astore_n i =>
      have hd : decode g.2.1 pc = .ok (.astore_n i, 1) := hd
      have hnx : nxt = pc + 1 := hnx
      subst hnx
      try dsimp only at hs
      rw [xchk, Bool.and_eq_true] at hx
      split at hs
      · exact so_astore_n C hd (Nat.eq_of_beq_eq_true hx.1) (Nat.le_of_ble_eq_true hx.2) (hK hs)
      · exact hs.elim
    | astore i =>
      have hd : decode g.2.1 pc = .ok (.astore i, 2) := hd
      have hnx : nxt = pc + 2 := hnx
      subst hnx
      try dsimp only at hs
      rw [xchk, Bool.and_eq_true] at hx
      have hi := Nat.eq_of_beq_eq_true hx.1
      subst hi
      split at hs
      · exact so_astore C hd (Nat.le_of_ble_eq_true hx.2) (hK hs)
      · exact hs.elim
    | iinc i z =>
      have hd : decode g.2.1 pc = .ok (.iinc i z, 3) := hd
      have hnx : nxt = pc + 3 := hnx
      subst hnx
      try dsimp only at hs
      rw [xchk, Bool.and_eq_true, Bool.and_eq_true, decide_eq_true_eq] at hx
      have hi := Nat.eq_of_beq_eq_true hx.1
      subst hi
      split at hs
      · next x heq => exact so_iinc C hd heq hx.2.2 (Nat.le_of_ble_eq_true hx.2.1) (hK hs)
      · exact hs.elim
    | dup =>
      have hd : decode g.2.1 pc = .ok (.dup, 1) := hd
      have hnx : nxt = pc + 1 := hnx
      subst hnx
      try dsimp only at hs
      split at hs
      · exact so_dup C hd rfl (hK hs)
      · exact so_dup C hd rfl (hK hs)
      · exact hs.elim
    | pop =>
      have hd : decode g.2.1 pc = .ok (.pop, 1) := hd
      have hnx : nxt = pc + 1 := hnx
      subst hnx
      try dsimp only at hs
      split at hs
      · exact so_pop C hd rfl (hK hs)
      · exact so_pop C hd rfl (hK hs)
      · exact hs.elim
    | dup2 =>
      have hd : decode g.2.1 pc = .ok (.dup2, 1) := hd
      have hnx : nxt = pc + 1 := hnx
      subst hnx
      try dsimp only at hs
      split at hs
      · exact so_dup2l C hd rfl (hK hs)
      · exact so_dup2i C hd rfl rfl (hK hs)
      · exact hs.elim
    | iadd =>
      have hd : decode g.2.1 pc = .ok (.iadd, 1) := hd
      have hnx : nxt = pc + 1 := hnx
      subst hnx
      try dsimp only at hs
      split at hs
      · exact so_iadd C hd (hK hs)
      · exact hs.elim
    | isub =>
      have hd : decode g.2.1 pc = .ok (.isub, 1) := hd
      have hnx : nxt = pc + 1 := hnx
      subst hnx
      try dsimp only at hs
      split at hs
      · exact so_isub C hd (hK hs)
      · exact hs.elim
    | imul =>
      have hd : decode g.2.1 pc = .ok (.imul, 1) := hd
      have hnx : nxt = pc + 1 := hnx
      subst hnx
      try dsimp only at hs
      split at hs
      · exact so_imul C hd (hK hs)
      · exact hs.elim
    | iand =>
      have hd : decode g.2.1 pc = .ok (.iand, 1) := hd
      have hnx : nxt = pc + 1 := hnx
      subst hnx
      try dsimp only at hs
      split at hs
      · exact so_iand C hd (hK hs)
      · exact hs.elim
    | ior =>
      have hd : decode g.2.1 pc = .ok (.ior, 1) := hd
      have hnx : nxt = pc + 1 := hnx
      subst hnx
      try dsimp only at hs
      split at hs
      · exact so_ior C hd (hK hs)
      · exact hs.elim
    | ixor =>
      have hd : decode g.2.1 pc = .ok (.ixor, 1) := hd
      have hnx : nxt = pc + 1 := hnx
      subst hnx
      try dsimp only at hs
      split at hs
      · exact so_ixor C hd (hK hs)
      · exact hs.elim
    | ishl =>
      have hd : decode g.2.1 pc = .ok (.ishl, 1) := hd
      have hnx : nxt = pc + 1 := hnx
      subst hnx
      try dsimp only at hs
      split at hs
      · exact so_ishl C hd (hK hs)
      · exact hs.elim
    | ishr =>
      have hd : decode g.2.1 pc = .ok (.ishr, 1) := hd
      have hnx : nxt = pc + 1 := hnx
      subst hnx
      try dsimp only at hs
      split at hs
      · exact so_ishr C hd (hK hs)
      · exact hs.elim
    | iushr =>
      have hd : decode g.2.1 pc = .ok (.iushr, 1) := hd
      have hnx : nxt = pc + 1 := hnx
      subst hnx
      try dsimp only at hs
      split at hs
      · exact so_iushr C hd (hK hs)
      · exact hs.elim
    | ineg =>
      have hd : decode g.2.1 pc = .ok (.ineg, 1) := hd
      have hnx : nxt = pc + 1 := hnx
      subst hnx
      try dsimp only at hs
      split at hs
      · exact so_ineg C hd (hK hs)
      · exact hs.elim
    | ladd =>
      have hd : decode g.2.1 pc = .ok (.ladd, 1) := hd
      have hnx : nxt = pc + 1 := hnx
      subst hnx
      try dsimp only at hs
      split at hs
      · exact so_ladd C hd (hK hs)
      · exact hs.elim
    | lsub =>
      have hd : decode g.2.1 pc = .ok (.lsub, 1) := hd
      have hnx : nxt = pc + 1 := hnx
      subst hnx
      try dsimp only at hs
      split at hs
      · exact so_lsub C hd (hK hs)
      · exact hs.elim
    | lmul =>
      have hd : decode g.2.1 pc = .ok (.lmul, 1) := hd
      have hnx : nxt = pc + 1 := hnx
      subst hnx
      try dsimp only at hs
      split at hs
      · exact so_lmul C hd (hK hs)
      · exact hs.elim
    | land =>
      have hd : decode g.2.1 pc = .ok (.land, 1) := hd
      have hnx : nxt = pc + 1 := hnx
      subst hnx
      try dsimp only at hs
      split at hs
      · exact so_land C hd (hK hs)
      · exact hs.elim
    | lor =>
      have hd : decode g.2.1 pc = .ok (.lor, 1) := hd
      have hnx : nxt = pc + 1 := hnx
      subst hnx
      try dsimp only at hs
      split at hs
      · exact so_lor C hd (hK hs)
      · exact hs.elim
    | lxor =>
      have hd : decode g.2.1 pc = .ok (.lxor, 1) := hd
      have hnx : nxt = pc + 1 := hnx
      subst hnx
      try dsimp only at hs
      split at hs
      · exact so_lxor C hd (hK hs)
      · exact hs.elim
    | lshl =>
      have hd : decode g.2.1 pc = .ok (.lshl, 1) := hd
      have hnx : nxt = pc + 1 := hnx
      subst hnx
      try dsimp only at hs
      split at hs
      · exact so_lshl C hd (hK hs)
      · exact hs.elim
    | lshr =>
      have hd : decode g.2.1 pc = .ok (.lshr, 1) := hd
      have hnx : nxt = pc + 1 := hnx
      subst hnx
      try dsimp only at hs
      split at hs
      · exact so_lshr C hd (hK hs)
      · exact hs.elim
    | lushr =>
      have hd : decode g.2.1 pc = .ok (.lushr, 1) := hd
      have hnx : nxt = pc + 1 := hnx
      subst hnx
      try dsimp only at hs
      split at hs
      · exact so_lushr C hd (hK hs)
      · exact hs.elim
    | lcmp =>
      have hd : decode g.2.1 pc = .ok (.lcmp, 1) := hd
      have hnx : nxt = pc + 1 := hnx
      subst hnx
      try dsimp only at hs
      split at hs
      · exact so_lcmp C hd (hK hs)
      · exact hs.elim
    | i2l =>
      have hd : decode g.2.1 pc = .ok (.i2l, 1) := hd
      have hnx : nxt = pc + 1 := hnx
      subst hnx
      try dsimp only at hs
      split at hs
      · exact so_i2l C hd (hK hs)
      · exact hs.elim
    | l2i =>
      have hd : decode g.2.1 pc = .ok (.l2i, 1) := hd
      have hnx : nxt = pc + 1 := hnx
      subst hnx
      try dsimp only at hs
      split at hs
      · exact so_l2i C hd (hK hs)
      · exact hs.elim
    | i2b =>
      have hd : decode g.2.1 pc = .ok (.i2b, 1) := hd
      have hnx : nxt = pc + 1 := hnx
      subst hnx
      try dsimp only at hs
      split at hs
      · exact so_i2b C hd (hK hs)
      · exact hs.elim
    | i2c =>
      have hd : decode g.2.1 pc = .ok (.i2c, 1) := hd
      have hnx : nxt = pc + 1 := hnx
      subst hnx
      try dsimp only at hs
      split at hs
      · exact so_i2c C hd (hK hs)
      · exact hs.elim
    | idiv =>
      have hd : decode g.2.1 pc = .ok (.idiv, 1) := hd
      have hnx : nxt = pc + 1 := hnx
      subst hnx
      try dsimp only at hs
      split at hs
      · exact so_idiv C hd hs.1 (hK hs.2)
      · exact hs.elim
    | irem =>
      have hd : decode g.2.1 pc = .ok (.irem, 1) := hd
      have hnx : nxt = pc + 1 := hnx
      subst hnx
      try dsimp only at hs
      split at hs
      · exact so_irem C hd hs.1 (hK hs.2)
      · exact hs.elim
    | ifCond cd off =>
      have hd : decode g.2.1 pc = .ok (.ifCond cd off, 3) := hd
      have hnx : nxt = pc + 3 := hnx
      subst hnx
      try dsimp only at hs
      have ht := of_decide_eq_true hx
      split at hs
      · cases cd
        · exact so_if_eq C hd ht (fun z => hK (hs.1 z)) (fun z => hK (hs.2 z))
        · exact so_if_ne C hd ht (fun z => hK (hs.1 z)) (fun z => hK (hs.2 z))
        · exact so_if_lt C hd ht (fun z => hK (hs.1 z)) (fun z => hK (hs.2 z))
        · exact so_if_ge C hd ht (fun z => hK (hs.1 z)) (fun z => hK (hs.2 z))
        · exact so_if_gt C hd ht (fun z => hK (hs.1 z)) (fun z => hK (hs.2 z))
        · exact so_if_le C hd ht (fun z => hK (hs.1 z)) (fun z => hK (hs.2 z))
      · exact hs.elim
    | if_icmp cd off =>
      have hd : decode g.2.1 pc = .ok (.if_icmp cd off, 3) := hd
      have hnx : nxt = pc + 3 := hnx
      subst hnx
      try dsimp only at hs
      have ht := of_decide_eq_true hx
      split at hs
      · cases cd
        · exact so_icmp_eq C hd ht (fun z => hK (hs.1 z)) (fun z => hK (hs.2 z))
        · exact so_icmp_ne C hd ht (fun z => hK (hs.1 z)) (fun z => hK (hs.2 z))
        · exact so_icmp_lt C hd ht (fun z => hK (hs.1 z)) (fun z => hK (hs.2 z))
        · exact so_icmp_ge C hd ht (fun z => hK (hs.1 z)) (fun z => hK (hs.2 z))
        · exact so_icmp_gt C hd ht (fun z => hK (hs.1 z)) (fun z => hK (hs.2 z))
        · exact so_icmp_le C hd ht (fun z => hK (hs.1 z)) (fun z => hK (hs.2 z))
      · exact hs.elim
    | if_acmp cd off =>
      have hd : decode g.2.1 pc = .ok (.if_acmp cd off, 3) := hd
      have hnx : nxt = pc + 3 := hnx
      subst hnx
      try dsimp only at hs
      have ht := of_decide_eq_true hx
      split at hs
      · obtain ⟨rx, ry, e1, e2, hs⟩ := hs
        subst e1
        subst e2
        cases cd
        · exact so_acmp_eq C hd ht (fun z => hK (hs.1 z)) (fun z => hK (hs.2 z))
        · exact so_acmp_ne C hd ht (fun z => hK (hs.1 z)) (fun z => hK (hs.2 z))
      · exact hs.elim
    | goto off =>
      have hd : decode g.2.1 pc = .ok (.goto off, 3) := hd
      have hnx : nxt = pc + 3 := hnx
      subst hnx
      try dsimp only at hs
      exact so_goto C hd (of_decide_eq_true hx) (hK hs)
    | tableswitch d lo hi offs =>
      dsimp only at hs
      split at hs
      · exact so_tsw C hd hx (fun z => hK (hs.1 z)) (tsw_mono (fun t z => hK z) hs.2)
      · exact hs.elim
    | lookupswitch d ps =>
      dsimp only at hs
      split at hs
      · exact so_lookup C hd hx (by obtain ⟨t, h1, h2⟩ := hs; exact ⟨t, h1, hK h2⟩)
      · exact hs.elim
    | getfield i =>
      have hd : decode g.2.1 pc = .ok (.getfield i, 3) := hd
      have hnx : nxt = pc + 3 := hnx
      subst hnx
      try dsimp only at hs
      split at hs
      · obtain ⟨fs, ho, x, hxx, k1⟩ := hs
        rw [xchk] at hx
        cases h13 : Nat.beq a 13 with
        | true =>
          have e13 := Nat.eq_of_beq_eq_true h13
          subst e13
          intro H locs ls hR
          obtain ⟨r9, hr9, -⟩ := (hR.2 _ _ ho).2
          cases hr9
        | false =>
          rw [h13] at hx
          exact so_getfield C hd hx ho hxx (hK k1)
      · exact hs.elim
    | putfield i =>
      have hd : decode g.2.1 pc = .ok (.putfield i, 3) := hd
      have hnx : nxt = pc + 3 := hnx
      subst hnx
      try dsimp only at hs
      split at hs
      · obtain ⟨fs, ho, hb, hn, hf9, k1⟩ := hs
        exact so_putfield C hd hx ho hb hn hf9 (hK k1)
      · exact hs.elim
    | arraylength =>
      have hd : decode g.2.1 pc = .ok (.arraylength, 1) := hd
      have hnx : nxt = pc + 1 := hnx
      subst hnx
      try dsimp only at hs
      split at hs
      · obtain ⟨t, x, ho, ht, k1⟩ := hs
        exact so_alen C hd ho ht (hK k1)
      · exact hs.elim
    | iaload =>
      have hd : decode g.2.1 pc = .ok (.iaload, 1) := hd
      have hnx : nxt = pc + 1 := hnx
      subst hnx
      try dsimp only at hs
      split at hs
      · obtain ⟨N, f, ho, hi, k1⟩ := hs
        exact so_iaload C hd ho hi (hK k1)
      · exact hs.elim
    | laload =>
      have hd : decode g.2.1 pc = .ok (.laload, 1) := hd
      have hnx : nxt = pc + 1 := hnx
      subst hnx
      try dsimp only at hs
      split at hs
      · obtain ⟨N, f, ho, hi, k1⟩ := hs
        exact so_laload C hd ho hi (hK k1)
      · exact hs.elim
    | aaload =>
      have hd : decode g.2.1 pc = .ok (.aaload, 1) := hd
      have hnx : nxt = pc + 1 := hnx
      subst hnx
      try dsimp only at hs
      split at hs
      · obtain ⟨N, f, ho, hi, k1⟩ := hs
        exact so_aaload C hd ho hi (hK k1)
      · exact hs.elim
    | iastore =>
      have hd : decode g.2.1 pc = .ok (.iastore, 1) := hd
      have hnx : nxt = pc + 1 := hnx
      subst hnx
      try dsimp only at hs
      split at hs
      · obtain ⟨N, f, ho, hi, k1⟩ := hs
        exact so_iastore C hd ho hi (hK k1)
      · exact hs.elim
    | lastore =>
      have hd : decode g.2.1 pc = .ok (.lastore, 1) := hd
      have hnx : nxt = pc + 1 := hnx
      subst hnx
      try dsimp only at hs
      split at hs
      · obtain ⟨N, f, ho, hi, k1⟩ := hs
        exact so_lastore C hd ho hi (hK k1)
      · exact hs.elim
    | baload =>
      have hd : decode g.2.1 pc = .ok (.baload, 1) := hd
      have hnx : nxt = pc + 1 := hnx
      subst hnx
      try dsimp only at hs
      split at hs
      · obtain ⟨t, N, f, ho, ht, hi, k1⟩ := hs
        rcases ht with rfl | rfl
        · exact so_baload C hd ho hi (hK k1)
        · exact so_baloadz C hd ho hi (hK k1)
      · exact hs.elim
    | bastore =>
      have hd : decode g.2.1 pc = .ok (.bastore, 1) := hd
      have hnx : nxt = pc + 1 := hnx
      subst hnx
      try dsimp only at hs
      split at hs
      · obtain ⟨t, N, f, ho, ht, hi, k1⟩ := hs
        rcases ht with rfl | rfl
        · exact so_bastore C hd ho hi (hK k1)
        · exact so_bastorez C hd ho hi (hK k1)
      · exact hs.elim
    | aastore =>
      have hd : decode g.2.1 pc = .ok (.aastore, 1) := hd
      have hnx : nxt = pc + 1 := hnx
      subst hnx
      try dsimp only at hs
      split at hs
      · obtain ⟨N, f, vs, ho, hv, hi, k1⟩ := hs
        exact so_aastore C hd ho hv hi (hK k1)
      · exact hs.elim
    | new i =>
      have hd : decode g.2.1 pc = .ok (.new i, 3) := hd
      have hnx : nxt = pc + 3 := hnx
      subst hnx
      try dsimp only at hs
      obtain ⟨h1, h2, k1⟩ := hs
      exact so_new C hd hx h1 h2 (hK k1)
    | newarray t =>
      have hd : decode g.2.1 pc = .ok (.newarray t, 2) := hd
      have hnx : nxt = pc + 2 := hnx
      subst hnx
      try dsimp only at hs
      split at hs
      · obtain ⟨N, e9, he, h0, hN, hb, h1, h2, k1⟩ := hs
        exact so_newarray C hd he h0 hN hb h1 h2 (hK k1)
      · exact hs.elim
    | anewarray i =>
      have hd : decode g.2.1 pc = .ok (.anewarray i, 3) := hd
      have hnx : nxt = pc + 3 := hnx
      subst hnx
      try dsimp only at hs
      split at hs
      · obtain ⟨N, h0, hN, hb, h1, h2, k1⟩ := hs
        exact so_anew C hd hx h0 hN hb h1 h2 (hK k1)
      · exact hs.elim
    | invokestatic i =>
      have hd : decode g.2.1 pc = .ok (.invokestatic i, 3) := hd
      have hnx : nxt = pc + 3 := hnx
      subst hnx
      try dsimp only at hs
      rw [xchk] at hx
      cases h77 : Nat.blt cc 13 with
      | true =>
        rw [h77] at hs hx
        simp only [cond_true] at hs hx
        split at hs
        · next As r hpop =>
          cases hcs : Nat.ble (csum r) 8 with
          | false => rw [hcs] at hs; exact hs.elim
          | true =>
            rw [hcs] at hs
            obtain ⟨c1, s1, h1, h2, k1⟩ := hs
            exact so_static C hd hx hpop hcs h1 h2 (Runs.mono (fun _ _ _ z => hK z) k1)
        · exact hs.elim
      | false =>
        rw [h77] at hs hx
        simp only [cond_false] at hs hx
        unfold stpS at hs
        unfold spOK at hx
        split at hs
        · split at hs
          · obtain ⟨hcs, hs⟩ := hs
            exact so_min C hd hx hcs (hK hs)
          · exact hs.elim
        · split at hs
          · obtain ⟨hcs, hs⟩ := hs
            exact so_max C hd hx hcs (hK hs)
          · exact hs.elim
        · split at hs
          · obtain ⟨n0, n1, f, gg, hcs, e1, e2, e3, e4, e5, e6, e7, hs⟩ := hs
            exact so_copyi C hd hx hcs e1 e2 e3 e4 e5 e6 e7 (hK hs)
          · exact hs.elim
        · split at hs
          · obtain ⟨n0, n1, f, gg, hcs, e1, e2, e3, e4, e5, e6, e7, hs⟩ := hs
            exact so_copyl C hd hx hcs e1 e2 e3 e4 e5 e6 e7 (hK hs)
          · exact hs.elim
        · cases hx
        · cases hx
        · cases hx
        · exact hs.elim
    | invokevirtual i =>
      have hd : decode g.2.1 pc = .ok (.invokevirtual i, 3) := hd
      have hnx : nxt = pc + 3 := hnx
      subst hnx
      try dsimp only at hs
      rw [xchk] at hx
      cases h77 : Nat.blt cc 13 with
      | true =>
        rw [h77] at hs hx
        simp only [cond_true] at hs hx
        split at hs
        · next As o r hpop =>
          cases hcs : Nat.ble (csum r) 8 with
          | false => rw [hcs] at hs; exact hs.elim
          | true =>
            rw [hcs] at hs
            obtain ⟨fs, ho, c1, s1, h1, h2, k1⟩ := hs
            exact so_virtual C hd hx hpop hcs ho h1 h2 (Runs.mono (fun _ _ _ z => hK z) k1)
        · exact hs.elim
      | false =>
        rw [h77] at hs hx
        simp only [cond_false] at hs hx
        unfold stpS at hs
        unfold svOK at hx
        split at hs
        · cases hx
        · cases hx
        · cases hx
        · cases hx
        · have hT := hT0 (List.any_eq_true.mpr ⟨_, fetch_mem hf, rfl⟩)
          split at hs
          · obtain ⟨j, hcs, hj, hq, hs⟩ := hs
            exact so_str hT C (As := []) rfl hd hx rfl rfl hcs hj hq (fun Post hP => by rw [hq]; exact hT.2.2.1 j _ _ Post hj hP) (hK hs)
          · exact hs.elim
        · have hT := hT0 (List.any_eq_true.mpr ⟨_, fetch_mem hf, rfl⟩)
          split at hs
          · obtain ⟨j, kk, hcs, hj, hq, hjk, hkk, hs⟩ := hs
            exact so_str hT C (As := [.int (nI kk)]) rfl hd hx (by rw [hjk]; rfl) rfl hcs hj hq (fun Post hP => by rw [hq]; exact hT.2.2.2.1 j kk _ _ Post hj hkk hP) (hK hs)
          · exact hs.elim
        · have hT := hT0 (List.any_eq_true.mpr ⟨_, fetch_mem hf, rfl⟩)
          split at hs
          · obtain ⟨j, hcs, hj, hq, hs⟩ := hs
            exact so_str hT C (As := [.int _]) rfl hd hx rfl rfl hcs hj hq (fun Post hP => by rw [hq]; exact hT.2.2.2.2 j _ _ _ Post hj hP) (hK hs)
          · exact hs.elim
        · exact hs.elim
    | invokespecial i =>
      have hd : decode g.2.1 pc = .ok (.invokespecial i, 3) := hd
      have hnx : nxt = pc + 3 := hnx
      subst hnx
      try dsimp only at hs
      split at hs
      · next As o r hpop =>
        cases hcs : Nat.ble (csum r) 8 with
        | false => rw [hcs] at hs; exact hs.elim
        | true =>
          rw [hcs] at hs
          rw [xchk] at hx
          cases hcc : Nat.beq cc 1 with
          | true =>
            rw [hcc] at hx
            have e1 := Nat.eq_of_beq_eq_true hcc
            subst e1
            have hx : (Nat.beq a 0 && (OIt.any (fun q => Nat.beq q.1 own && Nat.beq q.2.1 i) && (Nat.blt 0 g.2.2.2.2.1 && Nat.ble 20 g.2.2.2.2.2))) = true := hx
            rw [Bool.and_eq_true] at hx
            have e2 := Nat.eq_of_beq_eq_true hx.1
            subst e2
            cases hpop
            exact so_objInit C hd hx.2 hcs (hK hs)
          | false =>
            rw [hcc] at hx
            split at hs
            · cases hcc
            · obtain ⟨c1, s1, h1, h2, k1⟩ := hs
              exact so_init C hd hx hpop hcs h1 h2 (Runs.mono (fun _ _ _ z => hK z) k1)
      · exact hs.elim
    | ireturn =>
      have hd : decode g.2.1 pc = .ok (.ireturn, 1) := hd
      have hnx : nxt = pc + 1 := hnx
      subst hnx
      try dsimp only at hs
      exact hret _ a b cc v w rfl hd hx hs
    | lreturn =>
      have hd : decode g.2.1 pc = .ok (.lreturn, 1) := hd
      have hnx : nxt = pc + 1 := hnx
      subst hnx
      try dsimp only at hs
      exact hret _ a b cc v w rfl hd hx hs
    | areturn =>
      have hd : decode g.2.1 pc = .ok (.areturn, 1) := hd
      have hnx : nxt = pc + 1 := hnx
      subst hnx
      try dsimp only at hs
      exact hret _ a b cc v w rfl hd hx hs
    | return_ =>
      have hd : decode g.2.1 pc = .ok (.return_, 1) := hd
      have hnx : nxt = pc + 1 := hnx
      subst hnx
      try dsimp only at hs
      exact hret _ a b cc v w rfl hd hx hs
    | _ => exact hs.elim
end AM3
section AM4
variable {l : Launch} {G : GG}
/-- a method's state from which it comes to its end, with Post -/
def Go (l : Launch) (G : GG) (own : Nat) (g : SG) (mc ms : Nat) (Post : Option Value → AH → Nat → Prop) (pc : Nat) (lv : LV) (st : List Value) (h : AH) (nx k n : Nat) : Prop :=
  ∀ (p : Program) (e : Env) (R : Room) (s : State) (m : MethodId) (args : Array Value) (below : List Frame) (meth : Method) (c : Code), Cx G p R s m args meth c own g mc ms → Sem l G p e R s m args below meth c g.2.2.1 mc ms (MQ below (QQ G Post) args s mc ms G.2.2.1) pc lv st h nx k n
def RetN (ret : Option FieldType) (Post : Option Value → AH → Nat → Prop) : Instr → List Value → AH → Nat → Prop := fun ins st h nx => match ins with
  | .ireturn => (match st with | [.int x] => (match ret with | some ty => narrow ty (.int x) = .int x ∧ Post (some (.int x)) h nx | none => False) | _ => False)
  | .lreturn => (match st with | [.long x] => Post (some (.long x)) h nx | _ => False)
  | .areturn => (match st with | [.ref x] => Post (some (.ref x)) h nx | _ => False)
  | .return_ => (match st with | [] => Post none h nx | _ => False)
  | _ => False
theorem RetSem {own : Nat} {g : SG} {mc ms : Nat} {Post : Option Value → AH → Nat → Prop} {p : Program} {e : Env} {R : Room} {s : State} {m : MethodId} {args : Array Value} {below : List Frame} {meth : Method} {c : Code} {pc : Nat} {lv : LV} {st : List Value} {h : AH} {nx k n : Nat} (C : Cx G p R s m args meth c own g mc ms) {ins : Instr} {a b cc : Nat} {v : Int32} {w : Int64} (hi : isRet ins = true) (hd : decode g.2.1 pc = .ok (ins, 1)) (hx : xchk own g pc ins a b cc v w = true) (hr : RetN g.2.2.2.1 Post ins st h nx) : Sem l G p e R s m args below meth c g.2.2.1 mc ms (MQ below (QQ G Post) args s mc ms G.2.2.1) pc lv st h nx k n := by
  intro H locs ls hR hS hl hk hn
  have hrt := C.2.2.2.1
  have hlk := C.2.2.2.2.2.2.1
  refine W.widen hk hn ?_
  cases ins with
  | ireturn =>
    dsimp only [RetN] at hr
    split at hr
    · split at hr
      · next ty hty => exact W.zret C.1 C.2.1 (hrt.trans hty) hr.1 (fun t ht hW => ⟨⟨_, h, nx, rfl, hr.2, by rw [ht]; exact hR⟩, hS.F ht⟩) hS.2.2 hd hlk
      · exact hr.elim
    · exact hr.elim
  | lreturn =>
    dsimp only [RetN] at hr
    split at hr
    · exact W.lret C.1 C.2.1 (hrt.trans (of_decide_eq_true hx)) (fun t ht hW => ⟨⟨_, h, nx, rfl, hr, by rw [ht]; exact hR⟩, hS.F ht⟩) hS.2.2 hd hlk
    · exact hr.elim
  | areturn =>
    dsimp only [RetN] at hr
    split at hr
    · rw [xchk] at hx
      split at hx
      · next nm hty => exact W.aret C.1 C.2.1 (hrt.trans hty) (Or.inl ⟨_, rfl⟩) (Or.inr ⟨_, rfl⟩) (fun t ht hW => ⟨⟨_, h, nx, rfl, hr, by rw [ht]; exact hR⟩, hS.F ht⟩) hS.2.2 hd hlk
      · next nm hty => exact W.aret C.1 C.2.1 (hrt.trans hty) (Or.inr ⟨_, rfl⟩) (Or.inr ⟨_, rfl⟩) (fun t ht hW => ⟨⟨_, h, nx, rfl, hr, by rw [ht]; exact hR⟩, hS.F ht⟩) hS.2.2 hd hlk
      · cases hx
    · exact hr.elim
  | return_ =>
    dsimp only [RetN] at hr
    split at hr
    · exact W.vret C.1 C.2.1 (hrt.trans (of_decide_eq_true hx)) (fun t ht hW => ⟨⟨_, h, nx, rfl, hr, by rw [ht]; exact hR⟩, hS.F ht⟩) hS.2.2 hd hlk
    · exact hr.elim
  | _ => cases hi
/-- many steps, up to a pc where one stops -/
def run (l : Launch) (G : GG) (own : Nat) (g : SG) (es : List CE) (mc ms : Nat) (Post : Option Value → AH → Nat → Prop) (stops : List Nat) : Nat → Nat → LV → List Value → AH → Nat → Nat → Nat → Prop
  | 0, pc, lv, st, h, nx, k, n => Go l G own g mc ms Post pc lv st h nx k n
  | f + 1, pc, lv, st, h, nx, k, n => stp G.2.2.2.2 (Runs l G) es (RetN g.2.2.2.1 Post) mc ms (fun pc lv st h nx k n => bif stops.any (Nat.beq pc) then Go l G own g mc ms Post pc lv st h nx k n else run l G own g es mc ms Post stops f pc lv st h nx k n) pc lv st h nx k n
theorem Go.of (hT : TX l G) {own : Nat} {g : SG} {mc ms : Nat} {Post : Option Value → AH → Nat → Prop} {es : List CE} (hck : CK own g es = true) (stops : List Nat) : ∀ (f : Nat) {pc : Nat} {lv : LV} {st : List Value} {h : AH} {nx k n : Nat}, run l G own g es mc ms Post stops f pc lv st h nx k n → Go l G own g mc ms Post pc lv st h nx k n
  | 0, _, _, _, _, _, _, _, hr => hr
  | f + 1, pc, lv, st, h, nx, k, n, hr => by
    intro p e R s m args below meth c C
    refine step_ok C (fun _ => hT) hck (Ret := RetN g.2.2.2.1 Post) ?_ (K := _) ?_ hr
    · intro ins a b cc v w hi hd hx h1
      exact RetSem C hi hd hx h1
    · intro pc lv st h nx k n hz
      cases hb : stops.any (Nat.beq pc) with
      | true => rw [hb] at hz; exact hz p e R s m args below meth c C
      | false => rw [hb] at hz; exact Go.of hT hck stops f hz p e R s m args below meth c C
theorem Go.of0 {own : Nat} {g : SG} {mc ms : Nat} {Post : Option Value → AH → Nat → Prop} {es : List CE} (h0 : es.any isStr = false) (hck : CK own g es = true) (stops : List Nat) : ∀ (f : Nat) {pc : Nat} {lv : LV} {st : List Value} {h : AH} {nx k n : Nat}, run l G own g es mc ms Post stops f pc lv st h nx k n → Go l G own g mc ms Post pc lv st h nx k n
  | 0, _, _, _, _, _, _, _, hr => hr
  | f + 1, pc, lv, st, h, nx, k, n, hr => by
    intro p e R s m args below meth c C
    refine step_ok C (fun z => absurd (h0.symm.trans z) (by decide)) hck (Ret := RetN g.2.2.2.1 Post) ?_ (K := _) ?_ hr
    · intro ins a b cc v w hi hd hx h1
      exact RetSem C hi hd hx h1
    · intro pc lv st h nx k n hz
      cases hb : stops.any (Nat.beq pc) with
      | true => rw [hb] at hz; exact hz p e R s m args below meth c C
      | false => rw [hb] at hz; exact Go.of0 h0 hck stops f hz p e R s m args below meth c C
theorem Runs.of {own b mc ms : Nat} {As : List Value} {h : AH} {nx : Nat} {Post : Option Value → AH → Nat → Prop} (hX : XC G) (hown : (sg b).1.cls = RN own) (hpl : plainName (sg b).1.cls = true) (hlen : (lg_sl As).length ≤ (sg b).2.2.1) (hgo : Go l G own (sg b) mc ms Post 0 (lv_args 0 As) [] h nx 0 0) : Runs l G b mc ms As h nx Post := by
  refine Met.ofW (cc := (sg b).2.1) (maxL := (sg b).2.2.1) (ret := (sg b).2.2.2.1) hpl rfl ?_
  intro p e s m args below meth c s₁ B hml hv
  obtain ⟨rfl, hR, hK, hN, hA, hX0⟩ := hv
  have hts := atoms_spec (ws := wCD (sg b) :: TB) B.pre
  have C : Cx G p (headSpec (wCD (sg b) :: TB) (rmO b mc ms)).room s m As.toArray meth c own (sg b) mc ms :=
    ⟨B.exec, B.bytes, hml, B.returns, by rw [← hown]; exact findClass_of_methodNamed B.named, fun w hw => hts w (List.mem_cons_of_mem _ hw), B.notSynchronized, (fun z => (name_of_methodNamed B.named B.method).1.trans z), ⟨Nat.le_refl _, Nat.le_refl _, Nat.le_refl _, Nat.le_refl _⟩, hK, hN, hA, hX0, hX⟩
  rw [lg_entry_eq]
  exact hgo p e _ s m As.toArray below meth c C s.heap [] _ hR va_S.rf (lv_entry As hlen) (Nat.zero_le _) (Nat.zero_le _)
end AM4
