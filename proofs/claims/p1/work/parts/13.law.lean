-- ===== end of PART A; then your names; then what follows =====
/-! THE CLAIM OUT OF ONE WALK OF THE LAW'S BODY. Your part is whole_start (and what it stands on); all else here is the same for every law, but numbers. -/
def R_law : String := "RelayHutLaw"
def lw_P (b : Addr) (xs : List Int32) (args : Array Value) (s : State) : Prop := args = #[.ref b] ∧ s.IntsAt b xs ∧ xs.length ≤ 6 ∧ (Jvm.Cond.and given_1 narrow_1).before args s = true
def lw_Q (_ : Array Value) (s : State) (o : Outcome) (t : State) : Prop := o = .returned (some (.int 1)) ∧ Framed s o t [] 600000 7302250
def lw_Z (below : List Frame) (a : Array Value) (s : State) : State → Prop := fun t => ∃ o, t.status = .running ∧ Ended t below o ∧ lw_Q a s o t
/-- the law's own end, with 1 on the stack, nothing written that was there before, its room as the claim has it -/
theorem lw_ret {p : Program} {l : Launch} {e : Env} {s : State} {m : MethodId} {below : List Frame} {meth : Method} {c : Code} {b : Nat} (hx : p.tables.exec = Jvm.exec) (hb : c.code = code) (hr : meth.sig.returnType = ret) (hlocks : meth.locks = false) {pc : Nat} {H : Heap} {ls : Array Slot} (hdg : decode code pc = .ok (.ireturn, 1)) : W p l e room_1 s m #[Value.ref b] below meth c H [] 600000 7302250 (lw_Z below #[Value.ref b] s) (F0 m pc ls [.int 1]) := by
  intro T hT X
  obtain ⟨fs, hret, hrun, hended, hW, hframe⟩ := X.leave (v := some (.int 1)) (hlocks := hlocks) (fun h => by rw [hr] at h; cases h)
  have hmeth' : T.vm.method? m = some meth := X.method'
  refine ⟨T.setFrames fs, ?_, .returned (some (.int 1)), hrun, hended, rfl, ⟨_, rfl⟩, hW, hframe⟩
  jvm_step X.here [X.here.top, hx, hb, hdg, hmeth', hr, ret, narrow_b1]
  (try refine ⟨rfl, ?_⟩); (try refine ⟨rfl, ?_⟩)
  first | (intro acts; rw [hret _ acts rfl rfl rfl]) | rw [hret _ _ rfl rfl rfl]
  exact Steps.refl _
/-- what holds at the law's entry: the machine, the code, the tables' words (any of lw_tbl by 'hts w (by decide +kernel)'), the script of L ints xs at the cell b, what the Statement gives of the start (any of its parts by flat_of_before) -/
def lw_At (p : Program) (s : State) (m : MethodId) (meth : Method) (c : Code) (b L : Nat) (xs : Nat → Int32) : Prop :=
  p.tables.exec = Jvm.exec ∧ c.code = code ∧ meth.sig.returnType = ret ∧ c.maxLocals = 4 ∧ s.vm.findClass R_law = some m.cls ∧ (∀ w ∈ lw_tbl, w.before #[Value.ref b] s = true) ∧ va_X b L xs s s.heap ∧ b < s.heap.size ∧ meth.locks = false ∧ (Jvm.Cond.and given_1 narrow_1).before #[Value.ref b] s = true
/-! the law's own steps, to its end with 1 -/
def RetL : Instr → List Value → AH → Nat → Prop := fun ins st _ _ => ins = .ireturn ∧ st = [.int 1]
def GoL (l : Launch) (G : GG) (p : Program) (e : Env) (s : State) (m : MethodId) (b : Nat) (below : List Frame) (meth : Method) (c : Code) (pc : Nat) (lv : LV) (st : List Value) (h : AH) (nx k n : Nat) : Prop := Sem l G p e room_1 s m #[Value.ref b] below meth c 4 600000 7302250 (lw_Z below #[Value.ref b] s) pc lv st h nx k n
section LAW
variable {l : Launch} {G : GG} {p : Program} {e : Env} {s : State} {m : MethodId} {b L : Nat} {xs : Nat → Int32} {below : List Frame} {meth : Method} {c : Code}
def runL (l : Launch) (G : GG) (p : Program) (e : Env) (s : State) (m : MethodId) (b : Nat) (below : List Frame) (meth : Method) (c : Code) (stops : List Nat) : Nat → Nat → LV → List Value → AH → Nat → Nat → Nat → Prop
  | 0, pc, lv, st, h, nx, k, n => GoL l G p e s m b below meth c pc lv st h nx k n
  | f + 1, pc, lv, st, h, nx, k, n => stp G.2.2.2.2 (Runs l G) e_law RetL 600000 7302250 (fun pc lv st h nx k n => bif stops.any (Nat.beq pc) then GoL l G p e s m b below meth c pc lv st h nx k n else runL l G p e s m b below meth c stops f pc lv st h nx k n) pc lv st h nx k n
theorem GoL.of (hT : TX l G) (C : Cx G p room_1 s m #[Value.ref b] meth c 13 s_law 600000 7302250) (hA : ∀ q, G.2.2.1 q → s.heap.size ≤ q) (stops : List Nat) : ∀ (f : Nat) {pc : Nat} {lv : LV} {st : List Value} {h : AH} {nx k n : Nat}, runL l G p e s m b below meth c stops f pc lv st h nx k n → GoL l G p e s m b below meth c pc lv st h nx k n
  | 0, _, _, _, _, _, _, _, hr => hr
  | f + 1, pc, lv, st, h, nx, k, n, hr => by
    refine step_ok C (fun _ => hT) ck_law (Ret := RetL) ?_ (K := _) ?_ hr
    · intro ins a b cc v w hi hd hx h1
      obtain ⟨rfl, rfl⟩ := h1
      intro H locs ls hR hS hl hk hn
      refine W.widen hk hn ?_
      refine va_forget (fun q hq => hA _ (hS.2.2 q hq)) ?_
      exact lw_ret C.1 C.2.1 C.2.2.2.1 C.2.2.2.2.2.2.1 hd
    · intro pc lv st h nx k n hz
      cases hb : stops.any (Nat.beq pc) with
      | true => rw [hb] at hz; exact hz
      | false => rw [hb] at hz; exact GoL.of hT C hA stops f hz
/-- the script's i-th int -/
theorem gol_sld (C : Cx G p room_1 s m #[Value.ref b] meth c 13 s_law 600000 7302250) (hX : va_X b L xs s s.heap) (hbl : b < s.heap.size) (hbA : ¬ G.2.2.1 b) {pc : Nat} {lv : LV} {r : List Value} {h : AH} {nx k n : Nat} {i : Int32} (hi : vp_in i L) (hd : decode code pc = .ok (.iaload, 1)) (kk : GoL l G p e s m b below meth c (pc + 1) lv (.int (xs i.toNatClampNeg) :: r) h nx k n) : GoL l G p e s m b below meth c pc lv (.int i :: .ref b :: r) h nx k n :=
  fun H locs ls hR hS hl hk hn => va_sld C.1 C.2.1 hX hbl hbA hS hi hd (kk H locs ls hR hS hl hk hn)
theorem gol_slen (C : Cx G p room_1 s m #[Value.ref b] meth c 13 s_law 600000 7302250) (hX : va_X b L xs s s.heap) (hbl : b < s.heap.size) (hbA : ¬ G.2.2.1 b) {pc : Nat} {lv : LV} {r : List Value} {h : AH} {nx k n : Nat} (hd : decode code pc = .ok (.arraylength, 1)) (kk : GoL l G p e s m b below meth c (pc + 1) lv (.int (Int32.ofNat L) :: r) h nx k n) : GoL l G p e s m b below meth c pc lv (.ref b :: r) h nx k n :=
  fun H locs ls hR hS hl hk hn => va_slen C.1 C.2.1 hX hbl hbA hS hd (kk H locs ls hR hS hl hk hn)
theorem gol_loc {pc : Nat} {lv lv' : LV} {st : List Value} {h : AH} {nx k n : Nat} (hk : allk lv lv') (hg : GoL l G p e s m b below meth c pc lv' st h nx k n) : GoL l G p e s m b below meth c pc lv st h nx k n :=
  fun H locs ls hR hS hl hk1 hn => hg H locs ls hR hS (lv_mono hl (allk_mem hk)) hk1 hn
end LAW
theorem CL_all : ∀ a, a < 13 → CLt.any (fun q => Nat.beq q.2.2.1 a) = true := by decide +kernel
/-- the classes and array classes as the tables have them, at the law's start -/
theorem law_K {s : State} {args : Array Value} (hts : ∀ w ∈ lw_tbl, w.before args s = true) : ∃ (D : va_G) (t : Nat → ClassId), va_K D classes (tysOf t) s ∧ NW s := by
  have htb : ∀ w ∈ TB, w.before args s = true := fun w hw => hts w (TB_lw w hw)
  have h0 : ∀ a : Nat, ∃ q : ClassId × (Nat → Nat), a < 13 → u_Kn s (RN a) (TF a) (dfl a).length q.1 q.2 := by
    intro a
    by_cases ha : a < 13
    · obtain ⟨q, hq, hb⟩ := List.any_eq_true.mp (CL_all a ha)
      have e := Nat.eq_of_beq_eq_true hb
      have h1 := CLt_ok q hq
      unfold wCLtc at h1
      simp only [Bool.and_eq_true] at h1
      have h2 := wAt_ok h1.1.1.2
      rw [e] at h2
      obtain ⟨cC, iS, hK⟩ := u_known htb (lay_in ha) (htb _ h2)
      exact ⟨(cC, iS), fun _ => hK⟩
    · exact ⟨(0, fun _ => 0), fun h => absurd h ha⟩
  obtain ⟨d, hd⟩ := Classical.axiomOfChoice h0
  have hA : ∀ ty, Cond.arrayClass ty ∈ TB → ∃ cA, ArrOfT s cA ty ∧ s.vm.findClass ("[" ++ ty.toString) = some cA := by
    intro ty hw
    obtain ⟨cA, kA, comp, h1, h2, h3⟩ := Cond.arrayClass_spec (htb _ hw)
    exact ⟨cA, fun n z => ⟨fun k h => (by cases h), kA, h2, comp, h3⟩, h1⟩
  obtain ⟨c0, a0, b0⟩ := hA .int (AT_in .int (Or.inl rfl))
  obtain ⟨c1, a1, b1⟩ := hA .long (AT_in .long (Or.inr (Or.inl rfl)))
  obtain ⟨c2, a2, b2⟩ := hA .byte (AT_in .byte (Or.inr (Or.inr (Or.inl rfl))))
  obtain ⟨c3, a3, b3⟩ := hA .boolean (AT_in .boolean (Or.inr (Or.inr (Or.inr rfl))))
  obtain ⟨comp, c4, k4, e1, -, e3, e4, e5⟩ := Cond.arrayOver_spec (hts _ AN_l)
  refine ⟨(fun k => (d k).1, fun k => (d k).2), fun i => match i with | 0 => c0 | 1 => c1 | 2 => c2 | 3 => c3 | _ => c4, ⟨fun k q hq => ?_, fun k q hq => ?_⟩, fun q hq => ?_, hts _ AN_l⟩
  · have hk : k < 13 := (List.getElem?_eq_some_iff.mp hq).1
    rw [cls_at hk] at hq
    cases hq
    exact hd k hk
  · match k, hq with
    | 0, hq => cases hq; exact ⟨a0, b0⟩
    | 1, hq => cases hq; exact ⟨a1, b1⟩
    | 2, hq => cases hq; exact ⟨a2, b2⟩
    | 3, hq => cases hq; exact ⟨a3, b3⟩
    | 4, hq => cases hq; exact ⟨fun n z => ⟨fun k h => (by cases h), k4, e3, comp, e4⟩, k4, comp, e3, e4, e1, e5⟩
    | k + 5, hq => simp [tysOf] at hq
  · have h := NLt_ok q hq
    unfold wNLtc at h
    exact va_Nw.of rfl (hts _ (List.mem_of_getElem? (of_decide_eq_true h)))
