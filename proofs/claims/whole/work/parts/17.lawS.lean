/-! the law's steps, its script's loads among them -/
/-- a load of the script's ints, its length; every other instruction as ever -/
def sldK (b L : Nat) (xs : Nat → Int32) (pc : Nat) (st : List Value) (K : Nat → List Value → Prop) (D : Prop) : Prop := match fetch e_law pc with
  | some (.iaload, nxt, _) => (match st with | .int i :: .ref q :: r => q = b ∧ vp_in i L ∧ K nxt (.int (xs i.toNatClampNeg) :: r) | _ => False)
  | some (.arraylength, nxt, _) => (match st with | .ref q :: r => q = b ∧ K nxt (.int (Int32.ofNat L) :: r) | _ => False)
  | _ => D
section LAWS
variable {l : Launch} {G : GG} {p : Program} {e : Env} {s : State} {m : MethodId} {b L : Nat} {xs : Nat → Int32} {below : List Frame} {meth : Method} {c : Code}
def runS (l : Launch) (G : GG) (p : Program) (e : Env) (s : State) (m : MethodId) (b L : Nat) (xs : Nat → Int32) (below : List Frame) (meth : Method) (c : Code) (stops : List Nat) : Nat → Nat → LV → List Value → AH → Nat → Nat → Nat → Prop
  | 0, pc, lv, st, h, nx, k, n => GoL l G p e s m b below meth c pc lv st h nx k n
  | f + 1, pc, lv, st, h, nx, k, n => sldK b L xs pc st (fun pc st => bif stops.any (Nat.beq pc) then GoL l G p e s m b below meth c pc lv st h nx k n else runS l G p e s m b L xs below meth c stops f pc lv st h nx k n) (stp G.2.2.2.2 (Runs l G) e_law RetL 330716 8110100 (fun pc lv st h nx k n => bif stops.any (Nat.beq pc) then GoL l G p e s m b below meth c pc lv st h nx k n else runS l G p e s m b L xs below meth c stops f pc lv st h nx k n) pc lv st h nx k n)
theorem law_dec {pc nxt : Nat} {ins : Instr} {r : Nat × Nat × Nat × Int32 × Int64} (hf : fetch e_law pc = some (ins, nxt, r)) : decode code pc = .ok (ins, ilen ins (nxt - pc)) ∧ nxt = pc + ilen ins (nxt - pc) := by
  have hc := List.all_eq_true.mp ck_law _ (fetch_mem hf)
  unfold chkE at hc
  rw [Bool.and_eq_true, Bool.and_eq_true, decide_eq_true_eq] at hc
  exact ⟨hc.1, Nat.eq_of_beq_eq_true hc.2.1⟩
theorem GoS.of (hT : TX l G) (C : Cx G p room_1 s m #[Value.ref b] meth c 13 s_law 330716 8110100) (hA : ∀ q, G.2.2.1 q → s.heap.size ≤ q) (hXs : va_X b L xs s s.heap) (hbl : b < s.heap.size) (hbA : ¬ G.2.2.1 b) (stops : List Nat) : ∀ (f : Nat) {pc : Nat} {lv : LV} {st : List Value} {h : AH} {nx k n : Nat}, runS l G p e s m b L xs below meth c stops f pc lv st h nx k n → GoL l G p e s m b below meth c pc lv st h nx k n
  | 0, _, _, _, _, _, _, _, hr => hr
  | f + 1, pc, lv, st, h, nx, k, n, hr => by
    have hK : ∀ {pc : Nat} {lv : LV} {st : List Value} {h : AH} {nx k n : Nat}, (bif stops.any (Nat.beq pc) then GoL l G p e s m b below meth c pc lv st h nx k n else runS l G p e s m b L xs below meth c stops f pc lv st h nx k n) → GoL l G p e s m b below meth c pc lv st h nx k n := by
      intro pc lv st h nx k n hz
      cases hb : stops.any (Nat.beq pc) with
      | true => rw [hb] at hz; exact hz
      | false => rw [hb] at hz; exact GoS.of hT C hA hXs hbl hbA stops f hz
    have hD : stp G.2.2.2.2 (Runs l G) e_law RetL 330716 8110100 (fun pc lv st h nx k n => bif stops.any (Nat.beq pc) then GoL l G p e s m b below meth c pc lv st h nx k n else runS l G p e s m b L xs below meth c stops f pc lv st h nx k n) pc lv st h nx k n → GoL l G p e s m b below meth c pc lv st h nx k n := by
      intro hz
      refine step_ok C (fun _ => hT) ck_law (Ret := RetL) ?_ (K := _) ?_ hz
      · intro ins a b cc v w hi hd hx h1
        obtain ⟨rfl, rfl⟩ := h1
        intro H locs ls hR hS hl hk hn
        refine W.widen hk hn ?_
        refine va_forget (fun q hq => hA _ (hS.2.2 q hq)) ?_
        exact lw_ret C.1 C.2.1 C.2.2.2.1 C.2.2.2.2.2.2.1 hd
      · intro pc lv st h nx k n hz
        exact hK hz
    unfold runS sldK at hr
    split at hr
    · next nxt r hf =>
      obtain ⟨hd, hn⟩ := law_dec hf
      split at hr
      · next i q r =>
        obtain ⟨rfl, hv, hz⟩ := hr
        have hz := hK hz
        rw [hn] at hz
        exact gol_sld C hXs hbl hbA hv hd hz
      · exact hr.elim
    · next nxt r hf =>
      obtain ⟨hd, hn⟩ := law_dec hf
      split at hr
      · next q r =>
        obtain ⟨rfl, hz⟩ := hr
        have hz := hK hz
        rw [hn] at hz
        exact gol_slen C hXs hbl hbA hd hz
      · exact hr.elim
    · exact hD hr
/-- a call of x and the same of the model: both return, and alike; then Q -/
def PR (l : Launch) (G : GG) (ox om b1 b2 : Nat) (as : List Value) (h : AH) (nx k n : Nat) (Q : AH → Nat → Nat → Nat → Prop) : Prop :=
  ∃ fx c1 s1, h ox = some (.inr (11, fx)) ∧ k + c1 ≤ 330716 ∧ n + s1 ≤ 8110100 ∧ Runs l G b1 c1 s1 (.ref ox :: as) h nx (fun u h1 nx1 => ∃ v fm c2 s2, u = some (.int v) ∧ h1 om = some (.inr (12, fm)) ∧ k + c1 + c2 ≤ 330716 ∧ n + s1 + s2 ≤ 8110100 ∧ Runs l G b2 c2 s2 (.ref om :: as) h1 nx1 (fun u2 h2 nx2 => u2 = some (.int v) ∧ Q h2 nx2 (k + c1 + c2) (n + s1 + s2)))
def HD (l : Launch) (G : GG) (p : Program) (e : Env) (s : State) (m : MethodId) (b : Nat) (below : List Frame) (meth : Method) (c : Code) (ox om : Nat) (i : Int32) (h : AH) (nx k n : Nat) : Prop := GoL l G p e s m b below meth c 18 [(0, .ref b), (1, .ref ox), (2, .ref om), (3, .int i)] [] h nx k n
theorem vin_at {j t L : Nat} (ht : t < 6) (hj : j + 6 ≤ L) (hL : L ≤ 4000) : vp_in (nI j + nI t) L := by
  rw [show nI j + nI t = nI (j + t) from (Int32.ofNat_add j t).symm]
  exact vp_in_nI (by omega) (by omega)
end LAWS
