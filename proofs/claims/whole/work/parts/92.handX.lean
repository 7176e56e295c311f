/-! rounds by hand: what they are; x's side -/
abbrev HWk : Type := (Nat × Nat × Bool) × (Nat → Bool) × (Nat → Nat) × (Nat → Nat)
def hOn (s : HWk) : Nat := s.1.1
def hUp (s : HWk) : Nat := s.1.2.1
def hCl (s : HWk) : Bool := s.1.2.2
def hSt (s : HWk) : Nat → Bool := s.2.1
def hAg (s : HWk) : Nat → Nat := s.2.2.1
def hWt (s : HWk) : Nat → Nat := s.2.2.2
def hs0 : HWk := ((0, 0, false), fun _ => false, fun _ => 0, fun _ => 0)
def WHs (D : DD) (s : HWk) : Prop := hOn s < 2 ^ dI D ∧ hUp s < 2 ^ dR D ∧ (∀ k, hSt s k = true → k < dK D) ∧ (∀ r, hAg s r ≤ 9) ∧ ∀ r, hWt s r ≤ 18
theorem WHs_0 (D : DD) : WHs D hs0 := ⟨Nat.two_pow_pos _, Nat.two_pow_pos _, fun _ h => absurd h (show ¬ false = true by decide), fun _ => Nat.zero_le _, fun _ => Nat.zero_le _⟩
def inR (x : Int32) (n : Nat) : Bool := decide (0 ≤ x) && decide (x < nI n)
theorem inR_c {x : Int32} {n : Nat} (hn : n < 2 ^ 31) : inR x n = true ↔ ∃ j, j < n ∧ x = nI j := by
  unfold inR
  rw [Bool.and_eq_true, decide_eq_true_eq, decide_eq_true_eq]
  constructor
  · rintro ⟨h1, h2⟩
    obtain ⟨j, hj, rfl⟩ := nI_of (Int32.not_lt.mpr h1)
    exact ⟨j, (nI_ltI hj hn).mp h2, rfl⟩
  · rintro ⟨j, hj, rfl⟩
    exact ⟨nI_pos' (by omega), nI_lt hj hn⟩
theorem inR_f {x : Int32} {n : Nat} (h : inR x n = false) : ¬ x < 0 → ¬ x < nI n := fun h1 h2 => by
  unfold inR at h
  rw [decide_eq_true (Int32.not_lt.mp h1), decide_eq_true h2] at h
  cases h
/-- the circuits that are closed now -/
def hSh (D : DD) (s : HWk) : Nat := bsum (fun c => cirB (dR D) (dL D) c && dCT D c (fun k => (decide (k < dK D) && tgW (dof D) (dnt D) (dtr D) (hOn s) (hUp s) k) || hSt s k)) 11
theorem hSh_lt (D : DD) (s : HWk) : hSh D s < 2048 := bsum_lt _ 11
def hBit (n i : Nat) (b : Bool) : Nat := if b = true then n ||| 2 ^ i else n ^^^ (n &&& 2 ^ i)
theorem hBit_lt {n i m : Nat} {b : Bool} (hn : n < 2 ^ m) (hi : i < m) : hBit n i b < 2 ^ m := by
  unfold hBit
  split
  · exact Nat.or_lt_two_pow hn (Nat.pow_lt_pow_right (by decide) hi)
  · exact Nat.xor_lt_two_pow hn (Nat.lt_of_le_of_lt Nat.and_le_left hn)
def hSet (D : DD) (s : HWk) (i : Int32) (b : Bool) : HWk := if inR i (dI D) = true then ((hBit (hOn s) i.toNatClampNeg b, hUp s, hCl s), s.2) else s
def hStrap (D : DD) (s : HWk) (k : Int32) (b : Bool) : HWk := if inR k (dK D) = true then (s.1, fun j => if j = k.toNatClampNeg then b else hSt s j, s.2.2) else s
def ageB (D : DD) (r v : Int32) : Bool := inR r (dR D) && inR v 10
def hAge (D : DD) (s : HWk) (r v : Int32) : HWk := if ageB D r v = true then (s.1, hSt s, fun j => if j = r.toNatClampNeg then v.toNatClampNeg else hAg s j, hWt s) else s
theorem hSet_ok {D : DD} {s : HWk} {i : Int32} {b : Bool} (hw : WD D) (hs : WHs D s) : WHs D (hSet D s i b) := by
  have hi := hw.i
  unfold hSet
  split
  · rename_i h
    obtain ⟨j, hj, rfl⟩ := (inR_c (by omega)).mp h
    obtain ⟨a, c⟩ := hs
    refine ⟨?_, c⟩
    show hBit (hOn s) (nI j).toNatClampNeg b < _
    rw [nI_clamp (by omega)]
    exact hBit_lt a hj
  · exact hs
theorem hStrap_ok {D : DD} {s : HWk} {k : Int32} {b : Bool} (hw : WD D) (hs : WHs D s) : WHs D (hStrap D s k b) := by
  have hk := hw.k
  unfold hStrap
  split
  · rename_i h
    obtain ⟨j, hj, rfl⟩ := (inR_c (by omega)).mp h
    obtain ⟨a, c, d, e⟩ := hs
    refine ⟨a, c, fun i hi => ?_, e⟩
    have hi2 : (if i = (nI j).toNatClampNeg then b else hSt s i) = true := hi
    rw [nI_clamp (by omega)] at hi2
    by_cases e2 : i = j
    · omega
    · rw [if_neg e2] at hi2; exact d i hi2
  · exact hs
theorem hAge_ok {D : DD} {s : HWk} {r v : Int32} (hs : WHs D s) : WHs D (hAge D s r v) := by
  unfold hAge
  split
  · rename_i h
    unfold ageB at h
    rw [Bool.and_eq_true] at h
    obtain ⟨j, hj, rfl⟩ := (inR_c (by decide)).mp h.2
    obtain ⟨a, c, d, e, f⟩ := hs
    refine ⟨a, c, d, fun i => ?_, f⟩
    show (if i = r.toNatClampNeg then (nI j).toNatClampNeg else hAg s i) ≤ 9
    rw [nI_clamp (by omega)]
    split
    · omega
    · exact e i
  · exact hs
/-- x's handwork, of the drawing at a -/
def XHw (h : AH) (w a : Nat) (s : HWk) : Prop := ∃ (z : Int64) (ga gw : Nat → Int32), h (w + 70) = some (.inr (2, [.ref a, .int (nI (hOn s)), .int (nI (hUp s)), .long z, .int (nI (hCl s).toNat), .ref (w + 71), .ref (w + 72)])) ∧ h (w + 71) = some (.inl (0, 6, .inl ga)) ∧ h (w + 72) = some (.inl (0, 6, .inl gw)) ∧ (∀ k, k < 64 → bl z k = hSt s k) ∧ ∀ r, r < 6 → ga r = nI (hAg s r) ∧ gw r = nI (hWt s r)
theorem XHw.ag {h h' : AH} {w a : Nat} {s : HWk} (hX : XHw h w a s) (hs : ∀ x, w + 70 ≤ x → x < w + 73 → h' x = h x) : XHw h' w a s := by
  obtain ⟨z, ga, gw, e0, e1, e2, p⟩ := hX
  exact ⟨z, ga, gw, (hs _ (by omega) (by omega)).trans e0, (hs _ (by omega) (by omega)).trans e1, (hs _ (by omega) (by omega)).trans e2, p⟩
set_option maxHeartbeats 8000000 in
theorem x_setInput {l : Launch} {G : GG} {h : AH} {nx : Nat} {Post : Option Value → AH → Nat → Prop} {w a : Nat} {i : Int32} {b : Bool} {D : DD} {s : HWk} (hX : XC G ∧ TX l G) (hW : XHw h w a s) (hD : XD h a D) (hw : WD D) (hP : ∀ h1 : AH, (∀ x, x < w + 70 ∨ w + 73 ≤ x → h1 x = h x) → XHw h1 w a (hSet D s i b) → Post (some (.int (nI (inR i (dI D)).toNat))) h1 nx) : Runs l G i_X2_setInput 0 0 [.ref (w + 70), .int i, .int (nI b.toNat)] h nx Post := by
  obtain ⟨z, ga, gw, e0, e1, e2, p1, p2⟩ := id hW
  obtain ⟨cc, g2, g3, g4, g5, g10, g13, g14, g16, g17, g18, g19, g27, g28, g1, g11, g12, d0, _⟩ := id hD
  have hi := hw.i
  have no : inR i (dI D) = false → Post (some (.int 0)) h nx := fun z => by
    have hP := hP h (fun _ _ => rfl) (by unfold hSet; rw [if_neg (by rw [z]; decide)]; exact hW)
    rw [z] at hP
    exact hP
  refine en_X2_setInput hX [] 60 rfl ?_
  by_cases c1 : i < 0
  · refine And.intro (fun _ => ?_) (fun cz => absurd (c1) cz)
    exact And.intro rfl ((no (by unfold inR; rw [decide_eq_false (Int32.not_le.mpr c1)]; rfl)))
  · refine And.intro (fun cz => absurd cz (c1)) (fun _ => ?_)
    refine Exists.intro _ (And.intro e0 (Exists.intro _ (And.intro rfl ?_)))
    refine Exists.intro _ (And.intro d0 (Exists.intro _ (And.intro rfl ?_)))
    cases c2 : inR i (dI D) with
    | false =>
      refine And.intro (fun cz => absurd cz (inR_f c2 c1)) (fun _ => ?_)
      exact And.intro rfl ((no c2))
    | true =>
      obtain ⟨j, hj, rfl⟩ := (inR_c (by omega)).mp c2
      refine And.intro (fun _ => ?_) (fun cz => absurd (nI_lt hj (by omega)) cz)
      have fin : ∀ v : Int32, v = nI (hBit (hOn s) j b) → Post (some (.int 1)) (uph h (w + 70) (.inr (2, [.ref a, .int v, .int (nI (hUp s)), .long z, .int (nI (hCl s).toNat), .ref (w + 71), .ref (w + 72)]))) nx := by
        intro v hv
        have hP := hP (uph h (w + 70) (.inr (2, [.ref a, .int v, .int (nI (hUp s)), .long z, .int (nI (hCl s).toNat), .ref (w + 71), .ref (w + 72)]))) (fun x hx => uph_ne (by omega)) (by
          unfold hSet
          rw [if_pos c2, nI_clamp (by omega)]
          refine ⟨z, ga, gw, ?_, (uph_ne (by omega)).trans e1, (uph_ne (by omega)).trans e2, p1, p2⟩
          rw [hv]
          exact uph_eq)
        rw [c2] at hP
        exact hP
      cases b with
      | true =>
        refine And.intro (fun cz => by first | exact absurd cz (by decide) | exact absurd (by decide) cz) (fun _ => ?_)
        refine Exists.intro _ (And.intro e0 (Exists.intro _ (And.intro rfl ?_)))
        refine Exists.intro _ (And.intro e0 (And.intro (Nat.le_of_ble_eq_true rfl) (And.intro rfl (And.intro rfl ?_))))
        refine And.intro rfl (fin (nI (hOn s) ||| ((1 : Int32) <<< (nI j &&& 31))) ?_)
        rw [nx_pow (by omega), nx_or]
        rfl
      | false =>
        refine And.intro (fun _ => ?_) (fun cz => by first | exact absurd cz (by decide) | exact absurd (by decide) cz)
        refine Exists.intro _ (And.intro e0 (Exists.intro _ (And.intro rfl ?_)))
        refine Exists.intro _ (And.intro e0 (And.intro (Nat.le_of_ble_eq_true rfl) (And.intro rfl (And.intro rfl ?_))))
        refine And.intro rfl (fin (nI (hOn s) &&& (((1 : Int32) <<< (nI j &&& 31)) ^^^ (-1))) ?_)
        rw [nx_pow (by omega), nx_andn]
        rfl
set_option maxHeartbeats 8000000 in
theorem x_layStrap {l : Launch} {G : GG} {h : AH} {nx : Nat} {Post : Option Value → AH → Nat → Prop} {w a : Nat} {i : Int32} {b : Bool} {D : DD} {s : HWk} (hX : XC G ∧ TX l G) (hW : XHw h w a s) (hD : XD h a D) (hw : WD D) (hP : ∀ h1 : AH, (∀ x, x < w + 70 ∨ w + 73 ≤ x → h1 x = h x) → XHw h1 w a (hStrap D s i b) → Post (some (.int (nI (inR i (dK D)).toNat))) h1 nx) : Runs l G i_X2_layStrap 0 0 [.ref (w + 70), .int i, .int (nI b.toNat)] h nx Post := by
  obtain ⟨z, ga, gw, e0, e1, e2, p1, p2⟩ := id hW
  obtain ⟨cc, g2, g3, g4, g5, g10, g13, g14, g16, g17, g18, g19, g27, g28, g1, g11, g12, d0, _⟩ := id hD
  have hi := hw.k
  have no : inR i (dK D) = false → Post (some (.int 0)) h nx := fun z => by
    have hP := hP h (fun _ _ => rfl) (by unfold hStrap; rw [if_neg (by rw [z]; decide)]; exact hW)
    rw [z] at hP
    exact hP
  refine en_X2_layStrap hX [] 60 rfl ?_
  by_cases c1 : i < 0
  · refine And.intro (fun _ => ?_) (fun cz => absurd (c1) cz)
    exact And.intro rfl ((no (by unfold inR; rw [decide_eq_false (Int32.not_le.mpr c1)]; rfl)))
  · refine And.intro (fun cz => absurd cz (c1)) (fun _ => ?_)
    refine Exists.intro _ (And.intro e0 (Exists.intro _ (And.intro rfl ?_)))
    refine Exists.intro _ (And.intro d0 (Exists.intro _ (And.intro rfl ?_)))
    cases c2 : inR i (dK D) with
    | false =>
      refine And.intro (fun cz => absurd cz (inR_f c2 c1)) (fun _ => ?_)
      exact And.intro rfl ((no c2))
    | true =>
      obtain ⟨j, hj, rfl⟩ := (inR_c (by omega)).mp c2
      refine And.intro (fun _ => ?_) (fun cz => absurd (nI_lt hj (by omega)) cz)
      have fin : ∀ v : Int64, (∀ k, k < 64 → bl v k = if k = j then b else bl z k) → Post (some (.int 1)) (uph h (w + 70) (.inr (2, [.ref a, .int (nI (hOn s)), .int (nI (hUp s)), .long v, .int (nI (hCl s).toNat), .ref (w + 71), .ref (w + 72)]))) nx := by
        intro v hv
        have hP := hP (uph h (w + 70) (.inr (2, [.ref a, .int (nI (hOn s)), .int (nI (hUp s)), .long v, .int (nI (hCl s).toNat), .ref (w + 71), .ref (w + 72)]))) (fun x hx => uph_ne (by omega)) (by
          unfold hStrap
          rw [if_pos c2, nI_clamp (by omega)]
          refine ⟨v, ga, gw, uph_eq, (uph_ne (by omega)).trans e1, (uph_ne (by omega)).trans e2, fun k hk => ?_, p2⟩
          rw [hv k hk, p1 k hk]
          rfl)
        rw [c2] at hP
        exact hP
      cases b with
      | true =>
        refine And.intro (fun cz => by first | exact absurd cz (by decide) | exact absurd (by decide) cz) (fun _ => ?_)
        refine Exists.intro _ (And.intro e0 (Exists.intro _ (And.intro rfl ?_)))
        refine Exists.intro _ (And.intro e0 (And.intro (Nat.le_of_ble_eq_true rfl) (And.intro rfl (And.intro rfl ?_))))
        refine And.intro rfl (fin (z ||| ((1 : Int64) <<< ((nI j).toInt64 &&& 63))) (fun k hk => ?_))
        rw [bl_or, bl_bit j (by omega)]
        by_cases e : k = j
        · rw [if_pos e, decide_eq_true e, Bool.or_true]
        · rw [if_neg e, decide_eq_false e, Bool.or_false]
      | false =>
        refine And.intro (fun _ => ?_) (fun cz => by first | exact absurd cz (by decide) | exact absurd (by decide) cz)
        refine Exists.intro _ (And.intro e0 (Exists.intro _ (And.intro rfl ?_)))
        refine Exists.intro _ (And.intro e0 (And.intro (Nat.le_of_ble_eq_true rfl) (And.intro rfl (And.intro rfl ?_))))
        refine And.intro rfl (fin (z &&& (((1 : Int64) <<< ((nI j).toInt64 &&& 63)) ^^^ (-1))) (fun k hk => ?_))
        rw [bl_and, bl_xor, bl_m1 k hk, bl_bit j (by omega)]
        by_cases e : k = j
        · rw [if_pos e, decide_eq_true e]; cases bl z k <;> rfl
        · rw [if_neg e, decide_eq_false e]; cases bl z k <;> rfl
set_option maxHeartbeats 8000000 in
theorem x_setAge {l : Launch} {G : GG} {h : AH} {nx : Nat} {Post : Option Value → AH → Nat → Prop} {w a : Nat} {i v : Int32} {D : DD} {s : HWk} (hX : XC G ∧ TX l G) (hW : XHw h w a s) (hD : XD h a D) (hw : WD D) (hP : ∀ h1 : AH, (∀ x, x < w + 70 ∨ w + 73 ≤ x → h1 x = h x) → XHw h1 w a (hAge D s i v) → Post (some (.int (nI (ageB D i v).toNat))) h1 nx) : Runs l G i_X2_setAge 0 0 [.ref (w + 70), .int i, .int v] h nx Post := by
  obtain ⟨z, ga, gw, e0, e1, e2, p1, p2⟩ := id hW
  obtain ⟨cc, g2, g3, g4, g5, g10, g13, g14, g16, g17, g18, g19, g27, g28, g1, g11, g12, d0, _⟩ := id hD
  have hi := hw.r
  have no : ageB D i v = false → Post (some (.int 0)) h nx := fun z => by
    have hP := hP h (fun _ _ => rfl) (by unfold hAge; rw [if_neg (by rw [z]; decide)]; exact hW)
    rw [z] at hP
    exact hP
  refine en_X2_setAge hX [] 60 rfl ?_
  by_cases c1 : i < 0
  · refine And.intro (fun _ => ?_) (fun cz => absurd (c1) cz)
    exact And.intro rfl ((no (by unfold ageB inR; rw [decide_eq_false (Int32.not_le.mpr c1)]; rfl)))
  · refine And.intro (fun cz => absurd cz (c1)) (fun _ => ?_)
    refine Exists.intro _ (And.intro e0 (Exists.intro _ (And.intro rfl ?_)))
    refine Exists.intro _ (And.intro d0 (Exists.intro _ (And.intro rfl ?_)))
    cases c2 : inR i (dR D) with
    | false =>
      refine And.intro (fun _ => ?_) (fun cz => absurd (Int32.not_lt.mp (inR_f c2 c1)) cz)
      exact And.intro rfl ((no (by unfold ageB; rw [c2]; rfl)))
    | true =>
      obtain ⟨j, hj, rfl⟩ := (inR_c (by omega)).mp c2
      refine And.intro (fun cz => absurd cz (nI_ge hj (by omega))) (fun _ => ?_)
      refine And.intro (fun cz => absurd cz (nI_ge (a := j) (b := 6) (by omega) (by decide))) (fun _ => ?_)
      by_cases c3 : v < 0
      · refine And.intro (fun _ => ?_) (fun cz => absurd (c3) cz)
        exact And.intro rfl ((no (by unfold ageB; rw [c2]; unfold inR; rw [decide_eq_false (Int32.not_le.mpr c3)]; rfl)))
      · refine And.intro (fun cz => absurd cz (c3)) (fun _ => ?_)
        obtain ⟨y, hy, rfl⟩ := nI_of c3
        by_cases c4 : y ≤ 9
        · refine And.intro (fun _ => ?_) (fun cz => absurd (nI_le (b := 9) c4 (by decide)) cz)
          have cb : ageB D (nI j) (nI y) = true := by unfold ageB; rw [c2, (inR_c (by decide)).mpr ⟨y, by omega, rfl⟩]; rfl
          refine Exists.intro _ (And.intro e0 (Exists.intro _ (And.intro rfl ?_)))
          refine Exists.intro _ (Exists.intro _ (And.intro e1 (And.intro (vp_in_nI (show j < 6 by omega) (by decide)) ?_)))
          rw [nI_clamp (by omega)]
          have hP := hP (uph h (w + 71) (.inl (0, 6, .inl (upd ga j (nI y))))) (fun x hx => uph_ne (by omega)) (by
            unfold hAge
            rw [if_pos cb, nI_clamp (by omega), nI_clamp hy]
            refine ⟨z, _, gw, (uph_ne (by omega)).trans e0, uph_eq, (uph_ne (by omega)).trans e2, p1, fun r hr => ⟨?_, (p2 r hr).2⟩⟩
            show upd ga j (nI y) r = nI (if r = j then y else hAg s r)
            by_cases e : r = j
            · rw [e, pk_us, if_pos rfl]
            · rw [pk_un e, if_neg e]; exact (p2 r hr).1)
          rw [cb] at hP
          exact And.intro rfl (hP)
        · refine And.intro (fun cz => absurd cz (nI_ge (a := 9) (b := y) (by omega) hy)) (fun _ => ?_)
          exact And.intro rfl ((no (by unfold ageB; rw [c2]; unfold inR; rw [decide_eq_false (p := nI y < nI 10) (nI_nlt (by omega) hy), Bool.and_false]; rfl)))
set_option maxHeartbeats 8000000 in
theorem x_hasClashed {l : Launch} {G : GG} {h : AH} {nx : Nat} {Post : Option Value → AH → Nat → Prop} {w a : Nat} {s : HWk} (hX : XC G ∧ TX l G) (hW : XHw h w a s) (hP : Post (some (.int (nI (hCl s).toNat))) h nx) : Runs l G i_X2_hasClashed 0 0 [.ref (w + 70)] h nx Post := by
  obtain ⟨z, ga, gw, e0, _⟩ := id hW
  refine en_X2_hasClashed hX [] 20 rfl ?_
  refine Exists.intro _ (And.intro e0 (Exists.intro _ (And.intro rfl ?_)))
  exact And.intro (nar_bb _) hP
theorem cbits : ∀ r, r ≤ 6 → ∀ n, n ≤ 5 → ((((1 : Int32) <<< (nI r &&& 31)) - 1) ||| ((((1 : Int32) <<< (nI n &&& 31)) - 1) <<< ((6 : Int32) &&& 31))) = nI (bsum (cirB r n) 11) := by decide +kernel
set_option maxHeartbeats 8000000 in
theorem x_circuitsNow {l : Launch} {G : GG} {h : AH} {nx : Nat} {Post : Option Value → AH → Nat → Prop} {w a : Nat} {D : DD} {s : HWk} (hX : XC G ∧ TX l G) (hW : XHw h w a s) (hD : XD h a D) (hw : WD D) (hs : WHs D s) (hP : Post (some (.int (nI (hSh D s)))) h nx) : Runs l G i_X2_circuitsNow 0 0 [.ref (w + 70)] h nx Post := by
  obtain ⟨z, ga, gw, e0, e1, e2, p1, p2⟩ := id hW
  obtain ⟨cc, g2, g3, g4, g5, g10, g13, g14, g16, g17, g18, g19, g27, g28, g1, g11, g12, d0, d6, d1, d2, d3, d4, d5, d10, d11, d12, d13, d14, d16, d17, d18, d19, d27, d28, q1, q2, q3, q4, _⟩ := id hD
  have hi := hw.i
  have hr := hw.r
  have hl := hw.l
  have hk := hw.k
  have hpi := hw.pi
  have hpr := hw.pr
  have hon := hs.1
  have hup := hs.2.1
  refine en_X2_circuitsNow hX [] 60 rfl ?_
  refine Exists.intro _ (And.intro e0 (Exists.intro _ (And.intro rfl ?_)))
  refine Exists.intro _ (And.intro d0 (Exists.intro _ (And.intro rfl ?_)))
  refine Exists.intro _ (And.intro e0 (Exists.intro _ (And.intro rfl ?_)))
  refine Exists.intro _ (And.intro e0 (Exists.intro _ (And.intro rfl ?_)))
  refine Exists.intro 0 (Exists.intro 0 (And.intro (Nat.le_refl _) (And.intro (Nat.le_refl _) (c_wordOf hX ?_))))
  rw [wordI (by omega) (by omega)]
  refine Exists.intro _ (And.intro d6 (Exists.intro 0 (Exists.intro 0 (And.intro (Nat.le_refl _) (And.intro (Nat.le_refl _) (c_contactsAt (qi := a + 11) (qr := a + 12) hX d6 rfl rfl d11 d12 ?_))))))
  rw [w_hi (by omega) (by omega), w_lo (by omega), nI_clamp (by omega), nI_clamp (by omega)]
  refine Exists.intro _ (And.intro e0 (Exists.intro _ (And.intro rfl ?_)))
  refine Exists.intro _ (And.intro e0 (Exists.intro _ (And.intro rfl ?_)))
  refine Exists.intro _ (And.intro d0 (Exists.intro _ (And.intro rfl ?_)))
  refine Exists.intro _ (And.intro e0 (Exists.intro _ (And.intro rfl ?_)))
  refine Exists.intro _ (And.intro d0 (Exists.intro 0 (Exists.intro 0 (And.intro (Nat.le_refl _) (And.intro (Nat.le_refl _) (c_circuitBits hX d0 rfl rfl ?_))))))
  rw [cbits _ hr _ hl]
  have hb := bsum_lt (cirB (dR D) (dL D)) 11
  refine Exists.intro _ (And.intro d6 (Exists.intro 0 (Exists.intro 0 (And.intro (Nat.le_refl _) (And.intro (Nat.le_refl _) (c_circuitsWith (q4 := a + 16) (q5 := a + 17) (q9 := a + 10) hX d6 rfl rfl rfl rfl d10 d16 d17 (by decide) (by omega) ?_))))))
  refine And.intro rfl ?_
  have ez : bl ((g11 (hOn s) ||| g12 (hUp s)) ||| z) = fun k => (decide (k < dK D) && tgW (dof D) (dnt D) (dtr D) (hOn s) (hUp s) k) || hSt s k := by
    funext k
    rw [bl_or]
    by_cases k64 : k < 64
    · rw [q4 _ _ k hon (by omega) k64, p1 k k64]
    · rw [bl_big (by omega), bl_big (by omega), decide_eq_false (show ¬ k < dK D by omega)]
      cases c : hSt s k with
      | false => rfl
      | true => have := hs.2.2.1 k c; omega
  have ee : bsum (fun c => (bsum (cirB (dR D) (dL D)) 11).testBit c && decide (wk g16 g17 ((g11 (hOn s) ||| g12 (hUp s)) ||| z) 40 40 (g10 c) = -1)) 11 = hSh D s := by
    unfold hSh
    refine bsum_congr (fun c hc => ?_)
    rw [bsum_tb, decide_eq_true hc, Bool.true_and]
    cases cb : cirB (dR D) (dL D) c with
    | false => rfl
    | true => rw [q3 c _ hc cb, ez]
  rw [ee]
  exact hP
