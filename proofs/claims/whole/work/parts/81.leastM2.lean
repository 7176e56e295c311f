/-! the model's leastTest -/
/-- the stamps so far -/
def MSt (h : AH) (o : Nat) (fs : List Value) (sb : Nat) : Prop := ∃ (st : Nat) (gs : Nat → Int32), st ≤ sb ∧ fs[81]? = some (.int (nI st)) ∧ h (o + 1 + 51) = some (.inl (0, 131072, .inl gs)) ∧ ∀ y, y < 131072 → ∃ m, m ≤ st ∧ gs y = nI m
theorem ME.st {h : AH} {o st : Nat} {S : BS} {fs : List Value} (hE : ME h o st S fs) : MSt h o fs st := by
  obtain ⟨gt, gf, gs, e49, e50, e51, f77, f81, r1, r2, r3⟩ := hE
  exact ⟨st, gs, Nat.le_refl _, f81, e51, fun y hy => (r3 y hy).2⟩
/-- the test that was found -/
def LR (h : AH) (o : Nat) (fs : List Value) (r : Option (Nat × (Nat → Nat))) : Prop := match r with
  | none => fs[82]? = some (.int (-1))
  | some p => fs[82]? = some (.int (nI p.1)) ∧ p.1 ≤ 12 ∧ ∃ g : Nat → Int32, h (o + 1 + 52) = some (.inl (0, 12, .inl g)) ∧ ∀ j, j < p.1 → g j = nI (p.2 j)
theorem ME.keep {h h' : AH} {o st : Nat} {S : BS} {fs fs' : List Value} (hE : ME h o st S fs) (e1 : h' (o + 1 + 49) = h (o + 1 + 49)) (e2 : h' (o + 1 + 50) = h (o + 1 + 50)) (e3 : h' (o + 1 + 51) = h (o + 1 + 51)) (e4 : fs'[77]? = fs[77]?) (e5 : fs'[81]? = fs[81]?) : ME h' o st S fs' := by
  obtain ⟨gt, gf, gs, e49, e50, e51, f77, f81, r⟩ := hE
  exact ⟨gt, gf, gs, e1.trans e49, e2.trans e50, e3.trans e51, e4.trans f77, e5.trans f81, r⟩
theorem less2 (d : Nat) : nI (d + 1) - 2 = nI d - 1 := by
  cases d with
  | zero => rfl
  | succ d => rw [nI_pred, show (2 : Int32) = nI 2 from rfl, nI_sub (by omega)]; rfl
set_option maxHeartbeats 8000000 in
theorem m_leastTest {l : Launch} {G : GG} {h : AH} {nx : Nat} {Post : Option Value → AH → Nat → Prop} {o d f sb : Nat} {D : DD} {fs : List Value} (hX : XC G ∧ TX l G) (hM : MA h o fs) (hS : SHm h o) (f19 : fs[19]? = some (.int (nI d))) (hD : MPg h o d D) (hw : WD D) (hf : okW D (some f)) (hB0 : HB h o 0 (tq0 D)) (hB1 : HB h o 1 (tq1 D f)) (hst : MSt h o fs sb) (hsb : sb + 1 < 2 ^ 31) (hP : ∀ (h1 : AH) (fs1 : List Value), MLs h o fs h1 fs1 → LR h1 o fs1 (ltR D f) → MSt h1 o fs1 (sb + 1) → Post none h1 nx) : Runs l G i_X12_leastTest 0 0 [.ref o] h nx Post := by
  have hpr := hw.pr
  have hpi := hw.pi
  have hi5 := hw.i
  obtain ⟨q0, q1⟩ := tq_ok hw hf
  have hd := hD.2.2.2.2.2.2.2
  have h99 := hM.2.1
  obtain ⟨st, gs0, s1, s2, s3, s4⟩ := hst
  have R0 := MLs.rf hM hS
  have R1 := R0.set (k := 82) (v := .int (-1)) (Or.inr (Or.inr rfl))
  have g82 : (fs.set 82 (.int (-1)))[82]? = some (.int (-1)) := get_set (by omega)
  have hsA : stA D (tA0 D) := by
    rcases kSe_c q0 (on := 0) (kSt_up q0).2 with e | ⟨s, a1, e, _⟩
    · exact Or.inl e
    · exact Or.inr ⟨s, a1, e⟩
  have hsB : stA D (tB0 D f) := by
    rcases kSe_c q1 (on := 0) (kSt_up q1).2 with e | ⟨s, a1, e, _⟩
    · exact Or.inl e
    · exact Or.inr ⟨s, a1, e⟩
  refine en_X12_leastTest hX [72] 120 rfl ?_
  refine Exists.intro _ (And.intro hM.1 (And.intro (by omega) (And.intro rfl (And.intro rfl ?_))))
  refine Exists.intro _ (And.intro R1.1.1 (Exists.intro 0 (Exists.intro 0 (And.intro (Nat.le_refl _) (And.intro (Nat.le_refl _) (m_startOf (hh := 0) hX R1.1 (by decide) q0 (R1.hb hB0) ?_))))))
  refine Exists.intro _ (And.intro R1.1.1 (Exists.intro 0 (Exists.intro 0 (And.intro (Nat.le_refl _) (And.intro (Nat.le_refl _) (m_startOf (hh := 1) hX R1.1 (by decide) q1 (R1.hb hB1) ?_))))))
  rw [show kSe (tq0 D) 0 (kSu (tq0 D)) = tA0 D from rfl, show kSe (tq1 D f) 0 (kSu (tq1 D f)) = tB0 D f from rfl]
  refine Exists.intro _ (And.intro R1.1.1 (Exists.intro 0 (Exists.intro 0 (And.intro (Nat.le_refl _) (And.intro (Nat.le_refl _) (m_seen (on := 0) hX R1.1 hw hf (R1.hb hB0) (R1.hb hB1) (Nat.two_pow_pos _) hsA hsB ?_))))))
  rw [show tLk D f 0 (tA0 D) (tB0 D f) = tL0 D f from rfl]
  have hlt : tL0 D f < 3 := by
    unfold tL0 tLk
    repeat' split
    all_goals decide
  have c012 : tL0 D f = 0 ∨ tL0 D f = 1 ∨ tL0 D f = 2 := by omega
  have st82 : ∀ {fs1 : List Value}, fs1[81]? = fs[81]? → MSt (uph h o (.inr (12, fs1))) o fs1 (sb + 1) := fun e => ⟨st, gs0, by omega, e.trans s2, (uph_ne (by omega)).trans s3, s4⟩
  rcases c012 with c | c | c
  rotate_left
  · rw [c]
    have el : ltR D f = some (0, fun _ => 0) := if_pos c
    refine And.intro (fun cz => by first | exact absurd cz (by decide) | exact absurd (by decide) cz) (fun _ => ?_)
    refine Exists.intro _ (And.intro R1.1.1 (And.intro (by have := R1.len; omega) (And.intro rfl (And.intro rfl ?_))))
    refine And.intro (fun cz => by first | exact absurd cz (by decide) | exact absurd (by decide) cz) (fun _ => ?_)
    have R2 := R1.set (k := 82) (v := .int 0) (Or.inr (Or.inr rfl))
    obtain ⟨g52, e52⟩ := R2.2.1.i 52 (by decide) (by decide) rfl
    refine hP _ _ R2 ?_ ?_
    · rw [el]
      exact ⟨get_set (by have := R1.len; omega), by decide, g52, e52, fun j hj => absurd hj (Nat.not_lt_zero j)⟩
    · rw [uph_uph]
      exact st82 (by rw [get_set_ne (by decide), get_set_ne (by decide)])
  · rw [c]
    refine And.intro (fun _ => ?_) (fun cz => by first | exact absurd cz (by decide) | exact absurd (by decide) cz)
    refine And.intro (fun cz => by first | exact absurd cz (by decide) | exact absurd (by decide) cz) (fun _ => ?_)
    have el : ltR D f = none := by
      unfold ltR tRes
      rw [if_neg (by rw [c]; decide), if_neg (by rw [c]; decide)]
    exact hP _ _ R1 (by rw [el]; exact g82) (st82 (get_set_ne (by decide)))
  · rw [c]
    refine And.intro (fun _ => ?_) (fun cz => by first | exact absurd cz (by decide) | exact absurd (by decide) cz)
    refine And.intro (fun _ => ?_) (fun cz => by first | exact absurd cz (by decide) | exact absurd (by decide) cz)
    obtain ⟨hv0, s, s2_, b1, b2, ea, eb, ey⟩ := tY0_val hw hf c
    refine Exists.intro _ (And.intro R1.1.1 (And.intro (by have := R1.len; omega) (And.intro rfl (And.intro rfl ?_))))
    have R2 := R1.set (k := 77) (v := .int 0) (Or.inl rfl)
    refine Exists.intro _ (And.intro R2.1.1 (Exists.intro _ (And.intro (by rw [get_set_ne (by decide), get_set_ne (by decide)]; exact s2) ?_)))
    refine Exists.intro _ (And.intro R2.1.1 (And.intro (by have := R2.len; omega) (And.intro rfl (And.intro rfl ?_))))
    have R3 := R2.set (k := 81) (v := .int (nI st + 1)) (Or.inr (Or.inl rfl))
    refine Exists.intro _ (And.intro R3.1.1 (Exists.intro 0 (Exists.intro 0 (And.intro (Nat.le_refl _) (And.intro (Nat.le_refl _) (m_startOf (hh := 0) hX R3.1 (by decide) q0 (R3.hb hB0) ?_))))))
    refine Exists.intro _ (And.intro R3.1.1 (Exists.intro 0 (Exists.intro 0 (And.intro (Nat.le_refl _) (And.intro (Nat.le_refl _) (m_startOf (hh := 1) hX R3.1 (by decide) q1 (R3.hb hB1) ?_))))))
    rw [show kSe (tq0 D) 0 (kSu (tq0 D)) = tA0 D from rfl, show kSe (tq1 D f) 0 (kSu (tq1 D f)) = tB0 D f from rfl, ea, eb]
    have hyl := tVal_lt hw hv0
    obtain ⟨g49, e49⟩ := R3.2.1.i 49 (by decide) (by decide) rfl
    obtain ⟨g50, e50⟩ := R3.2.1.i 50 (by decide) (by decide) rfl
    have ME0 : ME (uph (uph (uph h o (.inr (12, fs.set 82 (.int (-1))))) o (.inr (12, (fs.set 82 (.int (-1))).set 77 (.int 0)))) o (.inr (12, ((fs.set 82 (.int (-1))).set 77 (.int 0)).set 81 (.int (nI st + 1))))) o (st + 1) t00 (((fs.set 82 (.int (-1))).set 77 (.int 0)).set 81 (.int (nI st + 1))) := by
      refine ⟨g49, g50, gs0, e49, e50, by rw [uph_ne (by omega), uph_ne (by omega), uph_ne (by omega)]; exact s3, ?_, ?_, fun j hj => absurd hj (Nat.not_lt_zero j), fun z => absurd z (Nat.lt_irrefl 0), fun y hy => ?_⟩
      · rw [get_set_ne (by decide)]
        exact get_set (by have := R1.len; omega)
      · rw [show nI st + 1 = nI (st + 1) from (nI_succ _).symm]
        exact get_set (by have := R2.len; omega)
      · obtain ⟨m, hm, e⟩ := s4 y hy
        refine ⟨⟨fun z => ?_, fun z => by cases z⟩, m, by omega, e⟩
        rw [e] at z
        have := (nI_eq (by omega) (by omega)).mp z
        omega
    have e64 : (64 : Int32) * nI s + nI s2_ = nI (tY0 D f) := by rw [show (64 : Int32) = nI 64 from rfl, nI_mul, nI_add, ey]
    refine Exists.intro _ (And.intro R3.1.1 (Exists.intro 0 (Exists.intro 0 (And.intro (Nat.le_refl _) (And.intro (Nat.le_refl _) ?_)))))
    rw [e64]
    refine m_joins (k := 0) (i := 0) hX R3 ME0 hyl (Or.inl ⟨rfl, rfl⟩) (by rw [t00_add]; show 1 ≤ 131072; decide) (fun h4 fs4 R4 k82 ME4 => ?_)
    rw [t00_add] at ME4
    have k82b : fs4[82]? = some (.int (-1)) := k82.trans (by rw [get_set_ne (by decide), get_set_ne (by decide)]; exact g82)
    have hres : tRes D f = tRun D f 131073 0 (S0F (tY0 D f)) := if_pos c
    have ltN : (tRes D f).1 = none → ltR D f = none := fun e => by
      unfold ltR
      rw [if_neg (by rw [c]; decide), e]
    have outer : ∀ (n k : Nat) (h5 : AH) (fs5 : List Value) (S : BS), n + k = 131073 → tRun D f n k S = tRes D f → TIn D f S → MLs h o fs h5 fs5 → ME h5 o (st + 1) S fs5 → fs5[82]? = some (.int (-1)) → Go l G 12 s_X12_leastTest 0 0 Post 72 [(2, .int (nI k)), (0, .ref o)] [] h5 nx 0 0 := by
      intro n
      induction n with
      | zero =>
        intro k h5 fs5 S hn hrun hI R5 ME5 f82
        have := hI.le hw
        obtain ⟨gt, gf, gs, e49, e50, e51, f77, f81, r1, r2, r3⟩ := id ME5
        refine Go.of hX.2 ck_X12_leastTest [72] 20 ?_
        refine Exists.intro _ (And.intro R5.1.1 (Exists.intro _ (And.intro f77 ?_)))
        refine And.intro (fun _ => ?_) (fun cz => absurd (nI_le (a := S.1) (b := k) (by omega) (by omega)) cz)
        have e : (tRes D f).1 = none := by rw [← hrun]; rfl
        obtain ⟨st5, gs5, t1, t2, t3, t4⟩ := ME5.st
        exact hP h5 fs5 R5 (by rw [ltN e]; exact f82) ⟨st5, gs5, by omega, t2, t3, t4⟩
      | succ n ih =>
        intro k h5 fs5 S hn hrun hI R5 ME5 f82
        have hSle := hI.le hw
        obtain ⟨gt, gf, gs, e49, e50, e51, f77, f81, r1, r2, r3⟩ := id ME5
        have done : tRun D f (n + 1) k S = (none, S) → Post none h5 nx := by
          intro e2
          have e : (tRes D f).1 = none := by rw [← hrun, e2]
          obtain ⟨st5, gs5, t1, t2, t3, t4⟩ := ME5.st
          exact hP h5 fs5 R5 (by rw [ltN e]; exact f82) ⟨st5, gs5, by omega, t2, t3, t4⟩
        refine Go.of hX.2 ck_X12_leastTest [72, 107] 60 ?_
        refine Exists.intro _ (And.intro R5.1.1 (Exists.intro _ (And.intro f77 ?_)))
        by_cases c1 : k < S.1
        · refine And.intro (fun cz => absurd cz (nI_ge c1 (by omega))) (fun _ => ?_)
          have hx := hI.1 k c1
          have hxl := tVal_lt hw hx
          refine Exists.intro _ (And.intro R5.1.1 (Exists.intro _ (And.intro (R5.1.2.2 49 (by decide)) ?_)))
          refine Exists.intro _ (Exists.intro _ (And.intro e49 (And.intro (vp_in_nI (by omega) (by decide)) ?_)))
          rw [nI_clamp (show k < 2 ^ 31 by omega), (r1 k c1).1]
          refine Exists.intro _ (And.intro R5.1.1 (Exists.intro 0 (Exists.intro 0 (And.intro (Nat.le_refl _) (And.intro (Nat.le_refl _) (m_deep hX R5.1 ME5 hw hI c1 ?_))))))
          have hdk : tD S k ≤ k := dpF_le (fr := fun i => (S.2.2.1 i).1) hI.fr k k (Nat.le_refl _) c1
          by_cases c2 : tD S k < 12
          · refine And.intro (fun _ => ?_) (fun cz => absurd (show nI (tD S k) + 1 ≤ 12 from by rw [← nI_succ]; exact nI_le (b := 12) c2 (by decide)) cz)
            have inner : ∀ (m i : Nat) (h6 : AH) (fs6 : List Value), i + m = dI D → fsA (tSn D f (S.2.1 k)) i = none → MLs h o fs h6 fs6 → ME h6 o (st + 1) (bI (tNb D f) k (S.2.1 k) i S) fs6 → fs6[82]? = some (.int (-1)) → Go l G 12 s_X12_leastTest 0 0 Post 107 [(5, .int (nI i)), (4, .int (nI (tD S k + 1))), (3, .int (nI (S.2.1 k))), (2, .int (nI k)), (0, .ref o)] [] h6 nx 0 0 := by
              intro m
              induction m with
              | zero =>
                intro i h6 fs6 hi h0 R6 ME6 f82b
                have e : i = dI D := by omega
                subst e
                obtain ⟨gI, eI, pI⟩ := (R6.pg hD).2.2.2.1
                refine Go.of hX.2 ck_X12_leastTest [72, 107] 30 ?_
                refine Exists.intro _ (And.intro R6.1.1 (Exists.intro _ (And.intro (R6.1.2.2 7 (by decide)) ?_)))
                refine Exists.intro _ (And.intro R6.1.1 (Exists.intro _ (And.intro (R6.f rfl f19) ?_)))
                refine Exists.intro _ (Exists.intro _ (And.intro eI (And.intro (vp_in_nI hd (by decide)) ?_)))
                rw [nI_clamp (show d < 2 ^ 31 by omega), pI]
                refine And.intro (fun _ => ?_) (fun cz => absurd (nI_le (Nat.le_refl _) (by omega)) cz)
                refine go_loc (lv' := [(2, .int (nI k + 1)), (0, .ref o)]) ⟨rfl, rfl, trivial⟩ ?_
                rw [← nI_succ]
                refine ih (k + 1) h6 fs6 _ (by omega) ?_ (hI.I hw hf c1 _ (Nat.le_refl _)) R6 ME6 f82b
                rw [← hrun]
                conv => rhs; unfold tRun
                rw [if_pos ⟨c1, c2⟩, h0]
              | succ m ih2 =>
                intro i h6 fs6 hi h0 R6 ME6 f82b
                have hiI : i < dI D := by omega
                have hon := xor_pow_lt hx.1 hiI
                have hSi := hI.I hw hf c1 i (by omega)
                have hat := bI_at (nb := tNb D f) c1 rfl i
                obtain ⟨gI, eI, pI⟩ := (R6.pg hD).2.2.2.1
                have e1 : nI (S.2.1 k) / 4096 ^^^ ((1 : Int32) <<< (nI i &&& 31)) = nI (S.2.1 k / 4096 ^^^ 2 ^ i) := by
                  rw [show (4096 : Int32) = nI 4096 from rfl, pk_div (by omega) (by decide) (by decide), nx_pow (by omega), nx_xor]
                have e2 : nI (S.2.1 k) / 64 - nI (S.2.1 k) / 64 / 64 * 64 = nI (S.2.1 k / 64 % 64) := by
                  rw [show (64 : Int32) = nI 64 from rfl, pk_div (a := S.2.1 k) (by omega) (by decide) (by decide), pk_rem (by omega) (by decide) (by decide)]
                have e3 : nI (S.2.1 k) - nI (S.2.1 k) / 64 * 64 = nI (S.2.1 k % 64) := pk_rem (d := 64) (by omega) (by decide) (by decide)
                refine Go.of hX.2 ck_X12_leastTest [133] 40 ?_
                refine Exists.intro _ (And.intro R6.1.1 (Exists.intro _ (And.intro (R6.1.2.2 7 (by decide)) ?_)))
                refine Exists.intro _ (And.intro R6.1.1 (Exists.intro _ (And.intro (R6.f rfl f19) ?_)))
                refine Exists.intro _ (Exists.intro _ (And.intro eI (And.intro (vp_in_nI hd (by decide)) ?_)))
                rw [nI_clamp (show d < 2 ^ 31 by omega), pI]
                refine And.intro (fun cz => absurd cz (nI_ge hiI (by omega))) (fun _ => ?_)
                refine And.intro (by decide) ?_
                refine go_loc (lv' := [(6, .int (nI (S.2.1 k) / 4096 ^^^ ((1 : Int32) <<< (nI i &&& 31)))), (5, .int (nI i)), (4, .int (nI (tD S k + 1))), (3, .int (nI (S.2.1 k))), (2, .int (nI k)), (0, .ref o)]) ⟨rfl, rfl, rfl, rfl, rfl, rfl, trivial⟩ ?_
                rw [e1]
                refine Go.of hX.2 ck_X12_leastTest [162] 60 ?_
                refine And.intro (by decide) ?_
                refine And.intro (by decide) ?_
                refine Exists.intro _ (And.intro R6.1.1 (Exists.intro 0 (Exists.intro 0 (And.intro (Nat.le_refl _) (And.intro (Nat.le_refl _) ?_)))))
                rw [e2]
                refine m_behind (hh := 0) hX R6.1 (by decide) q0 (R6.hb hB0) hon hx.2.1 ?_
                rw [show kSe (tq0 D) (S.2.1 k / 4096 ^^^ 2 ^ i) (S.2.1 k / 64 % 64) = tA D (S.2.1 k) i from rfl]
                refine And.intro (by decide) ?_
                refine Exists.intro _ (And.intro R6.1.1 (Exists.intro 0 (Exists.intro 0 (And.intro (Nat.le_refl _) (And.intro (Nat.le_refl _) ?_)))))
                rw [e3]
                refine m_behind (hh := 1) hX R6.1 (by decide) q1 (R6.hb hB1) hon hx.2.2.1 ?_
                rw [show kSe (tq1 D f) (S.2.1 k / 4096 ^^^ 2 ^ i) (S.2.1 k % 64) = tB D f (S.2.1 k) i from rfl]
                refine go_loc (lv' := [(8, .int (tB D f (S.2.1 k) i)), (7, .int (tA D (S.2.1 k) i)), (6, .int (nI (S.2.1 k / 4096 ^^^ 2 ^ i))), (5, .int (nI i)), (4, .int (nI (tD S k + 1))), (3, .int (nI (S.2.1 k))), (2, .int (nI k)), (0, .ref o)]) ⟨rfl, rfl, rfl, rfl, rfl, rfl, rfl, rfl, trivial⟩ ?_
                refine Go.of hX.2 ck_X12_leastTest [107, 204] 80 ?_
                have hsA2 : stA D (tA D (S.2.1 k) i) := by
                  rcases kSe_c q0 (on := S.2.1 k / 4096 ^^^ 2 ^ i) hx.2.1 with e | ⟨s, a1, e, _⟩
                  · exact Or.inl e
                  · exact Or.inr ⟨s, a1, e⟩
                have hsB2 : stA D (tB D f (S.2.1 k) i) := by
                  rcases kSe_c q1 (on := S.2.1 k / 4096 ^^^ 2 ^ i) hx.2.2.1 with e | ⟨s, a1, e, _⟩
                  · exact Or.inl e
                  · exact Or.inr ⟨s, a1, e⟩
                refine Exists.intro _ (And.intro R6.1.1 (Exists.intro 0 (Exists.intro 0 (And.intro (Nat.le_refl _) (And.intro (Nat.le_refl _) (m_seen hX R6.1 hw hf (R6.hb hB0) (R6.hb hB1) hon hsA2 hsB2 ?_))))))
                rw [show tLk D f (S.2.1 k / 4096 ^^^ 2 ^ i) (tA D (S.2.1 k) i) (tB D f (S.2.1 k) i) = tL D f (S.2.1 k) i from rfl]
                by_cases c3 : tL D f (S.2.1 k) i = 1
                · rw [c3]
                  refine And.intro (fun cz => by first | exact absurd cz (by decide) | exact absurd (by decide) cz) (fun _ => ?_)
                  have hs : tSn D f (S.2.1 k) i = true := decide_eq_true c3
                  have hfs := fsA_at h0 hs (dI D) hiI
                  have hr2 : tRes D f = (some (k, i), bI (tNb D f) k (S.2.1 k) i S) := by
                    rw [← hrun]
                    unfold tRun
                    rw [if_pos ⟨c1, c2⟩, hfs]
                  have htd := (bI_tD (nb := tNb D f) (x := S.2.1 k) hI.fr (by omega) c1 i).2.1 k c1
                  have hk6 := hat.1
                  have el : ltR D f = some (tD S k + 1, tActs (bI (tNb D f) k (S.2.1 k) i S) k i) := by
                    unfold ltR
                    rw [if_neg (by rw [c]; decide), hr2]
                    show some (tD (bI (tNb D f) k (S.2.1 k) i S) k + 1, _) = _
                    rw [htd]
                  have hSi6 := hSi.le hw
                  obtain ⟨g52, e52⟩ := R6.2.1.i 52 (by decide) (by decide) rfl
                  refine Exists.intro _ (And.intro R6.1.1 (And.intro (by have := R6.len; omega) (And.intro rfl (And.intro rfl ?_))))
                  have R7 := R6.set (k := 82) (v := .int (nI (tD S k + 1))) (Or.inr (Or.inr rfl))
                  have m7 := ME6.keep (h' := uph h6 o (.inr (12, fs6.set 82 (.int (nI (tD S k + 1)))))) (fs' := fs6.set 82 (.int (nI (tD S k + 1)))) (uph_ne (by omega)) (uph_ne (by omega)) (uph_ne (by omega)) (get_set_ne (by decide)) (get_set_ne (by decide))
                  have k82_7 : (fs6.set 82 (.int (nI (tD S k + 1))))[82]? = some (.int (nI (tD S k + 1))) := get_set (by have := R6.len; omega)
                  refine Exists.intro _ (And.intro R7.1.1 (Exists.intro _ (And.intro (R7.1.2.2 52 (by decide)) ?_)))
                  refine Exists.intro _ (Exists.intro _ (And.intro ((uph_ne (by omega)).trans e52) (And.intro (by rw [nI_pred]; exact vp_in_nI (by omega) (by decide)) ?_)))
                  rw [nI_pred, nI_clamp (show tD S k < 2 ^ 31 by omega)]
                  have R8 := R7.row (j := 52) (g := upd g52 (tD S k) (nI i)) (by omega) rfl
                  have m8 := m7.keep (h' := uph (uph h6 o (.inr (12, fs6.set 82 (.int (nI (tD S k + 1)))))) (o + 1 + 52) (.inl (0, 12, .inl (upd g52 (tD S k) (nI i))))) (uph_ne (by omega)) (uph_ne (by omega)) (uph_ne (by omega)) rfl rfl
                  have back : ∀ (mm at_ : Nat) (h9 : AH) (g9 : Nat → Int32), mm ≤ tD S k → at_ < (bI (tNb D f) k (S.2.1 k) i S).1 → tD (bI (tNb D f) k (S.2.1 k) i S) at_ = mm → at_ = bkF (fun a => ((bI (tNb D f) k (S.2.1 k) i S).2.2.1 a).1) (tD S k - mm) k → MLs h o fs h9 (fs6.set 82 (.int (nI (tD S k + 1)))) → ME h9 o (st + 1) (bI (tNb D f) k (S.2.1 k) i S) (fs6.set 82 (.int (nI (tD S k + 1)))) → h9 (o + 1 + 52) = some (.inl (0, 12, .inl g9)) → (∀ j, mm ≤ j → j < tD S k + 1 → g9 j = nI (tActs (bI (tNb D f) k (S.2.1 k) i S) k i j)) → Go l G 12 s_X12_leastTest 0 0 Post 204 [(10, .int (nI mm - 1)), (9, .int (nI at_)), (0, .ref o)] [] h9 nx 0 0 := by
                    intro mm
                    induction mm with
                    | zero =>
                      intro at_ h9 g9 hm hat2 htd2 hbk R9 m9 e9 hg9
                      refine Go.of hX.2 ck_X12_leastTest [204] 20 ?_
                      refine And.intro (fun _ => ?_) (fun cz => by first | exact absurd cz (by decide) | exact absurd (by decide) cz)
                      obtain ⟨st5, gs5, t1, t2, t3, t4⟩ := m9.st
                      refine hP h9 _ R9 ?_ ⟨st5, gs5, by omega, t2, t3, t4⟩
                      rw [el]
                      exact ⟨k82_7, (show tD S k + 1 ≤ 12 by omega), g9, e9, fun j hj => hg9 j (Nat.zero_le _) hj⟩
                    | succ mm ih3 =>
                      intro at_ h9 g9 hm hat2 htd2 hbk R9 m9 e9 hg9
                      obtain ⟨p0, p1⟩ := tD_pos hSi hat2 (by omega)
                      obtain ⟨w1, w2, w3⟩ := hSi.2.1 at_ p0 hat2
                      obtain ⟨gt9, gf9, gs9, e49_, e50_, e51_, f77_, f81_, r1_, r2_, r3_⟩ := id m9
                      have hv1 := tVal_lt hw (hSi.1 at_ hat2)
                      have hv2 := tVal_lt hw (hSi.1 ((bI (tNb D f) k (S.2.1 k) i S).2.2.1 at_).1 (by omega))
                      have hact : tActs (bI (tNb D f) k (S.2.1 k) i S) k i mm = ((bI (tNb D f) k (S.2.1 k) i S).2.2.1 at_).2 := by
                        unfold tActs
                        rw [htd, if_neg (show ¬ mm = tD S k by omega), hbk, show tD S k - 1 - mm = tD S k - (mm + 1) by omega]
                      refine Go.of hX.2 ck_X12_leastTest [204] 60 ?_
                      refine And.intro (fun cz => absurd cz (show ¬ nI (mm + 1) - 1 < 0 from by rw [nI_pred]; exact nI_pos (by omega))) (fun _ => ?_)
                      refine Exists.intro _ (And.intro R9.1.1 (Exists.intro _ (And.intro (R9.1.2.2 52 (by decide)) ?_)))
                      refine Exists.intro _ (And.intro R9.1.1 (Exists.intro _ (And.intro (R9.1.2.2 49 (by decide)) ?_)))
                      refine Exists.intro _ (And.intro R9.1.1 (Exists.intro _ (And.intro (R9.1.2.2 50 (by decide)) ?_)))
                      refine Exists.intro _ (Exists.intro _ (And.intro e50_ (And.intro (vp_in_nI (by omega) (by decide)) ?_)))
                      rw [nI_clamp (show at_ < 2 ^ 31 by omega), (r1_ at_ hat2).2 p0]
                      refine Exists.intro _ (Exists.intro _ (And.intro e49_ (And.intro (vp_in_nI (by omega) (by decide)) ?_)))
                      rw [nI_clamp (show ((bI (tNb D f) k (S.2.1 k) i S).2.2.1 at_).1 < 2 ^ 31 by omega), (r1_ _ (show ((bI (tNb D f) k (S.2.1 k) i S).2.2.1 at_).1 < (bI (tNb D f) k (S.2.1 k) i S).1 by omega)).1]
                      refine Exists.intro _ (And.intro R9.1.1 (Exists.intro _ (And.intro (R9.1.2.2 49 (by decide)) ?_)))
                      refine Exists.intro _ (Exists.intro _ (And.intro e49_ (And.intro (vp_in_nI (by omega) (by decide)) ?_)))
                      rw [nI_clamp (show at_ < 2 ^ 31 by omega), (r1_ at_ hat2).1]
                      refine Exists.intro 0 (Exists.intro 0 (And.intro (Nat.le_refl _) (And.intro (Nat.le_refl _) (m_actBetween hX hv2 hv1 (show ((bI (tNb D f) k (S.2.1 k) i S).2.2.1 at_).2 < 5 by omega) w3 ?_))))
                      refine Exists.intro _ (Exists.intro _ (And.intro e9 (And.intro (by rw [nI_pred]; exact vp_in_nI (by omega) (by decide)) ?_)))
                      rw [nI_pred, nI_clamp (show mm < 2 ^ 31 by omega)]
                      have R10 := R9.row (j := 52) (g := upd g9 mm (nI ((bI (tNb D f) k (S.2.1 k) i S).2.2.1 at_).2)) (by omega) rfl
                      refine Exists.intro _ (And.intro R10.1.1 (Exists.intro _ (And.intro (R10.1.2.2 50 (by decide)) ?_)))
                      refine Exists.intro _ (Exists.intro _ (And.intro ((uph_ne (by omega)).trans e50_) (And.intro (vp_in_nI (by omega) (by decide)) ?_)))
                      rw [nI_clamp (show at_ < 2 ^ 31 by omega), (r1_ at_ hat2).2 p0]
                      refine go_loc (lv' := [(10, .int (nI mm + (-1))), (9, .int (nI ((bI (tNb D f) k (S.2.1 k) i S).2.2.1 at_).1)), (0, .ref o)]) ⟨rfl, rfl, rfl, trivial⟩ ?_
                      rw [show nI mm + (-1) = nI mm - 1 from (Int32.sub_eq_add_neg _ _).symm]
                      refine ih3 _ _ (upd g9 mm (nI ((bI (tNb D f) k (S.2.1 k) i S).2.2.1 at_).2)) (by omega) (by omega) (by omega) ?_ R10 (m9.keep (uph_ne (by omega)) (uph_ne (by omega)) (uph_ne (by omega)) rfl rfl) uph_eq (fun j j1 j2 => ?_)
                      · rw [show tD S k - mm = (tD S k - (mm + 1)) + 1 by omega, ← bkF_s, ← hbk]
                      · by_cases ej : j = mm
                        · rw [ej, pk_us, hact]
                        · rw [pk_un ej]
                          exact hg9 j (by omega) j2
                  refine go_loc (lv' := [(10, .int (nI (tD S k + 1) - 2)), (9, .int (nI k)), (0, .ref o)]) ⟨rfl, rfl, rfl, trivial⟩ ?_
                  rw [less2]
                  refine back (tD S k) k _ _ (Nat.le_refl _) hk6 htd (by rw [Nat.sub_self]; rfl) R8 m8 uph_eq (fun j j1 j2 => ?_)
                  have ej : j = tD S k := by omega
                  rw [ej, pk_us]
                  unfold tActs
                  rw [if_pos htd.symm]
                · have hlt2 : tL D f (S.2.1 k) i < 3 := by
                    unfold tL tLk
                    repeat' split
                    all_goals decide
                  have hs : tSn D f (S.2.1 k) i = false := decide_eq_false c3
                  have h01 : fsA (tSn D f (S.2.1 k)) (i + 1) = none := by
                    rw [fsA_no]
                    intro j hj
                    by_cases e : j = i
                    · rw [e]; exact hs
                    · exact fsA_no.mp h0 j (by omega)
                  have e5 : bI (tNb D f) k (S.2.1 k) (i + 1) S = (match tNb D f (S.2.1 k) i with
                    | none => ((bI (tNb D f) k (S.2.1 k) i S).1, (bI (tNb D f) k (S.2.1 k) i S).2.1, (bI (tNb D f) k (S.2.1 k) i S).2.2.1, (bI (tNb D f) k (S.2.1 k) i S).2.2.2 + 1)
                    | some y => bAdd (bI (tNb D f) k (S.2.1 k) i S) y k i) := rfl
                  by_cases c4 : tL D f (S.2.1 k) i = 0
                  · rw [c4]
                    refine And.intro (fun _ => ?_) (fun cz => by first | exact absurd cz (by decide) | exact absurd (by decide) cz)
                    refine And.intro (fun cz => by first | exact absurd cz (by decide) | exact absurd (by decide) cz) (fun _ => ?_)
                    have hy := tY_val hw hf hx hiI c4
                    have hyl2 := tVal_lt hw hy.1
                    obtain ⟨t, ht1, et, _⟩ := hy.2.2.1
                    obtain ⟨t2, ht2, et2, _⟩ := hy.2.2.2
                    have eyy : (4096 : Int32) * nI (S.2.1 k / 4096 ^^^ 2 ^ i) + (64 : Int32) * nI t + nI t2 = nI (tY D f (S.2.1 k) i) := by
                      unfold tY
                      rw [et, et2, nI_clamp (by omega), nI_clamp (by omega), show (4096 : Int32) = nI 4096 from rfl, show (64 : Int32) = nI 64 from rfl, nI_mul, nI_mul, nI_add, nI_add]
                    have en : tNb D f (S.2.1 k) i = some (tY D f (S.2.1 k) i) := if_pos c4
                    rw [en] at e5
                    have hSi1 := hI.I hw hf c1 (i + 1) (by omega)
                    rw [et, et2]
                    refine Exists.intro _ (And.intro R6.1.1 (Exists.intro 0 (Exists.intro 0 (And.intro (Nat.le_refl _) (And.intro (Nat.le_refl _) ?_)))))
                    rw [eyy]
                    refine m_joins (k := k) (i := i) hX R6 ME6 hyl2 (Or.inr ⟨by omega, rfl⟩) (by rw [show bAdd (bI (tNb D f) k (S.2.1 k) i S) (tY D f (S.2.1 k) i) k i = bI (tNb D f) k (S.2.1 k) (i + 1) S from e5.symm]; exact hSi1.le hw) (fun h7 fs7 R7 k7 ME7 => ?_)
                    refine go_loc (lv' := [(5, .int (nI i + 1)), (4, .int (nI (tD S k + 1))), (3, .int (nI (S.2.1 k))), (2, .int (nI k)), (0, .ref o)]) ⟨rfl, rfl, rfl, rfl, rfl, trivial⟩ ?_
                    rw [← nI_succ]
                    exact ih2 (i + 1) h7 fs7 (by omega) h01 R7 (by rw [e5]; exact ME7) (k7.trans f82b)
                  · have c5 : tL D f (S.2.1 k) i = 2 := by omega
                    rw [c5]
                    refine And.intro (fun _ => ?_) (fun cz => by first | exact absurd cz (by decide) | exact absurd (by decide) cz)
                    refine And.intro (fun _ => ?_) (fun cz => by first | exact absurd cz (by decide) | exact absurd (by decide) cz)
                    have en : tNb D f (S.2.1 k) i = none := if_neg c4
                    rw [en] at e5
                    refine go_loc (lv' := [(5, .int (nI i + 1)), (4, .int (nI (tD S k + 1))), (3, .int (nI (S.2.1 k))), (2, .int (nI k)), (0, .ref o)]) ⟨rfl, rfl, rfl, rfl, rfl, trivial⟩ ?_
                    rw [← nI_succ]
                    exact ih2 (i + 1) h6 fs6 (by omega) h01 R6 (by rw [e5]; exact ME6) f82b
            refine go_loc (lv' := [(5, .int (nI 0)), (4, .int (nI (tD S k) + 1)), (3, .int (nI (S.2.1 k))), (2, .int (nI k)), (0, .ref o)]) ⟨rfl, rfl, rfl, rfl, rfl, trivial⟩ ?_
            rw [← nI_succ]
            exact inner (dI D) 0 h5 fs5 (Nat.zero_add _) rfl R5 ME5 f82
          · refine And.intro (fun cz => absurd cz (show ¬ nI (tD S k) + 1 ≤ 12 from by rw [← nI_succ]; exact nI_ge (a := 12) (by omega) (by omega))) (fun _ => ?_)
            exact done (by unfold tRun; rw [if_neg (fun z => c2 z.2)])
        · refine And.intro (fun _ => ?_) (fun cz => absurd (nI_le (a := S.1) (b := k) (by omega) (by omega)) cz)
          exact done (by unfold tRun; rw [if_neg (fun z => c1 z.1)])
    refine go_loc (lv' := [(2, .int (nI 0)), (0, .ref o)]) ⟨rfl, rfl, trivial⟩ ?_
    exact outer 131073 0 h4 fs4 _ rfl hres.symm (TIn_0 hw hf c) R4 ME4 k82b
