/-! x's search for a test: one place gone on from -/
/-- both huts of the trials are ready: the one without flaws, the one with flaw f -/
def TB2 (h : AH) (w a : Nat) (D : DD) (f v0 v1 : Nat) : Prop := HTx h (w + 53) a a (tq0 D) v0 ∧ HTx h (w + 43) a a (tq1 D f) v1 ∧ SVx h (w + 48) (w + 43) (tq1 D f) v1 ∧ XD h a D
theorem TB2.ag {h h' : AH} {w a f v0 v1 : Nat} {D : DD} (hT : TB2 h w a D f v0 v1) (hs : ∀ x, (w + 43 ≤ x ∧ x < w + 52) ∨ (w + 53 ≤ x ∧ x < w + 58) ∨ (a ≤ x ∧ x < a + 20) ∨ (a + 27 ≤ x ∧ x < a + 29) → h' x = h x) : TB2 h' w a D f v0 v1 := ⟨hT.1.ag (fun x _ _ => hs x (by omega)), hT.2.1.ag (fun x _ _ => hs x (by omega)), hT.2.2.1.ag (fun x _ _ => hs x (by omega)), hT.2.2.2.ag (fun x _ => hs x (by omega))⟩
theorem kOk_0 {D : DD} {v : Nat} : kOk (tq0 D) v := by
  show v &&& (0 ||| 0) = (0 ||| 0)
  rw [Nat.or_zero]
  exact Nat.and_zero v
set_option maxHeartbeats 8000000 in
theorem x_settleS {l : Launch} {G : GG} {h : AH} {nx : Nat} {Post : Option Value → AH → Nat → Prop} {w a f v0 v1 on bb : Nat} {D : DD} (hX : XC G ∧ TX l G) (hT : TB2 h w a D f v0 v1) (hw : WD D) (ha : w + 137 ≤ a) (hon : on < 2 ^ dI D) (hbb : bb < 2 ^ 31) (hb6 : bb % 64 < 2 ^ dR D) (hP : ∀ h1 : AH, (∀ x, x ≤ w + 53 ∨ w + 58 ≤ x → h1 x = h x) → TB2 h1 w a D f v0 v1 → Post (some (.int (kSe (tq0 D) on (bb % 64)))) h1 nx) : Runs l G i_X3_settle 0 0 [.ref (w + 53), .int (nI on), .int (nI bb)] h nx Post := by
  obtain ⟨t1, t2, t3, t4⟩ := hT
  refine x_settle (q := tq0 D) hX t1 (WK_one hw okW_no okW_no) t4 t4 (by unfold awy; omega) (by unfold awy; omega) hon hbb hb6 (fun h1 y1 y2 => ?_)
  rw [kPl_id (kOk_0 (D := D))]
  exact hP h1 y1 ⟨y2, t2.ag (fun x _ _ => y1 x (by omega)), t3.ag (fun x _ _ => y1 x (by omega)), t4.ag (fun x _ => y1 x (by omega))⟩
set_option maxHeartbeats 8000000 in
theorem x_settleF {l : Launch} {G : GG} {h : AH} {nx : Nat} {Post : Option Value → AH → Nat → Prop} {w a f v0 v1 on bb : Nat} {D : DD} (hX : XC G ∧ TX l G) (hT : TB2 h w a D f v0 v1) (hw : WD D) (hf : okW D (some f)) (ha : w + 137 ≤ a) (hon : on < 2 ^ dI D) (hbb : bb < 2 ^ 31) (hb6 : bb % 64 < 2 ^ dR D) (hP : ∀ h1 : AH, (∀ x, x ≤ w + 43 ∨ w + 48 ≤ x → h1 x = h x) → TB2 h1 w a D f v0 v1 → Post (some (.int (kSe (tq1 D f) on (kPl (tq1 D f) (bb % 64))))) h1 nx) : Runs l G i_X3_settle 0 0 [.ref (w + 43), .int (nI on), .int (nI bb)] h nx Post := by
  obtain ⟨t1, t2, t3, t4⟩ := hT
  refine x_settle (q := tq1 D f) hX t2 (WK_one hw hf okW_no) t4 t4 (by unfold awy; omega) (by unfold awy; omega) hon hbb hb6 (fun h1 y1 y2 => ?_)
  exact hP h1 y1 ⟨t1.ag (fun x _ _ => y1 x (by omega)), y2, t3.ag (fun x _ _ => y1 x (by omega)), t4.ag (fun x _ => y1 x (by omega))⟩
/-- where a hut settles, as an answer -/
def stA (D : DD) (v : Int32) : Prop := v = -2 ∨ ∃ s, s < 2 ^ dR D ∧ v = nI s
theorem xor_hi {a b : Nat} (ha : a < 2048) (hb : b < 2048) : (nI a ^^^ nI b) >>> ((6 : Int32) &&& 31) = 0 ↔ a >>> 6 = b >>> 6 := by
  have h1 : a ^^^ b < 2 ^ 11 := Nat.xor_lt_two_pow (n := 11) ha hb
  rw [nx_xor, show (6 : Int32) = nI 6 from rfl, nx_shr (by omega) (by decide), show (0 : Int32) = nI 0 from rfl]
  have h2 : (a ^^^ b) >>> 6 = a >>> 6 ^^^ b >>> 6 := Nat.shiftRight_xor_distrib ..
  rw [nI_eq (by rw [Nat.shiftRight_eq_div_pow]; omega) (by decide), h2]
  constructor
  · intro z
    refine Nat.eq_of_testBit_eq (fun r => ?_)
    have h3 : (a >>> 6 ^^^ b >>> 6).testBit r = false := by rw [z, Nat.zero_testBit]
    rw [Nat.testBit_xor] at h3
    revert h3
    cases (a >>> 6).testBit r <;> cases (b >>> 6).testBit r <;> simp
  · intro z
    rw [z, Nat.xor_self]
set_option maxHeartbeats 8000000 in
theorem x_look {l : Launch} {G : GG} {h : AH} {nx : Nat} {Post : Option Value → AH → Nat → Prop} {w a qa tl f v0 v1 on : Nat} {av bv : Int32} {D : DD} (hX : XC G ∧ TX l G) (hO : TO h w qa tl) (hT : TB2 h w a D f v0 v1) (hw : WD D) (hf : okW D (some f)) (hon : on < 2 ^ dI D) (hav : stA D av) (hbv : stA D bv) (hP : Post (some (.int (nI (tLk D f on av bv)))) h nx) : Runs l G i_X9_look 0 0 [.ref (w + 52), .int (nI on), .int av, .int bv] h nx Post := by
  have hpr := hw.pr
  have hpi := hw.pi
  unfold tLk at hP
  refine en_X9_look hX [] 80 rfl ?_
  rcases hav with rfl | ⟨s, hs, rfl⟩
  · refine And.intro (fun _ => ?_) (fun cz => by first | exact absurd cz (by decide) | exact absurd (by decide) cz)
    refine And.intro (fun cz => by first | exact absurd cz (by decide) | exact absurd (by decide) cz) (fun _ => ?_)
    rw [if_pos rfl] at hP
    rcases hbv with rfl | ⟨s2, hs2, rfl⟩
    · refine And.intro (fun cz => by first | exact absurd cz (by decide) | exact absurd (by decide) cz) (fun _ => ?_)
      rw [if_pos rfl] at hP
      exact And.intro rfl (hP)
    · refine And.intro (fun _ => ?_) (fun cz => absurd (nI_pos' (by omega)) cz)
      rw [if_neg (nI_n2 (show s2 < 64 by omega)).1] at hP
      exact And.intro rfl (hP)
  · refine And.intro (fun cz => absurd cz (nI_pos (by omega))) (fun _ => ?_)
    rw [if_neg (nI_n2 (show s < 64 by omega)).1] at hP
    rcases hbv with rfl | ⟨s2, hs2, rfl⟩
    · refine And.intro (fun cz => by first | exact absurd cz (by decide) | exact absurd (by decide) cz) (fun _ => ?_)
      refine And.intro (fun _ => ?_) (fun cz => absurd (nI_pos' (by omega)) cz)
      rw [if_pos rfl] at hP
      exact And.intro rfl (hP)
    · refine And.intro (fun _ => ?_) (fun cz => absurd (nI_pos' (by omega)) cz)
      rw [if_neg (nI_n2 (show s2 < 64 by omega)).1, nI_clamp (by omega), nI_clamp (by omega)] at hP
      obtain ⟨t1, t2, t3, t4⟩ := hT
      obtain ⟨q0, q1⟩ := tq_ok hw hf
      obtain ⟨fs0, _, _, _, _, u0, _⟩ := id t1
      obtain ⟨fs1, _, _, _, _, u1, _⟩ := id t2
      refine Exists.intro _ (And.intro hO (Exists.intro _ (And.intro rfl ?_)))
      refine Exists.intro 0 (Exists.intro 0 (And.intro (Nat.le_refl _) (And.intro (Nat.le_refl _) (c_wordOf hX ?_))))
      rw [wordI (by omega) (by omega)]
      refine Exists.intro _ (And.intro u0 (Exists.intro 0 (Exists.intro 0 (And.intro (Nat.le_refl _) (And.intro (Nat.le_refl _) (x_circuitsAt (q := tq0 D) hX t1 q0 t4 t4 hon (by omega) ?_))))))
      refine Exists.intro _ (And.intro hO (Exists.intro _ (And.intro rfl ?_)))
      refine Exists.intro 0 (Exists.intro 0 (And.intro (Nat.le_refl _) (And.intro (Nat.le_refl _) (c_wordOf hX ?_))))
      rw [wordI (by omega) (by omega)]
      refine Exists.intro _ (And.intro u1 (Exists.intro 0 (Exists.intro 0 (And.intro (Nat.le_refl _) (And.intro (Nat.le_refl _) (x_circuitsAt (q := tq1 D f) hX t2 q1 t4 t4 hon (by omega) ?_))))))
      have e := xor_hi (kSh_lt (tq0 D) on s) (kSh_lt (tq1 D f) on s2)
      by_cases c1 : kSh (tq0 D) on s >>> 6 = kSh (tq1 D f) on s2 >>> 6
      · refine And.intro (fun cz => absurd (e.mpr c1) cz) (fun _ => ?_)
        rw [if_pos c1] at hP
        exact And.intro rfl (hP)
      · refine And.intro (fun _ => ?_) (fun cz => absurd cz (fun z => c1 (e.mp z)))
        rw [if_neg c1] at hP
        exact And.intro rfl (hP)
/-- what the search leaves of place k -/
noncomputable def tEnd (D : DD) (f k : Nat) (S : BS) : BS := match fsA (tSn D f (S.2.1 k)) (dI D) with
  | some i => bI (tNb D f) k (S.2.1 k) i S
  | none => bI (tNb D f) k (S.2.1 k) (dI D) S
theorem bI_le (nb : Nat → Nat → Option Nat) (k x : Nat) (S : BS) (i : Nat) : ∀ m, (bI nb k x i S).1 ≤ (bI nb k x (i + m) S).1
  | 0 => Nat.le_refl _
  | m + 1 => by
    refine Nat.le_trans (bI_le nb k x S i m) ?_
    show (bI nb k x (i + m) S).1 ≤ (match nb x (i + m) with
      | none => ((bI nb k x (i + m) S).1, (bI nb k x (i + m) S).2.1, (bI nb k x (i + m) S).2.2.1, (bI nb k x (i + m) S).2.2.2 + 1)
      | some y => bAdd (bI nb k x (i + m) S) y k (i + m)).1
    split
    · exact Nat.le_refl _
    · exact (bAdd_mono _ _ _ _).1
theorem tEnd_le {D : DD} {f k i : Nat} {S : BS} (h0 : fsA (tSn D f (S.2.1 k)) i = none) (hi : i ≤ dI D) : (bI (tNb D f) k (S.2.1 k) i S).1 ≤ (tEnd D f k S).1 := by
  unfold tEnd
  split
  · next j e =>
    have : i ≤ j := by
      by_cases z : i ≤ j
      · exact z
      · have h1 := fsA_no.mp h0 j (by omega)
        exfalso
        have key : ∀ n, fsA (tSn D f (S.2.1 k)) n = some j → tSn D f (S.2.1 k) j = true := by
          intro n
          induction n with
          | zero => intro z; cases z
          | succ n ih =>
            intro z
            unfold fsA at z
            split at z
            · next i2 e2 => cases z; exact ih e2
            · split at z
              · next hp => cases z; exact hp
              · cases z
        rw [key _ e] at h1
        cases h1
    rw [show j = i + (j - i) by omega]
    exact bI_le _ _ _ _ _ _
  · rw [show dI D = i + (dI D - i) by omega]
    exact bI_le _ _ _ _ _ _
theorem fsA_lt {P : Nat → Bool} {i : Nat} : ∀ {n : Nat}, fsA P n = some i → i < n
  | 0, h => by cases h
  | n + 1, h => by
    unfold fsA at h
    split at h
    · next j e => cases h; have := fsA_lt e; omega
    · split at h
      · cases h; omega
      · cases h
theorem tEnd_in {D : DD} {f k : Nat} {S : BS} (hw : WD D) (hf : okW D (some f)) (hI : TIn D f S) (hk : k < S.1) : TIn D f (tEnd D f k S) := by
  unfold tEnd
  split
  · next i e => exact hI.I hw hf hk i (by have := fsA_lt e; omega)
  · exact hI.I hw hf hk _ (Nat.le_refl _)
/-- what the search changes -/
def FRt (h h1 : AH) (w qa nx : Nat) : Prop := ∀ x, x < nx → x ≠ qa → (x < w + 43 ∨ (w + 48 ≤ x ∧ x < w + 52) ∨ w + 58 ≤ x) → x ≠ w + 59 → h1 x = h x
/-- the search's state -/
def TT (h : AH) (w a : Nat) (D : DD) (f v0 v1 nx qa q0 : Nat) (S : BS) : Prop := TB2 h w a D f v0 v1 ∧ TRh h w qa q0 S ∧ Qp w nx qa ∧ a + 29 ≤ nx ∧ (qa < a ∨ a + 29 ≤ qa)
theorem TRh.ag {h h' : AH} {w qa q0 : Nat} {S : BS} (hR : TRh h w qa q0 S) (h1 : h' (w + 52) = h (w + 52)) (h2 : h' qa = h qa) (h3 : h' (w + 59) = h (w + 59)) : TRh h' w qa q0 S := by
  obtain ⟨gq, gb, a, b, c, d⟩ := hR
  exact ⟨gq, gb, h1.trans a, h2.trans b, h3.trans c, d⟩
theorem place_lo {v y : Nat} (hy : y < 131072) : (lN (2 ^ 17 * v + y)).toInt32 &&& 131071 = nI y := by
  rw [lN_i, show (131071 : Int32) = nI 131071 from rfl, nx_and, show (131071 : Nat) = 2 ^ 17 - 1 from rfl, Nat.and_two_pow_sub_one_eq_mod, Nat.mul_add_mod, Nat.mod_eq_of_lt (show y < 2 ^ 17 from hy)]
set_option maxHeartbeats 8000000 in
theorem x_actFrom {l : Launch} {G : GG} {h : AH} {nx : Nat} {Post : Option Value → AH → Nat → Prop} {w a f v0 v1 qa q0 k : Nat} {D : DD} {S : BS} (hX : XC G ∧ TX l G) (hT : TT h w a D f v0 v1 nx qa q0 S) (hw : WD D) (hf : okW D (some f)) (ha : w + 137 ≤ a) (hv : QV q0) (hI : TIn D f S) (hk : k < S.1) (hP : ∀ (h1 : AH) (nx1 qa1 : Nat) (r : Int32), FRt h h1 w qa nx → nx ≤ nx1 → (qa1 = qa ∨ nx ≤ qa1) → TT h1 w a D f v0 v1 nx1 qa1 q0 (tEnd D f k S) → ((∃ i, fsA (tSn D f (S.2.1 k)) (dI D) = some i ∧ i < dI D ∧ r = nI i) ∨ (fsA (tSn D f (S.2.1 k)) (dI D) = none ∧ r = -1)) → Post (some (.int r)) h1 nx1) : Runs l G i_X9_actFrom (gC (capF q0 (tEnd D f k S).1) - gC (capF q0 S.1)) (gS (capF q0 (tEnd D f k S).1) - gS (capF q0 S.1)) [.ref (w + 52), .int (nI k), .int (nI (dI D))] h nx Post := by
  have hpr := hw.pr
  have hpi := hw.pi
  have hin := hw.i
  have hx := hI.1 k hk
  have hxl := tVal_lt hw hx
  have loop : ∀ (m i : Nat) (h1 : AH) (nx1 qa1 kk nn : Nat), i + m = dI D → fsA (tSn D f (S.2.1 k)) i = none → FRt h h1 w qa nx → nx ≤ nx1 → (qa1 = qa ∨ nx ≤ qa1) → TT h1 w a D f v0 v1 nx1 qa1 q0 (bI (tNb D f) k (S.2.1 k) i S) → kk = gC (capF q0 (bI (tNb D f) k (S.2.1 k) i S).1) - gC (capF q0 S.1) → nn = gS (capF q0 (bI (tNb D f) k (S.2.1 k) i S).1) - gS (capF q0 S.1) → Go l G 9 s_X9_actFrom (gC (capF q0 (tEnd D f k S).1) - gC (capF q0 S.1)) (gS (capF q0 (tEnd D f k S).1) - gS (capF q0 S.1)) Post 14 [(4, .int (nI i)), (3, .int (nI (S.2.1 k))), (0, .ref (w + 52)), (1, .int (nI k)), (2, .int (nI (dI D)))] [] h1 nx1 kk nn := by
    intro m
    induction m with
    | zero =>
      intro i h1 nx1 qa1 kk nn hi h0 hfr hnx hqa hT1 hkk hnn
      have e : i = dI D := by omega
      subst e
      have et : tEnd D f k S = bI (tNb D f) k (S.2.1 k) (dI D) S := by unfold tEnd; rw [h0]
      refine Go.of hX.2 ck_X9_actFrom [14] 30 ?_
      refine And.intro (fun _ => ?_) (fun cz => absurd (nI_le (Nat.le_refl _) (by omega)) cz)
      exact And.intro rfl (hP h1 nx1 qa1 (-1) hfr hnx hqa (by rw [et]; exact hT1) (Or.inr ⟨h0, rfl⟩))
    | succ m ih =>
      intro i h1 nx1 qa1 kk nn hi h0 hfr hnx hqa hT1 hkk hnn
      have hiI : i < dI D := by omega
      obtain ⟨tb, tr, ⟨tq1_, tq2_, tq3_⟩, ta, tqa⟩ := hT1
      obtain ⟨gq, gb, hO, hq, hb, htq⟩ := id tr
      have hSi := hI.I hw hf hk i (by omega)
      have hat := bI_at (nb := tNb D f) hk rfl i
      have hme := gS_mono (capF_mono hv (tEnd_le h0 (by omega)) ((tEnd_in hw hf hI hk).le hw))
      have hon := xor_pow_lt hx.1 hiI
      have e1 : (nI (S.2.1 k) >>> ((12 : Int32) &&& 31)) ^^^ ((1 : Int32) <<< (nI i &&& 31)) = nI (S.2.1 k / 4096 ^^^ 2 ^ i) := by
        rw [show (12 : Int32) = nI 12 from rfl, nx_shr (by omega) (by decide), nx_pow (by omega), nx_xor, Nat.shiftRight_eq_div_pow]
      have e2 : (nI (S.2.1 k) >>> ((6 : Int32) &&& 31)) &&& 63 = nI (S.2.1 k / 64 % 64) := by
        rw [show (6 : Int32) = nI 6 from rfl, nx_shr (by omega) (by decide), lo_63, Nat.shiftRight_eq_div_pow]
      have e3 : nI (S.2.1 k) &&& 63 = nI (S.2.1 k % 64) := lo_63
      refine Go.of hX.2 ck_X9_actFrom [14, 31] 40 ?_
      refine And.intro (fun cz => absurd cz (nI_ge hiI (by omega))) (fun _ => ?_)
      refine go_loc (lv' := [(5, .int ((nI (S.2.1 k) >>> ((12 : Int32) &&& 31)) ^^^ ((1 : Int32) <<< (nI i &&& 31)))), (4, .int (nI i)), (3, .int (nI (S.2.1 k))), (0, .ref (w + 52)), (1, .int (nI k)), (2, .int (nI (dI D)))]) ⟨rfl, rfl, rfl, rfl, rfl, rfl, trivial⟩ ?_
      rw [e1]
      refine Go.of hX.2 ck_X9_actFrom [14, 49] 40 ?_
      obtain ⟨fs0, _, _, _, _, u0, _⟩ := id tb.1
      refine Exists.intro _ (And.intro hO (Exists.intro _ (And.intro rfl ?_)))
      refine Exists.intro _ (And.intro u0 (Exists.intro 0 (Exists.intro 0 (And.intro (by omega) (And.intro (by omega) ?_)))))
      rw [e2]
      refine x_settleS (bb := S.2.1 k / 64 % 64) hX tb hw ha hon (by omega) (by rw [Nat.mod_mod]; exact hx.2.1) (fun h2 y1 y2 => ?_)
      rw [Nat.mod_mod]
      have hO2 : TO h2 w qa1 (bI (tNb D f) k (S.2.1 k) i S).1 := (y1 _ (by omega)).trans hO
      refine go_loc (lv' := [(6, .int (tA D (S.2.1 k) i)), (5, .int (nI (S.2.1 k / 4096 ^^^ 2 ^ i))), (4, .int (nI i)), (3, .int (nI (S.2.1 k))), (0, .ref (w + 52)), (1, .int (nI k)), (2, .int (nI (dI D)))]) ⟨rfl, rfl, rfl, rfl, rfl, rfl, rfl, trivial⟩ ?_
      refine Go.of hX.2 ck_X9_actFrom [14, 64] 40 ?_
      obtain ⟨fs1, _, _, _, _, u1, _⟩ := id y2.2.1
      refine Exists.intro _ (And.intro hO2 (Exists.intro _ (And.intro rfl ?_)))
      refine Exists.intro _ (And.intro u1 (Exists.intro 0 (Exists.intro 0 (And.intro (by omega) (And.intro (by omega) ?_)))))
      rw [e3]
      refine x_settleF (bb := S.2.1 k % 64) hX y2 hw hf ha hon (by omega) (by rw [Nat.mod_mod]; exact hx.2.2.1) (fun h3 z1 z2 => ?_)
      rw [Nat.mod_mod, kPl_id hx.2.2.2]
      have hO3 : TO h3 w qa1 (bI (tNb D f) k (S.2.1 k) i S).1 := (z1 _ (by omega)).trans hO2
      refine go_loc (lv' := [(7, .int (tB D f (S.2.1 k) i)), (6, .int (tA D (S.2.1 k) i)), (5, .int (nI (S.2.1 k / 4096 ^^^ 2 ^ i))), (4, .int (nI i)), (3, .int (nI (S.2.1 k))), (0, .ref (w + 52)), (1, .int (nI k)), (2, .int (nI (dI D)))]) ⟨rfl, rfl, rfl, rfl, rfl, rfl, rfl, rfl, trivial⟩ ?_
      refine Go.of hX.2 ck_X9_actFrom [14] 80 ?_
      have hfr3 : FRt h h3 w qa nx := fun x x1 x2 x3 x4 => (z1 x (by omega)).trans ((y1 x (by omega)).trans (hfr x x1 x2 x3 x4))
      have tr3 : TRh h3 w qa1 q0 (bI (tNb D f) k (S.2.1 k) i S) := tr.ag ((z1 _ (by omega)).trans (y1 _ (by omega))) ((z1 _ (by omega)).trans (y1 _ (by omega))) ((z1 _ (by omega)).trans (y1 _ (by omega)))
      have hsA : stA D (tA D (S.2.1 k) i) := by
        rcases kSe_c (tq_ok hw hf).1 (on := S.2.1 k / 4096 ^^^ 2 ^ i) hx.2.1 with e | ⟨s, a1, e, _⟩
        · exact Or.inl e
        · exact Or.inr ⟨s, a1, e⟩
      have hsB : stA D (tB D f (S.2.1 k) i) := by
        rcases kSe_c (tq_ok hw hf).2 (on := S.2.1 k / 4096 ^^^ 2 ^ i) hx.2.2.1 with e | ⟨s, a1, e, _⟩
        · exact Or.inl e
        · exact Or.inr ⟨s, a1, e⟩
      refine Exists.intro _ (And.intro hO3 (Exists.intro 0 (Exists.intro 0 (And.intro (by omega) (And.intro (by omega) (x_look hX hO3 z2 hw hf hon hsA hsB ?_))))))
      rw [show tLk D f (S.2.1 k / 4096 ^^^ 2 ^ i) (tA D (S.2.1 k) i) (tB D f (S.2.1 k) i) = tL D f (S.2.1 k) i from rfl]
      have hT3 : TT h3 w a D f v0 v1 nx1 qa1 q0 (bI (tNb D f) k (S.2.1 k) i S) := ⟨z2, tr3, ⟨tq1_, tq2_, tq3_⟩, ta, tqa⟩
      by_cases c1 : tL D f (S.2.1 k) i = 1
      · rw [c1]
        refine And.intro (fun cz => by first | exact absurd cz (by decide) | exact absurd (by decide) cz) (fun _ => ?_)
        have hs : tSn D f (S.2.1 k) i = true := decide_eq_true c1
        have hfs := fsA_at h0 hs (dI D) hiI
        have et : tEnd D f k S = bI (tNb D f) k (S.2.1 k) i S := by unfold tEnd; rw [hfs]
        exact And.intro rfl (hP h3 nx1 qa1 (nI i) hfr3 hnx hqa (by rw [et]; exact hT3) (Or.inl ⟨i, hfs, hiI, rfl⟩))
      · have hlt : tL D f (S.2.1 k) i < 3 := by
          unfold tL tLk
          repeat' split
          all_goals decide
        have hs : tSn D f (S.2.1 k) i = false := decide_eq_false c1
        have h01 : fsA (tSn D f (S.2.1 k)) (i + 1) = none := by
          rw [fsA_no]
          intro j hj
          by_cases e : j = i
          · rw [e]; exact hs
          · exact fsA_no.mp h0 j (by omega)
        have hme2 := gS_mono (capF_mono hv (tEnd_le h01 (by omega)) ((tEnd_in hw hf hI hk).le hw))
        by_cases c0 : tL D f (S.2.1 k) i = 0
        · rw [c0]
          refine And.intro (fun _ => ?_) (fun cz => by first | exact absurd cz (by decide) | exact absurd (by decide) cz)
          refine And.intro (fun cz => by first | exact absurd cz (by decide) | exact absurd (by decide) cz) (fun _ => ?_)
          have hy := tY_val hw hf hx hiI c0
          obtain ⟨s, hs1, es, _⟩ := hy.2.2.1
          obtain ⟨s2, hs2, es2, _⟩ := hy.2.2.2
          have ey : tY D f (S.2.1 k) i = 4096 * (S.2.1 k / 4096 ^^^ 2 ^ i) + 64 * s + s2 := by
            unfold tY
            rw [es, es2, nI_clamp (by omega), nI_clamp (by omega)]
          have eb : bI (tNb D f) k (S.2.1 k) (i + 1) S = bAdd (bI (tNb D f) k (S.2.1 k) i S) (tY D f (S.2.1 k) i) k i := by
            have en : tNb D f (S.2.1 k) i = some (tY D f (S.2.1 k) i) := if_pos c0
            show (match tNb D f (S.2.1 k) i with
              | none => ((bI (tNb D f) k (S.2.1 k) i S).1, (bI (tNb D f) k (S.2.1 k) i S).2.1, (bI (tNb D f) k (S.2.1 k) i S).2.2.1, (bI (tNb D f) k (S.2.1 k) i S).2.2.2 + 1)
              | some y => bAdd (bI (tNb D f) k (S.2.1 k) i S) y k i) = _
            rw [en]
          have hSi1 := hI.I hw hf hk (i + 1) (by omega)
          have hm01 := gS_mono (capF_mono hv (bI_le (tNb D f) k (S.2.1 k) S i 1) (hSi1.le hw))
          have hm00 := gS_mono (capF_mono hv (bI_mono (tNb D f) k (S.2.1 k) S i).1 (hSi.le hw))
          have eor : ((nI k).toInt64 <<< ((20 : Int32).toInt64 &&& 63)) ||| ((nI i).toInt64 <<< ((17 : Int32).toInt64 &&& 63)) = lN (2 ^ 20 * k + 2 ^ 17 * i) := by
            have hk17 : k < 131072 := Nat.lt_of_lt_of_le hk (hI.le hw)
            rw [nI_l (by omega), nI_l (by omega), show (20 : Int32) = nI 20 from rfl, show (17 : Int32) = nI 17 from rfl, lx_shl (by decide), lx_shl (by decide), lx_or, Nat.shiftLeft_eq, Nat.shiftLeft_eq, Nat.mul_comm k, Nat.mul_comm i, or_add (show 2 ^ 17 * i < 2 ^ 20 by omega)]
          have hc1 : kk + (gC (capF q0 (bAdd (bI (tNb D f) k (S.2.1 k) i S) (tY D f (S.2.1 k) i) k i).1) - gC (capF q0 (bI (tNb D f) k (S.2.1 k) i S).1)) ≤ gC (capF q0 (tEnd D f k S).1) - gC (capF q0 S.1) := by rw [← eb]; omega
          have hc2 : nn + (gS (capF q0 (bAdd (bI (tNb D f) k (S.2.1 k) i S) (tY D f (S.2.1 k) i) k i).1) - gS (capF q0 (bI (tNb D f) k (S.2.1 k) i S).1)) ≤ gS (capF q0 (tEnd D f k S).1) - gS (capF q0 S.1) := by rw [← eb]; omega
          rw [es, es2]
          refine Exists.intro _ (And.intro hO3 (Exists.intro _ (Exists.intro _ (And.intro hc1 (And.intro hc2 ?_)))))
          rw [eor]
          refine x_reachPlace hX hv tr3 ⟨tq1_, tq2_, tq3_⟩ ey (by omega) (by omega) (by omega) (by omega) (by rw [← eb]; exact hSi1.le hw) (fun h4 nx4 qa4 g1 g2 g3 g4 g5 => ?_)
          refine go_loc (lv' := [(4, .int (nI i + 1)), (3, .int (nI (S.2.1 k))), (0, .ref (w + 52)), (1, .int (nI k)), (2, .int (nI (dI D)))]) ⟨rfl, rfl, rfl, rfl, rfl, trivial⟩ ?_
          rw [← nI_succ]
          have qdis : qa4 < a ∨ a + 29 ≤ qa4 := by
            rcases g4 with e | e
            · rw [e]; exact tqa
            · omega
          refine ih (i + 1) h4 nx4 qa4 _ _ (by omega) h01 (fun x x1 x2 x3 x4 => ?_) (by omega) ?_ ⟨z2.ag (fun x hx2 => g1 x (by omega) (by omega) (by omega) (by omega)), by rw [eb]; exact g5, g3, by omega, qdis⟩ (by rw [eb] at hm01 ⊢; omega) (by rw [eb] at hm01 ⊢; omega)
          · rw [g1 x (by omega) x4 (by omega) (by omega)]
            exact hfr3 x x1 x2 x3 x4
          · omega
        · have c2 : tL D f (S.2.1 k) i = 2 := by omega
          rw [c2]
          refine And.intro (fun _ => ?_) (fun cz => by first | exact absurd cz (by decide) | exact absurd (by decide) cz)
          refine And.intro (fun _ => ?_) (fun cz => by first | exact absurd cz (by decide) | exact absurd (by decide) cz)
          have eb1 : (bI (tNb D f) k (S.2.1 k) (i + 1) S).1 = (bI (tNb D f) k (S.2.1 k) i S).1 ∧ (bI (tNb D f) k (S.2.1 k) (i + 1) S).2.1 = (bI (tNb D f) k (S.2.1 k) i S).2.1 ∧ (bI (tNb D f) k (S.2.1 k) (i + 1) S).2.2.1 = (bI (tNb D f) k (S.2.1 k) i S).2.2.1 := by
            have en : tNb D f (S.2.1 k) i = none := if_neg c0
            have e5 : bI (tNb D f) k (S.2.1 k) (i + 1) S = (match tNb D f (S.2.1 k) i with
              | none => ((bI (tNb D f) k (S.2.1 k) i S).1, (bI (tNb D f) k (S.2.1 k) i S).2.1, (bI (tNb D f) k (S.2.1 k) i S).2.2.1, (bI (tNb D f) k (S.2.1 k) i S).2.2.2 + 1)
              | some y => bAdd (bI (tNb D f) k (S.2.1 k) i S) y k i) := rfl
            rw [e5, en]
            exact ⟨rfl, rfl, rfl⟩
          refine go_loc (lv' := [(4, .int (nI i + 1)), (3, .int (nI (S.2.1 k))), (0, .ref (w + 52)), (1, .int (nI k)), (2, .int (nI (dI D)))]) ⟨rfl, rfl, rfl, rfl, rfl, trivial⟩ ?_
          rw [← nI_succ]
          refine ih (i + 1) h3 nx1 qa1 _ _ (by omega) h01 hfr3 hnx hqa ⟨z2, ?_, ⟨tq1_, tq2_, tq3_⟩, ta, tqa⟩ (by rw [eb1.1]; omega) (by rw [eb1.1]; omega)
          obtain ⟨gq3, gb3, d1, d2, d3, d4, d5⟩ := tr3
          refine ⟨gq3, gb3, by rw [eb1.1]; exact d1, by rw [eb1.1]; exact d2, d3, ?_, ?_⟩
          · rw [eb1.1, eb1.2.1, eb1.2.2]; exact d4
          · rw [eb1.1, eb1.2.1]; exact d5
  obtain ⟨gq, gb, hO, hq, hb, htq⟩ := id hT.2.1
  have hk17 : k < 131072 := Nat.lt_of_lt_of_le hk (hI.le hw)
  have hcap := capF_ok hv (hI.le hw)
  have hcl : capF q0 S.1 ≤ 131072 := by have := hcap.1; unfold QV at this; omega
  refine en_X9_actFrom hX [14] 40 rfl ?_
  refine Exists.intro _ (And.intro hO (Exists.intro _ (And.intro rfl ?_)))
  refine Exists.intro _ (Exists.intro _ (And.intro hq (And.intro (vp_in_nI (by omega) (by omega)) ?_)))
  refine go_loc (lv' := [(4, .int (nI 0)), (3, .int ((gq (nI k).toNatClampNeg).toInt32 &&& 131071)), (0, .ref (w + 52)), (1, .int (nI k)), (2, .int (nI (dI D)))]) ⟨rfl, rfl, rfl, rfl, rfl, trivial⟩ ?_
  rw [nI_clamp (show k < 2 ^ 31 by omega), htq.1 k hk, show 2 ^ 20 * (S.2.2.1 k).1 + 2 ^ 17 * (S.2.2.1 k).2 + S.2.1 k = 2 ^ 17 * (8 * (S.2.2.1 k).1 + (S.2.2.1 k).2) + S.2.1 k by omega, place_lo hxl]
  exact loop (dI D) 0 h nx qa _ _ (Nat.zero_add _) rfl (fun _ _ _ _ _ => rfl) (Nat.le_refl _) (Or.inl rfl) hT (Nat.sub_self _).symm (Nat.sub_self _).symm
