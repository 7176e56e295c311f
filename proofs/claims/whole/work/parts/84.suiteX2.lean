/-! x's makeSuite, and what is asked of the suite -/
def gT (L : List TT2) (k : Nat) : TT2 := L.getD k (0, fun _ => 0)
theorem gTD {L : List TT2} {k : Nat} (hk : k < L.length) : gT L k = L[k] := by unfold gT; rw [List.getD_eq_getElem?_getD, List.getElem?_eq_getElem hk]; rfl
/-- one flaw more: its least test comes behind, if no test of those sees it -/
noncomputable def sSt (D : DD) (f : Nat) (acc : List TT2) : List TT2 := match ltR D f with
  | none => acc
  | some p => if acc.any (seesT D f) = true then acc else acc ++ [p]
/-- flaw by flaw, until there are 30 -/
noncomputable def sRun (D : DD) : Nat → Nat → List TT2 → Nat × List TT2
  | 0, i, acc => (i, acc)
  | m + 1, i, acc => if acc.length = 30 then (i, acc) else sRun D m (i + 1) (sSt D ((flL D).getD i 0) acc)
noncomputable def sFin (D : DD) : Nat × List TT2 := sRun D (flL D).length 0 []
noncomputable def suL (D : DD) : List TT2 := (sFin D).2
def sOk (D : DD) (acc : List TT2) : Prop := acc.length ≤ 30 ∧ ∀ p ∈ acc, tOk D p
theorem sSt_ok {D : DD} {f : Nat} {acc : List TT2} (hw : WD D) (hf : okW D (some f)) (h : sOk D acc) (hl : acc.length ≠ 30) : sOk D (sSt D f acc) := by
  unfold sSt
  have h1 := h.1
  cases er : ltR D f with
  | none => exact h
  | some p =>
    simp only
    split
    · exact h
    · refine ⟨by rw [List.length_append, List.length_singleton]; omega, fun q hq => ?_⟩
      rcases List.mem_append.mp hq with z | z
      · exact h.2 q z
      · rw [List.mem_singleton.mp z]
        exact ltR_lt hw hf er
theorem sRun_ok {D : DD} (hw : WD D) : ∀ (m i : Nat) (acc : List TT2), i + m = (flL D).length → sOk D acc → sOk D (sRun D m i acc).2 ∧ i ≤ (sRun D m i acc).1 ∧ (sRun D m i acc).1 ≤ (flL D).length
  | 0, i, acc, hi, h => ⟨h, Nat.le_refl _, by show i ≤ _; omega⟩
  | m + 1, i, acc, hi, h => by
    unfold sRun
    by_cases c : acc.length = 30
    · rw [if_pos c]
      exact ⟨h, Nat.le_refl _, by show i ≤ _; omega⟩
    · rw [if_neg c]
      have ih := sRun_ok hw m (i + 1) (sSt D ((flL D).getD i 0) acc) (by omega) (sSt_ok hw (flL_ok hw (by omega)) h c)
      exact ⟨ih.1, by omega, ih.2.2⟩
theorem suL_ok {D : DD} (hw : WD D) : sOk D (suL D) ∧ (sFin D).1 ≤ (flL D).length := by
  have := sRun_ok hw (flL D).length 0 [] (Nat.zero_add _) ⟨by decide, fun p hp => by cases hp⟩
  exact ⟨this.1, this.2.2⟩
/-- the suite's row -/
noncomputable def FSr (h : AH) (d : Nat) (acc : List TT2) : Prop := ∃ g : Nat → Int64, h (d + 26) = some (.inl (1, 30, .inr (.inl g))) ∧ ∀ k, k < acc.length → encT (g k) (some (gT acc k))
noncomputable def FS (h : AH) (d : Nat) (D : DD) (sc : Int32) : Prop := (∃ g : Nat → Int64, h (d + 26) = some (.inl (1, 30, .inr (.inl g)))) ∧ (sc = -1 ∨ (sc = nI (suL D).length ∧ FSr h d (suL D)))
theorem FSr.ag {h h' : AH} {d : Nat} {acc : List TT2} (hF : FSr h d acc) (hs : h' (d + 26) = h (d + 26)) : FSr h' d acc := by
  obtain ⟨g, a, b⟩ := hF
  exact ⟨g, hs.trans a, b⟩
theorem FS.ag {h h' : AH} {d : Nat} {D : DD} {sc : Int32} (hF : FS h d D sc) (hs : h' (d + 26) = h (d + 26)) : FS h' d D sc := by
  obtain ⟨⟨g, a⟩, b⟩ := hF
  exact ⟨⟨g, hs.trans a⟩, b.imp id (fun ⟨x, y⟩ => ⟨x, y.ag hs⟩)⟩
set_option maxHeartbeats 8000000 in
theorem x_suiteTest {l : Launch} {G : GG} {h : AH} {nx : Nat} {Post : Option Value → AH → Nat → Prop} {b q : Nat} {k : Int32} {g : Nat → Int64} {acc : List TT2} {fs : List Value} (hX : XC G ∧ TX l G) (hb : h b = some (.inr (1, fs))) (f5 : fs[5]? = some (.ref q)) (f6 : fs[6]? = some (.int (nI acc.length))) (hq : h q = some (.inl (1, 30, .inr (.inl g)))) (hl : acc.length ≤ 30) (hg : ∀ k, k < acc.length → encT (g k) (some (gT acc k))) (hP : ∀ x : Int64, encT x (if 0 ≤ k ∧ k < nI acc.length then some (gT acc k.toNatClampNeg) else none) → Post (some (.long x)) h nx) : Runs l G i_X1_suiteTest 0 0 [.ref b, .int k] h nx Post := by
  refine en_X1_suiteTest hX [] 40 rfl ?_
  by_cases c1 : k < 0
  · refine And.intro (fun _ => ?_) (fun cz => absurd (c1) cz)
    exact hP (-1) (by rw [if_neg (fun z => absurd c1 (Int32.not_lt.mpr z.1))]; rfl)
  · refine And.intro (fun cz => absurd cz (c1)) (fun _ => ?_)
    obtain ⟨j, hj, rfl⟩ := nI_of c1
    refine Exists.intro _ (And.intro hb (Exists.intro _ (And.intro f6 ?_)))
    by_cases c2 : j < acc.length
    · refine And.intro (fun cz => absurd cz (nI_ge (a := j) (b := acc.length) c2 (by omega))) (fun _ => ?_)
      refine And.intro (fun cz => absurd cz (nI_ge (a := j) (b := 30) (by omega) (by decide))) (fun _ => ?_)
      refine Exists.intro _ (And.intro hb (Exists.intro _ (And.intro f5 ?_)))
      refine Exists.intro _ (Exists.intro _ (And.intro hq (And.intro (vp_in_nI (by omega) (by decide)) ?_)))
      rw [nI_clamp hj]
      exact hP (g j) (by rw [if_pos ⟨nI_pos' hj, nI_lt c2 (by omega)⟩, nI_clamp hj]; exact hg j c2)
    · refine And.intro (fun _ => ?_) (fun cz => absurd (nI_le (a := acc.length) (b := j) (by omega) hj) cz)
      exact hP (-1) (by rw [if_neg (fun z => absurd z.2 (nI_nlt (by omega) hj))]; rfl)
theorem any_take {P : TT2 → Bool} {acc : List TT2} {k : Nat} (hk : k < acc.length) : (acc.take (k + 1)).any P = ((acc.take k).any P || P (gT acc k)) := by
  rw [List.take_succ_eq_append_getElem hk, List.any_append, gTD hk]
  simp
theorem any_of_take {P : TT2 → Bool} {acc : List TT2} {k : Nat} (h : (acc.take k).any P = true) : acc.any P = true := by
  rw [List.any_eq_true] at h ⊢
  obtain ⟨x, hx, hp⟩ := h
  exact ⟨x, List.mem_of_mem_take hx, hp⟩
theorem gT_mem {acc : List TT2} {k : Nat} (hk : k < acc.length) : gT acc k ∈ acc := by
  rw [gTD hk]
  exact List.getElem_mem hk
set_option maxHeartbeats 16000000 in
theorem x_makeSuite {l : Launch} {G : GG} {h : AH} {nx : Nat} {Post : Option Value → AH → Nat → Prop} {o w tl c t vb q0 : Nat} {fp ah sc : Int32} {da : Nat → Nat} {dd : Nat → DD} {kn : Nat → Bool} (hX : XC G ∧ TX l G) (hA : XA h o w tl fp c ah da dd) (hH : XH h w c da dd vb) (hS : XS2 h w c da dd vb) (hT : TRq h w nx c da q0) (hO : FO h (da t) sc) (hL : FLk h (da t) (dd t) kn) (hF : FS h (da t) (dd t) sc) (hsc : sc = -1) (ht : t < c) (hv : vb + 400 < 2 ^ 31) (hP : ∀ (h1 : AH) (nx1 : Nat), nx ≤ nx1 → XH h1 w c da dd (vb + 264) → XS2 h1 w c da dd (vb + 264) → TRq h1 w nx1 c da (capN q0 kn (dd t) (sFin (dd t)).1) → FO h1 (da t) (nI (suL (dd t)).length) → FLk h1 (da t) (dd t) (kN kn (sFin (dd t)).1) → FS h1 (da t) (dd t) (nI (suL (dd t)).length) → FWl h h1 w c da (da t + 20) (da t + 27) → h1 (da t + 21) = h (da t + 21) → h1 (da t + 22) = h (da t + 22) → h1 (da t + 23) = h (da t + 23) → Post none h1 nx1) : Runs l G i_X9_makeSuite (gC (capN q0 kn (dd t) (sFin (dd t)).1) - gC q0) (gS (capN q0 kn (dd t) (sFin (dd t)).1) - gS q0) [.ref (w + 52), .ref (da t)] h nx Post := by
  have hdt : isDr w c da dd (da t) (dd t) := Or.inr ⟨t, ht, rfl, rfl⟩
  have hlo : w + 137 ≤ da t := (hA.2.2.2.2.1 t ht).2.2
  obtain ⟨hD, hw, _⟩ := hdt.xd hA
  have hl := flL_len hw
  have hqv : QV q0 := by obtain ⟨_, _, _, _, _, _, _, _, z, _⟩ := hT; exact z
  have hsu := suL_ok hw
  obtain ⟨_, _, _, _, _, _, _, _, _, _, _, _, _, _, _, _, _, d0, _⟩ := id hD
  obtain ⟨⟨gs0, es0⟩, _⟩ := hF
  subst hsc
  have inD : ∀ x, da t ≤ x → x < da t + 29 → (x < w + 43 ∨ (w + 60 ≤ x ∧ x < w + 137) ∨ ∃ j, j < c ∧ da j ≤ x ∧ x < da j + 29) := fun x a b => Or.inr (Or.inr ⟨t, ht, a, b⟩)
  have loop : ∀ (m i : Nat) (acc : List TT2) (h1 : AH) (nx1 kk nn : Nat), i + m = (flL (dd t)).length → sRun (dd t) m i acc = sFin (dd t) → sOk (dd t) acc → nx ≤ nx1 → XH h1 w c da dd (vb + 2 * i) → XS2 h1 w c da dd (vb + 2 * i) → TRq h1 w nx1 c da (capN q0 kn (dd t) i) → FO h1 (da t) (nI acc.length) → FLk h1 (da t) (dd t) (kN kn i) → FSr h1 (da t) acc → FWl h h1 w c da (da t + 20) (da t + 27) → (∀ y, da t + 21 ≤ y → y < da t + 24 → h1 y = h y) → kk = gC (capN q0 kn (dd t) i) - gC q0 → nn = gS (capN q0 kn (dd t) i) - gS q0 → Go l G 9 s_X9_makeSuite (gC (capN q0 kn (dd t) (sFin (dd t)).1) - gC q0) (gS (capN q0 kn (dd t) (sFin (dd t)).1) - gS q0) Post 20 [(3, .int (nI i)), (2, .ref (da t + 20)), (0, .ref (w + 52)), (1, .ref (da t))] [] h1 nx1 kk nn := by
    intro m
    induction m with
    | zero =>
      intro i acc h1 nx1 kk nn hi hrun hok hnx H1 S1 T1 O1 L1 F1 fr fr3 hk1 hk2
      have hA1 := fr.xa hA ht (by omega) (by omega)
      obtain ⟨hD1, _, _⟩ := hdt.xd hA1
      obtain ⟨_, _, _, _, _, _, _, _, _, _, _, _, _, _, _, _, _, d01, _⟩ := id hD1
      have e : i = (flL (dd t)).length := by omega
      have er : sFin (dd t) = (i, acc) := hrun.symm
      have ea : suL (dd t) = acc := by unfold suL; rw [er]
      rw [er, ea] at hP
      refine Go.of hX.2 ck_X9_makeSuite [20] 20 ?_
      refine Exists.intro _ (And.intro d01 (Exists.intro _ (And.intro rfl ?_)))
      refine And.intro (fun _ => ?_) (fun cz => absurd (nI_le (a := (flL (dd t)).length) (b := i) (by omega) (by omega)) cz)
      obtain ⟨g, eg, vg⟩ := id F1
      exact hP h1 nx1 hnx (H1.le (by omega)) (S1.le (by omega)) T1 O1 L1 ⟨⟨g, eg⟩, Or.inr ⟨by rw [ea], by rw [ea]; exact F1⟩⟩ fr (fr3 _ (by omega) (by omega)) (fr3 _ (by omega) (by omega)) (fr3 _ (by omega) (by omega))
    | succ m ih =>
      intro i acc h1 nx1 kk nn hi hrun hok hnx H1 S1 T1 O1 L1 F1 fr fr3 hk1 hk2
      have hA1 := fr.xa hA ht (by omega) (by omega)
      obtain ⟨hD1, _, _⟩ := hdt.xd hA1
      obtain ⟨_, _, _, _, _, _, _, _, _, _, _, _, _, _, _, _, _, d01, _⟩ := id hD1
      have hin : i < (flL (dd t)).length := by omega
      have h30 := hok.1
      refine Go.of hX.2 ck_X9_makeSuite [20, 73, 131] 60 ?_
      refine Exists.intro _ (And.intro d01 (Exists.intro _ (And.intro rfl ?_)))
      refine And.intro (fun cz => absurd cz (nI_ge (a := i) (b := (flL (dd t)).length) hin (by omega))) (fun _ => ?_)
      refine Exists.intro _ (And.intro O1 (Exists.intro _ (And.intro rfl ?_)))
      by_cases c30 : acc.length = 30
      · refine And.intro (fun _ => ?_) (fun cz => absurd (nI_le (a := 30) (b := acc.length) (by omega) (by omega)) cz)
        have er : sFin (dd t) = (i, acc) := by
          rw [← hrun]
          unfold sRun
          rw [if_pos c30]
        have ea : suL (dd t) = acc := by unfold suL; rw [er]
        rw [er, ea] at hP
        obtain ⟨g, eg, vg⟩ := id F1
        exact hP h1 nx1 hnx (H1.le (by omega)) (S1.le (by omega)) T1 O1 L1 ⟨⟨g, eg⟩, Or.inr ⟨by rw [ea], by rw [ea]; exact F1⟩⟩ fr (fr3 _ (by omega) (by omega)) (fr3 _ (by omega) (by omega)) (fr3 _ (by omega) (by omega))
      · refine And.intro (fun cz => absurd cz (nI_ge (a := acc.length) (b := 30) (by omega) (by decide))) (fun _ => ?_)
        have hrun2 : sRun (dd t) m (i + 1) (sSt (dd t) ((flL (dd t)).getD i 0) acc) = sFin (dd t) := by
          rw [← hrun]
          conv => rhs; unfold sRun
          rw [if_neg c30]
        have hok2 := sSt_ok hw (flL_ok hw hin) hok c30
        have hle2 := (sRun_ok hw m (i + 1) _ (by omega) hok2).2
        rw [hrun2] at hle2
        obtain ⟨_, _, _, _, tO1, _⟩ := id T1
        have m1 := gS_mono (capN_mono (kn := kn) hw hqv i 1 (by omega))
        have m2 := gS_mono (capN_mono (kn := kn) hw hqv (i + 1) ((sFin (dd t)).1 - (i + 1)) (by omega))
        have m0 := gS_mono (capN_ok (kn := kn) hw hqv i (by omega)).2
        rw [show i + 1 + ((sFin (dd t)).1 - (i + 1)) = (sFin (dd t)).1 by omega] at m2
        have ec : capN q0 kn (dd t) (i + 1) = tcap (capN q0 kn (dd t) i) (kN kn i) (dd t) i := (kN_t _ _ _ _).symm
        refine Exists.intro _ (And.intro tO1 (Exists.intro _ (Exists.intro _ (And.intro (show kk + (gC (tcap (capN q0 kn (dd t) i) (kN kn i) (dd t) i) - gC (capN q0 kn (dd t) i)) ≤ _ by rw [← ec]; omega) (And.intro (show nn + (gS (tcap (capN q0 kn (dd t) i) (kN kn i) (dd t) i) - gS (capN q0 kn (dd t) i)) ≤ _ by rw [← ec]; omega) (x_leastTest hX hA1 H1 S1 T1 O1 L1 ht (by omega) hin (fun h2 nx2 x y1 y2 y3 y4 y5 y6 y7 => ?_)))))))
        rw [← ec] at y4
        rw [kN_s] at y5
        have fr2 := fr.tr (y7.wd (by omega) (by omega))
        have O2 : FO h2 (da t) (nI acc.length) := O1.ag (y7 _ (inD _ (by omega) (by omega)) (by omega))
        have F2 : FSr h2 (da t) acc := F1.ag (y7 _ (inD _ (by omega) (by omega)) (by omega))
        have fr32 : ∀ y, da t + 21 ≤ y → y < da t + 24 → h2 y = h y := fun y a b => (y7 _ (inD _ (by omega) (by omega)) (by omega)).trans (fr3 y a b)
        rw [← ec]
        have back : ∀ (acc2 : List TT2) (h4 : AH) (lv : LV) (nn2 kk2 : Nat), acc2 = sSt (dd t) ((flL (dd t)).getD i 0) acc → XH h4 w c da dd (vb + 2 * (i + 1)) → XS2 h4 w c da dd (vb + 2 * (i + 1)) → TRq h4 w nx2 c da (capN q0 kn (dd t) (i + 1)) → FO h4 (da t) (nI acc2.length) → FLk h4 (da t) (dd t) (kN kn (i + 1)) → FSr h4 (da t) acc2 → FWl h h4 w c da (da t + 20) (da t + 27) → (∀ y, da t + 21 ≤ y → y < da t + 24 → h4 y = h y) → kk2 = gC (capN q0 kn (dd t) (i + 1)) - gC q0 → nn2 = gS (capN q0 kn (dd t) (i + 1)) - gS q0 → lk lv 3 = some (.int (nI i)) → lk lv 2 = some (.ref (da t + 20)) → lk lv 0 = some (.ref (w + 52)) → lk lv 1 = some (.ref (da t)) → Go l G 9 s_X9_makeSuite (gC (capN q0 kn (dd t) (sFin (dd t)).1) - gC q0) (gS (capN q0 kn (dd t) (sFin (dd t)).1) - gS q0) Post 131 lv [] h4 nx2 kk2 nn2 := by
          intro acc2 h4 lv nn2 kk2 ea H4 S4 T4 O4 L4 F4 fr4 fr34 hkk hnn l3 l2 l0 l1
          subst ea
          refine go_loc (lv' := [(3, .int (nI i)), (2, .ref (da t + 20)), (0, .ref (w + 52)), (1, .ref (da t))]) ⟨l3, l2, l0, l1, trivial⟩ ?_
          refine Go.of hX.2 ck_X9_makeSuite [20] 20 ?_
          refine go_loc (lv' := [(3, .int (nI i + 1)), (2, .ref (da t + 20)), (0, .ref (w + 52)), (1, .ref (da t))]) ⟨rfl, rfl, rfl, rfl, trivial⟩ ?_
          rw [← nI_succ]
          exact ih (i + 1) _ h4 nx2 _ _ (by omega) hrun2 hok2 (by omega) H4 S4 T4 O4 L4 F4 fr4 fr34 hkk hnn
        cases er : ltR (dd t) ((flL (dd t)).getD i 0) with
        | none =>
          rw [er] at y6
          have ex : x = -1 := y6
          subst ex
          refine And.intro (fun cz => by first | exact absurd cz (by decide) | exact absurd (by decide) cz) (fun _ => ?_)
          exact back acc h2 _ _ _ (by unfold sSt; rw [er]) (y2.le (by omega)) (y3.le (by omega)) y4 O2 y5 F2 fr2 fr32 (by omega) (by omega) rfl rfl rfl rfl
        | some p =>
          rw [er] at y6
          have hne : x ≠ -1 := by
            obtain ⟨v, e1, hv2, _⟩ := y6
            have h1 := (encN_v hv2).1
            intro z
            rw [e1] at z
            have h2 := cmp_nn (v := v) (by omega)
            rw [z, cmp_m1] at h2
            exact absurd (by decide) h2
          refine And.intro (fun _ => ?_) (fun cz => absurd cz (fun z => hne (cmp_eq.mp z)))
          have hA2 := fr2.xa hA ht (by omega) (by omega)
          obtain ⟨hD2, _, _⟩ := hdt.xd hA2
          obtain ⟨_, _, _, _, _, _, _, _, _, _, _, _, _, _, _, _, _, d02, _⟩ := id hD2
          obtain ⟨qa2, tn2, gq2, gb2, tO2, tq2_, tb2, tQ2, tv2, td2, tx2⟩ := id y4
          refine Exists.intro _ (And.intro d02 (Exists.intro 0 (Exists.intro 0 (And.intro (by omega) (And.intro (by omega) (x_flawAt hX hD2 hw ?_))))))
          rw [show aFlaw (dd t) (nI i) = nI ((flL (dd t)).getD i 0) from by unfold aFlaw; rw [if_pos ⟨nI_pos' (by omega), nI_lt hin (by omega)⟩, nI_clamp (by omega)]]
          have hf := flL_ok hw hin
          refine Exists.intro _ (And.intro tO2 (Exists.intro 0 (Exists.intro 0 (And.intro (by omega) (And.intro (by omega) (x_prepBoth hX hA2 y2 y3 tO2 ht hf (by omega) (fun h3 v0 v1 z1 z2 z3 z4 => ?_)))))))
          have rest : ∀ (h4 : AH), (∀ y, (y < w + 43 ∨ (w + 48 ≤ y ∧ y < w + 53) ∨ w + 58 ≤ y) → h4 y = h2 y) → TB2 h4 w (da t) (dd t) ((flL (dd t)).getD i 0) v0 v1 → XH h4 w c da dd (vb + 2 * (i + 1)) ∧ XS2 h4 w c da dd (vb + 2 * (i + 1)) ∧ TRq h4 w nx2 c da (capN q0 kn (dd t) (i + 1)) ∧ FO h4 (da t) (nI acc.length) ∧ FLk h4 (da t) (dd t) (kN kn (i + 1)) ∧ FSr h4 (da t) acc ∧ FWl h h4 w c da (da t + 20) (da t + 27) ∧ (∀ y, da t + 21 ≤ y → y < da t + 24 → h4 y = h y) ∧ TO h4 w qa2 tn2 := by
            intro h4 f4 b4
            have q1_ := tQ2.1
            refine ⟨⟨_, _, _, v1, b4.2.1, WK_one hw hf okW_no, hdt, hdt, b4.2.2.1, by omega⟩, ⟨_, _, _, v0, b4.1, WK_one hw okW_no okW_no, hdt, hdt, by omega⟩, ⟨qa2, tn2, gq2, gb2, (f4 _ (by omega)).trans tO2, (f4 _ (by omega)).trans tq2_, (f4 _ (by omega)).trans tb2, tQ2, tv2, td2, tx2⟩, O2.ag (f4 _ (by omega)), y5.ag (f4 _ (by omega)) (f4 _ (by omega)), F2.ag (f4 _ (by omega)), fun y a b => (f4 y ?_).trans (fr2 y a b), fun y a b => (f4 y (by omega)).trans (fr32 y a b), (f4 _ (by omega)).trans tO2⟩
            rcases a with z | z | ⟨j, hj, z⟩
            · omega
            · omega
            · have := (hA.2.2.2.2.1 j hj).2.2
              omega
          have inner : ∀ (mm k : Nat) (b : Bool) (h4 : AH), k + mm = acc.length → b = (acc.take k).any (seesT (dd t) ((flL (dd t)).getD i 0)) → (∀ y, (y < w + 43 ∨ (w + 48 ≤ y ∧ y < w + 53) ∨ w + 58 ≤ y) → h4 y = h2 y) → TB2 h4 w (da t) (dd t) ((flL (dd t)).getD i 0) v0 v1 → Go l G 9 s_X9_makeSuite (gC (capN q0 kn (dd t) (sFin (dd t)).1) - gC q0) (gS (capN q0 kn (dd t) (sFin (dd t)).1) - gS q0) Post 73 [(7, .int (nI k)), (6, .int (nI b.toNat)), (4, .long x), (3, .int (nI i)), (2, .ref (da t + 20)), (0, .ref (w + 52)), (1, .ref (da t))] [] h4 nx2 (kk + (gC (capN q0 kn (dd t) (i + 1)) - gC (capN q0 kn (dd t) i))) (nn + (gS (capN q0 kn (dd t) (i + 1)) - gS (capN q0 kn (dd t) i))) := by
            have tail : ∀ (b : Bool) (h4 : AH) (lv : LV), (b = true → acc.any (seesT (dd t) ((flL (dd t)).getD i 0)) = true) → (b = false → acc.any (seesT (dd t) ((flL (dd t)).getD i 0)) = false) → (∀ y, (y < w + 43 ∨ (w + 48 ≤ y ∧ y < w + 53) ∨ w + 58 ≤ y) → h4 y = h2 y) → TB2 h4 w (da t) (dd t) ((flL (dd t)).getD i 0) v0 v1 → lk lv 6 = some (.int (nI b.toNat)) → lk lv 4 = some (.long x) → lk lv 3 = some (.int (nI i)) → lk lv 2 = some (.ref (da t + 20)) → lk lv 0 = some (.ref (w + 52)) → lk lv 1 = some (.ref (da t)) → Go l G 9 s_X9_makeSuite (gC (capN q0 kn (dd t) (sFin (dd t)).1) - gC q0) (gS (capN q0 kn (dd t) (sFin (dd t)).1) - gS q0) Post 105 lv [] h4 nx2 (kk + (gC (capN q0 kn (dd t) (i + 1)) - gC (capN q0 kn (dd t) i))) (nn + (gS (capN q0 kn (dd t) (i + 1)) - gS (capN q0 kn (dd t) i))) := by
              intro b h4 lv hb1 hb0 f4 b4 l6 l4 l3 l2 l0 l1
              obtain ⟨w1, w2, w3, w4, w5, w6, w7, w8, w9⟩ := rest h4 f4 b4
              refine go_loc (lv' := [(6, .int (nI b.toNat)), (4, .long x), (3, .int (nI i)), (2, .ref (da t + 20)), (0, .ref (w + 52)), (1, .ref (da t))]) ⟨l6, l4, l3, l2, l0, l1, trivial⟩ ?_
              refine Go.of hX.2 ck_X9_makeSuite [20, 131] 60 ?_
              cases b with
              | true =>
                refine And.intro (fun _ => ?_) (fun cz => by first | exact absurd cz (by decide) | exact absurd (by decide) cz)
                refine back acc h4 _ _ _ ?_ w1 w2 w3 w4 w5 w6 w7 w8 (by omega) (by omega) rfl rfl rfl rfl
                unfold sSt
                rw [er]
                exact (if_pos (hb1 rfl)).symm
              | false =>
                refine And.intro (fun cz => by first | exact absurd cz (by decide) | exact absurd (by decide) cz) (fun _ => ?_)
                obtain ⟨g, eg, vg⟩ := w6
                refine Exists.intro _ (And.intro w4 (Exists.intro _ (And.intro rfl ?_)))
                refine Exists.intro _ (And.intro w4 (Exists.intro _ (And.intro rfl ?_)))
                refine Exists.intro _ (Exists.intro _ (And.intro eg (And.intro (vp_in_nI (n := acc.length) (by omega) (by decide)) ?_)))
                rw [nI_clamp (show acc.length < 2 ^ 31 by omega)]
                refine Exists.intro _ (And.intro ((uph_ne (by omega)).trans w4) (Exists.intro _ (And.intro rfl ?_)))
                refine Exists.intro _ (And.intro ((uph_ne (by omega)).trans w4) (And.intro (Nat.le_of_ble_eq_true rfl) (And.intro rfl (And.intro rfl ?_))))
                have fr5 : ∀ y, y ≠ da t + 26 → y ≠ da t + 20 → (uph (uph h4 (da t + 26) (.inl (1, 30, .inr (.inl (vp_updL g acc.length x))))) (da t + 20) (.inr (1, [.ref (da t + 21), .ref (da t + 22), .ref (da t + 23), .ref (da t + 24), .ref (da t + 25), .ref (da t + 26), .int (nI acc.length + 1)]))) y = h4 y := fun y a1 a2 => by rw [uph_ne a2, uph_ne a1]
                have q1_ := tQ2.1
                have q2_ := td2 t ht
                refine back (acc ++ [p]) _ _ _ _ ?_ (w1.ag (fun y _ _ => fr5 y (by omega) (by omega))) (w2.ag (fun y _ _ => fr5 y (by omega) (by omega))) ?_ ?_ (w5.ag (fr5 _ (by omega) (by omega)) (fr5 _ (by omega) (by omega))) ⟨_, (uph_ne (by omega)).trans uph_eq, fun k hk => ?_⟩ (fun y a b => (fr5 y (by omega) (by omega)).trans (w7 y a b)) (fun y a b => (fr5 y (by omega) (by omega)).trans (w8 y a b)) (by omega) (by omega) rfl rfl rfl rfl
                · unfold sSt
                  rw [er]
                  exact (if_neg (by rw [hb0 rfl]; decide)).symm
                · exact ⟨qa2, tn2, gq2, gb2, (fr5 _ (by omega) (by omega)).trans w9, (fr5 _ (by omega) (by omega)).trans ((f4 _ (by omega)).trans tq2_), (fr5 _ (by omega) (by omega)).trans ((f4 _ (by omega)).trans tb2), tQ2, tv2, td2, tx2⟩
                · refine uph_eq.trans ?_
                  rw [List.length_append, List.length_singleton, nI_succ]
                  rfl
                · rw [List.length_append, List.length_singleton] at hk
                  by_cases e : k = acc.length
                  · rw [e, pk_uLs]
                    have : gT (acc ++ [p]) acc.length = p := by
                      unfold gT
                      rw [List.getD_eq_getElem?_getD, List.getElem?_append_right (Nat.le_refl _), Nat.sub_self]
                      rfl
                    rw [this]
                    exact y6
                  · rw [pk_uLn e]
                    have : gT (acc ++ [p]) k = gT acc k := by
                      unfold gT
                      rw [List.getD_eq_getElem?_getD, List.getD_eq_getElem?_getD, List.getElem?_append_left (by omega)]
                    rw [this]
                    exact vg k (by omega)
            intro mm
            induction mm with
            | zero =>
              intro k b h4 hk hb f4 b4
              obtain ⟨w1, w2, w3, w4, w5, w6, w7, w8, w9⟩ := rest h4 f4 b4
              rw [List.take_of_length_le (by omega)] at hb
              refine Go.of hX.2 ck_X9_makeSuite [73, 105] 20 ?_
              refine Exists.intro _ (And.intro w4 (Exists.intro _ (And.intro rfl ?_)))
              refine And.intro (fun _ => ?_) (fun cz => absurd (nI_le (a := acc.length) (b := k) (by omega) (by omega)) cz)
              exact tail b h4 _ (fun z => by rw [← hb]; exact z) (fun z => by rw [← hb]; exact z) f4 b4 rfl rfl rfl rfl rfl rfl
            | succ mm ih3 =>
              intro k b h4 hk hb f4 b4
              obtain ⟨w1, w2, w3, w4, w5, w6, w7, w8, w9⟩ := rest h4 f4 b4
              refine Go.of hX.2 ck_X9_makeSuite [73, 105] 60 ?_
              refine Exists.intro _ (And.intro w4 (Exists.intro _ (And.intro rfl ?_)))
              refine And.intro (fun cz => absurd cz (nI_ge (a := k) (b := acc.length) (by omega) (by omega))) (fun _ => ?_)
              cases b with
              | true =>
                refine And.intro (fun _ => ?_) (fun cz => by first | exact absurd cz (by decide) | exact absurd (by decide) cz)
                exact tail true h4 _ (fun _ => any_of_take hb.symm) (fun z => by cases z) f4 b4 rfl rfl rfl rfl rfl rfl
              | false =>
                refine And.intro (fun cz => by first | exact absurd cz (by decide) | exact absurd (by decide) cz) (fun _ => ?_)
                obtain ⟨g, eg, vg⟩ := w6
                have hka : k < acc.length := by omega
                refine Exists.intro _ (And.intro w4 (Exists.intro 0 (Exists.intro 0 (And.intro (by omega) (And.intro (by omega) (x_suiteTest hX w4 rfl rfl eg h30 vg (fun xt hxt => ?_)))))))
                rw [if_pos ⟨nI_pos' (by omega), nI_lt hka (by omega)⟩, nI_clamp (by omega)] at hxt
                refine Exists.intro _ (And.intro w9 (Exists.intro 0 (Exists.intro 0 (And.intro (by omega) (And.intro (by omega) (x_isSeeing hX b4 w9 hw hf hlo hxt (hok.2 _ (gT_mem hka)) (fun h5 s1 s2 => ?_)))))))
                refine go_loc (lv' := [(7, .int (nI k + 1)), (6, .int (nI (seesT (dd t) ((flL (dd t)).getD i 0) (gT acc k)).toNat)), (4, .long x), (3, .int (nI i)), (2, .ref (da t + 20)), (0, .ref (w + 52)), (1, .ref (da t))]) ⟨rfl, rfl, rfl, rfl, rfl, rfl, rfl, trivial⟩ ?_
                rw [← nI_succ]
                exact ih3 (k + 1) _ h5 (by omega) (by rw [any_take hka, ← hb, Bool.false_or]) (fun y hy => (s1 y (by omega)).trans (f4 y hy)) s2
          refine go_loc (lv' := [(7, .int (nI 0)), (6, .int (nI false.toNat)), (4, .long x), (3, .int (nI i)), (2, .ref (da t + 20)), (0, .ref (w + 52)), (1, .ref (da t))]) ⟨rfl, rfl, rfl, rfl, rfl, rfl, rfl, trivial⟩ ?_
          exact inner acc.length 0 false h3 (Nat.zero_add _) rfl (fun y hy => z1 y (by omega)) z2
  refine en_X9_makeSuite hX [20] 40 rfl ?_
  refine Exists.intro _ (And.intro d0 (Exists.intro _ (And.intro rfl ?_)))
  refine Exists.intro _ (And.intro hO (Exists.intro _ (And.intro rfl ?_)))
  refine And.intro (fun _ => ?_) (fun cz => by first | exact absurd cz (by decide) | exact absurd (by decide) cz)
  refine Exists.intro _ (And.intro hO (And.intro (Nat.le_of_ble_eq_true rfl) (And.intro rfl (And.intro rfl ?_))))
  refine go_loc (lv' := [(3, .int (nI 0)), (2, .ref (da t + 20)), (0, .ref (w + 52)), (1, .ref (da t))]) ⟨rfl, rfl, rfl, rfl, trivial⟩ ?_
  refine loop (flL (dd t)).length 0 [] _ nx _ _ (Nat.zero_add _) rfl ⟨by decide, fun p hp => by cases hp⟩ (Nat.le_refl _) (hH.ag (fun y _ _ => uph_ne (by omega))) (hS.ag (fun y _ _ => uph_ne (by omega))) ?_ uph_eq (by rw [kN_0]; exact hL.ag (uph_ne (by omega)) (uph_ne (by omega))) ⟨gs0, (uph_ne (by omega)).trans es0, fun k hk => absurd hk (Nat.not_lt_zero k)⟩ (fun y a b => uph_ne (by omega)) (fun y a b => uph_ne (by omega)) (Nat.sub_self _).symm (Nat.sub_self _).symm
  obtain ⟨qa2, tn2, gq2, gb2, tO2, tq2_, tb2, tQ2, tv2, td2, tx2⟩ := hT
  have q1_ := tQ2.1
  have q2_ := td2 t ht
  exact ⟨qa2, tn2, gq2, gb2, (uph_ne (by omega)).trans tO2, (uph_ne (by omega)).trans tq2_, (uph_ne (by omega)).trans tb2, tQ2, tv2, td2, tx2⟩
