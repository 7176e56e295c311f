/-! suite(), suiteAct(), suiteActs() of x -/
noncomputable def capS (q : Nat) (kn : Nat → Bool) (D : DD) (sc : Int32) : Nat := if sc = -1 then capN q kn D (sFin D).1 else q
theorem capS_ok {q : Nat} {kn : Nat → Bool} {D : DD} {sc : Int32} (hw : WD D) (hq : QV q) : QV (capS q kn D sc) ∧ q ≤ capS q kn D sc := by
  unfold capS
  split
  · exact capN_ok hw hq _ (suL_ok hw).2
  · exact ⟨hq, Nat.le_refl _⟩
set_option maxHeartbeats 8000000 in
theorem x_makeSuiteG {l : Launch} {G : GG} {h : AH} {nx : Nat} {Post : Option Value → AH → Nat → Prop} {o w tl c t vb q0 : Nat} {fp ah sc : Int32} {da : Nat → Nat} {dd : Nat → DD} {kn : Nat → Bool} (hX : XC G ∧ TX l G) (hA : XA h o w tl fp c ah da dd) (hH : XH h w c da dd vb) (hS : XS2 h w c da dd vb) (hT : TRq h w nx c da q0) (hO : FO h (da t) sc) (hL : FLk h (da t) (dd t) kn) (hF : FS h (da t) (dd t) sc) (ht : t < c) (hv : vb + 400 < 2 ^ 31) (hP : ∀ (h1 : AH) (nx1 : Nat) (kn1 : Nat → Bool), nx ≤ nx1 → XH h1 w c da dd (vb + 264) → XS2 h1 w c da dd (vb + 264) → TRq h1 w nx1 c da (capS q0 kn (dd t) sc) → FO h1 (da t) (nI (suL (dd t)).length) → FLk h1 (da t) (dd t) kn1 → FS h1 (da t) (dd t) (nI (suL (dd t)).length) → FWl h h1 w c da (da t + 20) (da t + 27) → h1 (da t + 21) = h (da t + 21) → h1 (da t + 22) = h (da t + 22) → h1 (da t + 23) = h (da t + 23) → Post none h1 nx1) : Runs l G i_X9_makeSuite (gC (capS q0 kn (dd t) sc) - gC q0) (gS (capS q0 kn (dd t) sc) - gS q0) [.ref (w + 52), .ref (da t)] h nx Post := by
  have hdt : isDr w c da dd (da t) (dd t) := Or.inr ⟨t, ht, rfl, rfl⟩
  obtain ⟨hD, hw, _⟩ := hdt.xd hA
  have hsu := suL_ok hw
  have h30 := hsu.1.1
  obtain ⟨_, _, _, _, _, _, _, _, _, _, _, _, _, _, _, _, _, d0, _⟩ := id hD
  obtain ⟨g26, hF2⟩ := id hF
  rcases hF2 with e | ⟨e, F2⟩
  · have ec : capS q0 kn (dd t) sc = capN q0 kn (dd t) (sFin (dd t)).1 := if_pos e
    rw [ec] at hP ⊢
    exact x_makeSuite hX hA hH hS hT hO hL hF e ht hv (fun h1 nx1 y1 y2 y3 y4 y5 y6 y7 y8 y9 y10 y11 => hP h1 nx1 _ y1 y2 y3 y4 y5 y6 y7 y8 y9 y10 y11)
  · have hne : sc ≠ -1 := by
      rw [e]
      exact fun z => absurd (show nI (suL (dd t)).length < 0 from z ▸ (by decide)) (nI_pos (by omega))
    have ec : capS q0 kn (dd t) sc = q0 := if_neg hne
    rw [ec] at hP ⊢
    refine en_X9_makeSuite hX [20] 40 rfl ?_
    refine Exists.intro _ (And.intro d0 (Exists.intro _ (And.intro rfl ?_)))
    refine Exists.intro _ (And.intro hO (Exists.intro _ (And.intro rfl ?_)))
    refine And.intro (fun cz => absurd cz (show ¬ sc < 0 from by rw [e]; exact nI_pos (by omega))) (fun _ => ?_)
    exact hP h nx kn (Nat.le_refl _) (hH.le (by omega)) (hS.le (by omega)) hT (by rw [← e]; exact hO) hL (by rw [← e]; exact hF) (fun _ _ _ => rfl) rfl rfl rfl
def sumA : List TT2 → Nat
  | [] => 0
  | p :: r => p.1 + sumA r
theorem sumA_app (a b : List TT2) : sumA (a ++ b) = sumA a + sumA b := by
  induction a with
  | nil => exact (Nat.zero_add _).symm
  | cons x r ih =>
    show x.1 + sumA (r ++ b) = x.1 + sumA r + sumA b
    rw [ih, Nat.add_assoc]
theorem sumA_take {L : List TT2} {k : Nat} (hk : k < L.length) : sumA (L.take (k + 1)) = sumA (L.take k) + (gT L k).1 := by
  rw [List.take_succ_eq_append_getElem hk, sumA_app, gTD hk]
  rfl
noncomputable def aSuite (D : DD) : Int32 := nI (suL D).length
noncomputable def sTest (D : DD) (k : Int32) : Option TT2 := if 0 ≤ k ∧ k < nI (suL D).length then some (gT (suL D) k.toNatClampNeg) else none
noncomputable def aSuiteAct (D : DD) (k i : Int32) : Int32 := aAt (sTest D k) i
noncomputable def aSuiteActs (D : DD) : Int32 := nI (sumA (suL D))
set_option maxHeartbeats 8000000 in
theorem x_suite {l : Launch} {G : GG} {h : AH} {nx : Nat} {Post : Option Value → AH → Nat → Prop} {o w tl c t vb q0 : Nat} {fp sc : Int32} {da : Nat → Nat} {dd : Nat → DD} {kn : Nat → Bool} (hX : XC G ∧ TX l G) (hA : XA h o w tl fp c (nI t) da dd) (hH : XH h w c da dd vb) (hS : XS2 h w c da dd vb) (hT : TRq h w nx c da q0) (hO : FO h (da t) sc) (hL : FLk h (da t) (dd t) kn) (hF : FS h (da t) (dd t) sc) (ht : t < c) (hv : vb + 400 < 2 ^ 31) (hP : ∀ (h1 : AH) (nx1 : Nat) (kn1 : Nat → Bool), nx ≤ nx1 → XH h1 w c da dd (vb + 264) → XS2 h1 w c da dd (vb + 264) → TRq h1 w nx1 c da (capS q0 kn (dd t) sc) → FO h1 (da t) (nI (suL (dd t)).length) → FLk h1 (da t) (dd t) kn1 → FS h1 (da t) (dd t) (nI (suL (dd t)).length) → FWl h h1 w c da (da t + 20) (da t + 27) → h1 (da t + 21) = h (da t + 21) → h1 (da t + 22) = h (da t + 22) → h1 (da t + 23) = h (da t + 23) → Post (some (.int (aSuite (dd t)))) h1 nx1) : Runs l G i_X11_suite (gC (capS q0 kn (dd t) sc) - gC q0) (gS (capS q0 kn (dd t) sc) - gS q0) [.ref o] h nx Post := by
  have hdt : isDr w c da dd (da t) (dd t) := Or.inr ⟨t, ht, rfl, rfl⟩
  obtain ⟨_, _, _, _, tO_, _⟩ := id hT
  refine en_X11_suite hX [] 40 rfl ?_
  refine Exists.intro _ (And.intro hA.1 (Exists.intro _ (And.intro rfl ?_)))
  refine Exists.intro _ (And.intro hA.1 (Exists.intro 0 (Exists.intro 0 (And.intro (by omega) (And.intro (by omega) (x_current hX hA ht ?_))))))
  refine Exists.intro _ (And.intro tO_ (Exists.intro _ (Exists.intro _ (And.intro (show 0 + 0 + (gC (capS q0 kn (dd t) sc) - gC q0) ≤ _ by omega) (And.intro (show 0 + 0 + (gS (capS q0 kn (dd t) sc) - gS q0) ≤ _ by omega) (x_makeSuiteG hX hA hH hS hT hO hL hF ht hv (fun h1 nx1 kn1 y1 y2 y3 y4 y5 y6 y7 y8 y9 y10 y11 => ?_)))))))
  have hA1 := y8.xa hA ht (by omega) (by omega)
  obtain ⟨_, _, _, _, _, _, _, _, _, _, _, _, _, _, _, _, _, d01, _⟩ := id (hdt.xd hA1).1
  refine Exists.intro _ (And.intro hA1.1 (Exists.intro 0 (Exists.intro 0 (And.intro (by omega) (And.intro (by omega) (x_current hX hA1 ht ?_))))))
  refine Exists.intro _ (And.intro d01 (Exists.intro _ (And.intro rfl ?_)))
  refine Exists.intro _ (And.intro y5 (Exists.intro _ (And.intro rfl ?_)))
  exact And.intro rfl (hP h1 nx1 kn1 y1 y2 y3 y4 y5 y6 y7 y8 y9 y10 y11)
theorem FS.row {h : AH} {d : Nat} {D : DD} (hw : WD D) (hF : FS h d D (nI (suL D).length)) : FSr h d (suL D) := by
  have h30 := (suL_ok hw).1.1
  rcases hF.2 with e | ⟨_, e⟩
  · exact absurd (show nI (suL D).length < 0 from e ▸ (by decide)) (nI_pos (by omega))
  · exact e
set_option maxHeartbeats 8000000 in
theorem x_suiteAct {k i : Int32} {l : Launch} {G : GG} {h : AH} {nx : Nat} {Post : Option Value → AH → Nat → Prop} {o w tl c t vb q0 : Nat} {fp sc : Int32} {da : Nat → Nat} {dd : Nat → DD} {kn : Nat → Bool} (hX : XC G ∧ TX l G) (hA : XA h o w tl fp c (nI t) da dd) (hH : XH h w c da dd vb) (hS : XS2 h w c da dd vb) (hT : TRq h w nx c da q0) (hO : FO h (da t) sc) (hL : FLk h (da t) (dd t) kn) (hF : FS h (da t) (dd t) sc) (ht : t < c) (hv : vb + 400 < 2 ^ 31) (hP : ∀ (h1 : AH) (nx1 : Nat) (kn1 : Nat → Bool), nx ≤ nx1 → XH h1 w c da dd (vb + 264) → XS2 h1 w c da dd (vb + 264) → TRq h1 w nx1 c da (capS q0 kn (dd t) sc) → FO h1 (da t) (nI (suL (dd t)).length) → FLk h1 (da t) (dd t) kn1 → FS h1 (da t) (dd t) (nI (suL (dd t)).length) → FWl h h1 w c da (da t + 20) (da t + 27) → h1 (da t + 21) = h (da t + 21) → h1 (da t + 22) = h (da t + 22) → h1 (da t + 23) = h (da t + 23) → Post (some (.int (aSuiteAct (dd t) k i))) h1 nx1) : Runs l G i_X11_suiteAct (gC (capS q0 kn (dd t) sc) - gC q0) (gS (capS q0 kn (dd t) sc) - gS q0) [.ref o, .int k, .int i] h nx Post := by
  have hdt : isDr w c da dd (da t) (dd t) := Or.inr ⟨t, ht, rfl, rfl⟩
  obtain ⟨_, _, _, _, tO_, _⟩ := id hT
  have hw := (hdt.xd hA).2.1
  have h30 := (suL_ok hw).1.1
  refine en_X11_suiteAct hX [] 40 rfl ?_
  refine Exists.intro _ (And.intro hA.1 (Exists.intro _ (And.intro rfl ?_)))
  refine Exists.intro _ (And.intro hA.1 (Exists.intro 0 (Exists.intro 0 (And.intro (by omega) (And.intro (by omega) (x_current hX hA ht ?_))))))
  refine Exists.intro _ (And.intro tO_ (Exists.intro _ (Exists.intro _ (And.intro (show 0 + 0 + (gC (capS q0 kn (dd t) sc) - gC q0) ≤ _ by omega) (And.intro (show 0 + 0 + (gS (capS q0 kn (dd t) sc) - gS q0) ≤ _ by omega) (x_makeSuiteG hX hA hH hS hT hO hL hF ht hv (fun h1 nx1 kn1 y1 y2 y3 y4 y5 y6 y7 y8 y9 y10 y11 => ?_)))))))
  have hA1 := y8.xa hA ht (by omega) (by omega)
  obtain ⟨_, _, _, _, _, _, _, _, _, _, _, _, _, _, _, _, _, d01, _⟩ := id (hdt.xd hA1).1
  obtain ⟨g, eg, vg⟩ := y7.row hw
  refine Exists.intro _ (And.intro hA1.1 (Exists.intro 0 (Exists.intro 0 (And.intro (by omega) (And.intro (by omega) (x_current hX hA1 ht ?_))))))
  refine Exists.intro _ (And.intro d01 (Exists.intro _ (And.intro rfl ?_)))
  refine Exists.intro _ (And.intro y5 (Exists.intro 0 (Exists.intro 0 (And.intro (by omega) (And.intro (by omega) (x_suiteTest hX y5 rfl rfl eg h30 vg (fun x hx => ?_)))))))
  refine Exists.intro 0 (Exists.intro 0 (And.intro (by omega) (And.intro (by omega) (x_actAt hX hx ?_))))
  exact And.intro rfl (hP h1 nx1 kn1 y1 y2 y3 y4 y5 y6 y7 y8 y9 y10 y11)
set_option maxHeartbeats 8000000 in
theorem x_suiteActs {l : Launch} {G : GG} {h : AH} {nx : Nat} {Post : Option Value → AH → Nat → Prop} {o w tl c t vb q0 : Nat} {fp sc : Int32} {da : Nat → Nat} {dd : Nat → DD} {kn : Nat → Bool} (hX : XC G ∧ TX l G) (hA : XA h o w tl fp c (nI t) da dd) (hH : XH h w c da dd vb) (hS : XS2 h w c da dd vb) (hT : TRq h w nx c da q0) (hO : FO h (da t) sc) (hL : FLk h (da t) (dd t) kn) (hF : FS h (da t) (dd t) sc) (ht : t < c) (hv : vb + 400 < 2 ^ 31) (hP : ∀ (h1 : AH) (nx1 : Nat) (kn1 : Nat → Bool), nx ≤ nx1 → XH h1 w c da dd (vb + 264) → XS2 h1 w c da dd (vb + 264) → TRq h1 w nx1 c da (capS q0 kn (dd t) sc) → FO h1 (da t) (nI (suL (dd t)).length) → FLk h1 (da t) (dd t) kn1 → FS h1 (da t) (dd t) (nI (suL (dd t)).length) → FWl h h1 w c da (da t + 20) (da t + 27) → h1 (da t + 21) = h (da t + 21) → h1 (da t + 22) = h (da t + 22) → h1 (da t + 23) = h (da t + 23) → Post (some (.int (aSuiteActs (dd t)))) h1 nx1) : Runs l G i_X11_suiteActs (gC (capS q0 kn (dd t) sc) - gC q0) (gS (capS q0 kn (dd t) sc) - gS q0) [.ref o] h nx Post := by
  have hdt : isDr w c da dd (da t) (dd t) := Or.inr ⟨t, ht, rfl, rfl⟩
  obtain ⟨_, _, _, _, tO_, _⟩ := id hT
  have hw := (hdt.xd hA).2.1
  have hsu := suL_ok hw
  have h30 := hsu.1.1
  refine en_X11_suiteActs hX [15] 40 rfl ?_
  refine Exists.intro _ (And.intro hA.1 (Exists.intro _ (And.intro rfl ?_)))
  refine Exists.intro _ (And.intro hA.1 (Exists.intro 0 (Exists.intro 0 (And.intro (by omega) (And.intro (by omega) (x_current hX hA ht ?_))))))
  refine Exists.intro _ (And.intro tO_ (Exists.intro _ (Exists.intro _ (And.intro (show 0 + 0 + (gC (capS q0 kn (dd t) sc) - gC q0) ≤ _ by omega) (And.intro (show 0 + 0 + (gS (capS q0 kn (dd t) sc) - gS q0) ≤ _ by omega) (x_makeSuiteG hX hA hH hS hT hO hL hF ht hv (fun h1 nx1 kn1 y1 y2 y3 y4 y5 y6 y7 y8 y9 y10 y11 => ?_)))))))
  have hA1 := y8.xa hA ht (by omega) (by omega)
  obtain ⟨_, _, _, _, _, _, _, _, _, _, _, _, _, _, _, _, _, d01, _⟩ := id (hdt.xd hA1).1
  obtain ⟨g, eg, vg⟩ := y7.row hw
  have hP := hP h1 nx1 kn1 y1 y2 y3 y4 y5 y6 y7 y8 y9 y10 y11
  have loop : ∀ (m k n : Nat), k + m = (suL (dd t)).length → n = sumA ((suL (dd t)).take k) → Go l G 11 s_X11_suiteActs (gC (capS q0 kn (dd t) sc) - gC q0) (gS (capS q0 kn (dd t) sc) - gS q0) Post 15 [(2, .int (nI k)), (1, .int (nI n)), (0, .ref o)] [] h1 nx1 (0 + 0 + (gC (capS q0 kn (dd t) sc) - gC q0)) (0 + 0 + (gS (capS q0 kn (dd t) sc) - gS q0)) := by
    intro m
    induction m with
    | zero =>
      intro k n hk hn
      rw [List.take_of_length_le (by omega)] at hn
      refine Go.of hX.2 ck_X11_suiteActs [15] 30 ?_
      refine Exists.intro _ (And.intro hA1.1 (Exists.intro 0 (Exists.intro 0 (And.intro (by omega) (And.intro (by omega) (x_current hX hA1 ht ?_))))))
      refine Exists.intro _ (And.intro d01 (Exists.intro _ (And.intro rfl ?_)))
      refine Exists.intro _ (And.intro y5 (Exists.intro _ (And.intro rfl ?_)))
      refine And.intro (fun _ => ?_) (fun cz => absurd (nI_le (a := (suL (dd t)).length) (b := k) (by omega) (by omega)) cz)
      unfold aSuiteActs at hP
      rw [← hn] at hP
      exact And.intro rfl (hP)
    | succ m ih =>
      intro k n hk hn
      have hka : k < (suL (dd t)).length := by omega
      refine Go.of hX.2 ck_X11_suiteActs [15] 60 ?_
      refine Exists.intro _ (And.intro hA1.1 (Exists.intro 0 (Exists.intro 0 (And.intro (by omega) (And.intro (by omega) (x_current hX hA1 ht ?_))))))
      refine Exists.intro _ (And.intro d01 (Exists.intro _ (And.intro rfl ?_)))
      refine Exists.intro _ (And.intro y5 (Exists.intro _ (And.intro rfl ?_)))
      refine And.intro (fun cz => absurd cz (nI_ge (a := k) (b := (suL (dd t)).length) hka (by omega))) (fun _ => ?_)
      refine Exists.intro _ (And.intro hA1.1 (Exists.intro 0 (Exists.intro 0 (And.intro (by omega) (And.intro (by omega) (x_current hX hA1 ht ?_))))))
      refine Exists.intro _ (And.intro d01 (Exists.intro _ (And.intro rfl ?_)))
      refine Exists.intro _ (And.intro y5 (Exists.intro 0 (Exists.intro 0 (And.intro (by omega) (And.intro (by omega) (x_suiteTest hX y5 rfl rfl eg h30 vg (fun x hx => ?_)))))))
      rw [if_pos ⟨nI_pos' (by omega), nI_lt hka (by omega)⟩, nI_clamp (by omega)] at hx
      refine Exists.intro 0 (Exists.intro 0 (And.intro (by omega) (And.intro (by omega) (x_actsOf hX hx ?_))))
      refine go_loc (lv' := [(2, .int (nI k + 1)), (1, .int (nI n + nI (aActs (some (gT (suL (dd t)) k))))), (0, .ref o)]) ⟨rfl, rfl, rfl, trivial⟩ ?_
      rw [← nI_succ, nI_add]
      exact ih (k + 1) _ (by omega) (by rw [sumA_take hka, ← hn]; rfl)
  refine go_loc (lv' := [(2, .int (nI 0)), (1, .int (nI 0)), (0, .ref o)]) ⟨rfl, rfl, rfl, trivial⟩ ?_
  exact loop (suL (dd t)).length 0 0 (Nat.zero_add _) rfl
