/-! unlike, on both sides -/
theorem unlk_tb {D E : DD} (c : Nat) : (unlk D E).testBit c = (decide (c < 11) && !alkB D E c) := by
  unfold unlk alkB
  rw [bsum_tb, Bool.not_not]
theorem unlk_lt (D E : DD) : unlk D E < 2048 := bsum_lt _ 11
set_option maxHeartbeats 8000000 in
theorem x_unlikeBits {l : Launch} {G : GG} {h : AH} {nx : Nat} {Post : Option Value → AH → Nat → Prop} {a b : Nat} {D E : DD} (hX : XC G ∧ TX l G) (hD : XD h a D) (hE : XD h b E) (hw : WD D) (hv : WD E) (hP : Post (some (.int (aUnlk D E))) h nx) : Runs l G i_X0_unlikeBits 0 0 [.ref a, .ref b] h nx Post := by
  obtain ⟨cc, g2, g3, g4, g5, g10, g13, g14, g16, g17, g18, g19, g27, g28, g1, g11, g12, d0, d6, d1, d2, d3, d4, d5, _, _, _, _, _, _, _, _, _, _, _, _, _, _, _, _, _, _, p8, p9⟩ := id hD
  obtain ⟨ec, k2, k3, k4, k5, k10, k13, k14, k16, k17, k18, k19, k27, k28, k1, k11, k12, e0, e6, e1, e2, e3, e4, e5, _, _, _, _, _, _, _, _, _, _, _, _, _, _, _, _, _, _, q8, q9⟩ := id hE
  unfold aUnlk at hP
  have slt : ∀ (F : DD), WD F → ∀ i, i < 16 → itS F i < 10 := fun F hF i hi => by
    by_cases c1 : i < 6
    · rw [(it_r c1).2]
      split
      · exact hF.s i (by assumption)
      · omega
    · by_cases c2 : i < 11
      · obtain ⟨k, rfl⟩ : ∃ k, i = 6 + k := ⟨i - 6, by omega⟩
        rw [(it_l (by omega)).2]
        split
        · split <;> omega
        · omega
      · obtain ⟨k, rfl⟩ : ∃ k, i = 11 + k := ⟨i - 11, by omega⟩
        rw [(it_i (by omega)).2]
        split
        · split <;> omega
        · omega
  have loop2 : sameB D E = true → ∀ (m c : Nat), c + m = 11 → Go l G 0 s_X0_unlikeBits 0 0 Post 52 [(3, .int (nI c)), (2, .int (nI (bsum (fun c => cirB (dR D) (dL D) c && !decide (dsg D c = dsg E c)) c))), (0, .ref a), (1, .ref b)] [] h nx 0 0 := by
    intro hs m
    rw [if_pos hs] at hP
    have hsp := (sameB_c hw hv).mp hs
    induction m with
    | zero =>
      intro c hc
      have e : c = 11 := by omega
      subst e
      refine Go.of hX.2 ck_X0_unlikeBits [52] 20 ?_
      refine And.intro (fun _ => ?_) (fun cz => by first | exact absurd cz (by decide) | exact absurd (by decide) cz)
      exact And.intro rfl (hP)
    | succ m ih =>
      intro c hc
      have ih2 := ih (c + 1) (by omega)
      rw [show bsum (fun c => cirB (dR D) (dL D) c && !decide (dsg D c = dsg E c)) (c + 1) = bsum (fun c => cirB (dR D) (dL D) c && !decide (dsg D c = dsg E c)) c ||| (if (cirB (dR D) (dL D) c && !decide (dsg D c = dsg E c)) = true then 2 ^ c else 0) from rfl, nI_succ] at ih2
      refine Go.of hX.2 ck_X0_unlikeBits [52] 40 ?_
      refine And.intro (fun cz => absurd cz (nI_ge (a := c) (b := 11) (by omega) (by decide))) (fun _ => ?_)
      refine Exists.intro _ (And.intro d0 (Exists.intro 0 (Exists.intro 0 (And.intro (Nat.le_refl _) (And.intro (Nat.le_refl _) (x_hasSameCircuit hX hD hE hw hv hsp (by omega) ?_))))))
      unfold alkB
      cases ca : (cirB (dR D) (dL D) c && !decide (dsg D c = dsg E c)) with
      | false =>
        rw [ca, if_neg (by decide), Nat.or_zero] at ih2
        refine And.intro (fun _ => ?_) (fun cz => by first | exact absurd cz (by decide) | exact absurd (by decide) cz)
        exact go_loc (lv' := [(3, .int (nI c + 1)), (2, .int (nI (bsum (fun c => cirB (dR D) (dL D) c && !decide (dsg D c = dsg E c)) c))), (0, .ref a), (1, .ref b)]) ⟨rfl, rfl, rfl, rfl, trivial⟩ (ih2)
      | true =>
        rw [ca, if_pos rfl] at ih2
        refine And.intro (fun cz => by first | exact absurd cz (by decide) | exact absurd (by decide) cz) (fun _ => ?_)
        have e9 : nI (bsum (fun c => cirB (dR D) (dL D) c && !decide (dsg D c = dsg E c)) c) ||| ((1 : Int32) <<< (nI c &&& 31)) = nI (bsum (fun c => cirB (dR D) (dL D) c && !decide (dsg D c = dsg E c)) c ||| 2 ^ c) := by rw [nx_pow (by omega), nx_or]
        refine go_loc (lv' := [(3, .int (nI c + 1)), (2, .int (nI (bsum (fun c => cirB (dR D) (dL D) c && !decide (dsg D c = dsg E c)) c) ||| ((1 : Int32) <<< (nI c &&& 31)))), (0, .ref a), (1, .ref b)]) ⟨rfl, rfl, rfl, rfl, trivial⟩ ?_
        rw [e9]
        exact ih2
  have loop : ∀ (m i : Nat), i + m = 16 → (∀ j, j < i → itN D j = itN E j ∧ itS D j = itS E j) → Go l G 0 s_X0_unlikeBits 0 0 Post 2 [(2, .int (nI i)), (0, .ref a), (1, .ref b)] [] h nx 0 0 := by
    intro m
    induction m with
    | zero =>
      intro i hi hall
      have e : i = 16 := by omega
      subst e
      have hs : sameB D E = true := by
        unfold sameB
        rw [List.all_eq_true]
        intro j hj
        have := hall j (List.mem_range.mp hj)
        rw [Bool.and_eq_true, decide_eq_true_eq, decide_eq_true_eq]
        exact this
      refine Go.of hX.2 ck_X0_unlikeBits [52] 20 ?_
      refine And.intro (fun _ => ?_) (fun cz => by first | exact absurd cz (by decide) | exact absurd (by decide) cz)
      exact go_loc (lv' := [(3, .int (nI 0)), (2, .int (nI 0)), (0, .ref a), (1, .ref b)]) ⟨rfl, rfl, rfl, rfl, trivial⟩ (loop2 hs 11 0 (Nat.zero_add _))
    | succ m ih =>
      intro i hi hall
      have no : (¬ (itN D i = itN E i ∧ itS D i = itS E i)) → Post (some (.int (-2))) h nx := fun z => by
        rw [if_neg (fun hs => by
          unfold sameB at hs
          rw [List.all_eq_true] at hs
          have := hs i (List.mem_range.mpr (by omega))
          rw [Bool.and_eq_true, decide_eq_true_eq, decide_eq_true_eq] at this
          exact z this)] at hP
        exact hP
      refine Go.of hX.2 ck_X0_unlikeBits [2] 60 ?_
      refine And.intro (fun cz => absurd cz (nI_ge (a := i) (b := 16) (by omega) (by decide))) (fun _ => ?_)
      refine Exists.intro _ (And.intro d0 (Exists.intro _ (And.intro rfl ?_)))
      refine Exists.intro _ (Exists.intro _ (And.intro d1 (And.intro (vp_in_nI (by omega) (by decide)) ?_)))
      rw [nI_clamp (show i < 2 ^ 31 by omega), (p8 i (by omega)).1]
      refine Exists.intro _ (And.intro e0 (Exists.intro _ (And.intro rfl ?_)))
      refine Exists.intro _ (Exists.intro _ (And.intro e1 (And.intro (vp_in_nI (by omega) (by decide)) ?_)))
      rw [nI_clamp (show i < 2 ^ 31 by omega), (q8 i (by omega)).1]
      by_cases c1 : itN D i = itN E i
      · refine And.intro (fun cz => absurd (cmp_eq.mpr c1) cz) (fun _ => ?_)
        refine Exists.intro _ (And.intro d0 (Exists.intro _ (And.intro rfl ?_)))
        refine Exists.intro _ (Exists.intro _ (And.intro d2 (And.intro (vp_in_nI (by omega) (by decide)) ?_)))
        rw [nI_clamp (show i < 2 ^ 31 by omega), (p8 i (by omega)).2]
        refine Exists.intro _ (And.intro e0 (Exists.intro _ (And.intro rfl ?_)))
        refine Exists.intro _ (Exists.intro _ (And.intro e2 (And.intro (vp_in_nI (by omega) (by decide)) ?_)))
        rw [nI_clamp (show i < 2 ^ 31 by omega), (q8 i (by omega)).2]
        by_cases c2 : itS D i = itS E i
        · refine And.intro (fun _ => ?_) (fun cz => absurd (show nI (itS D i) = nI (itS E i) from by rw [c2]) cz)
          refine go_loc (lv' := [(2, .int (nI i + 1)), (0, .ref a), (1, .ref b)]) ⟨rfl, rfl, rfl, trivial⟩ ?_
          rw [← nI_succ]
          exact ih (i + 1) (by omega) (fun j hj => by
            by_cases e : j = i
            · rw [e]; exact ⟨c1, c2⟩
            · exact hall j (by omega))
        · have s1 := slt D hw i (by omega)
          have s2 := slt E hv i (by omega)
          refine And.intro (fun cz => absurd cz (fun z => c2 ((nI_eq (by omega) (by omega)).mp z))) (fun _ => ?_)
          exact And.intro rfl ((no (fun z => c2 z.2)))
      · refine And.intro (fun _ => ?_) (fun cz => absurd cz (fun z => c1 (cmp_eq.mp z)))
        exact And.intro rfl ((no (fun z => c1 z.1)))
  refine en_X0_unlikeBits hX [2] 20 rfl ?_
  exact go_loc (lv' := [(2, .int (nI 0)), (0, .ref a), (1, .ref b)]) ⟨rfl, rfl, rfl, trivial⟩ (loop 16 0 (Nat.zero_add _) (fun j hj => absurd hj (Nat.not_lt_zero j)))
set_option maxHeartbeats 8000000 in
theorem x_drawingOf {l : Launch} {G : GG} {h : AH} {nx : Nat} {Post : Option Value → AH → Nat → Prop} {o w tl c t : Nat} {fp ah : Int32} {da : Nat → Nat} {dd : Nat → DD} (hX : XC G ∧ TX l G) (hA : XA h o w tl fp c ah da dd) (ht : t < c) (hP : Post (some (.ref (da t))) h nx) : Runs l G i_X11_drawingOf 0 0 [.ref o, .int (nI t)] h nx Post := by
  obtain ⟨a1, ⟨df, a2, a3⟩, a4, a5, a6, a7, a8⟩ := hA
  refine c_drawingOf (c := c) (d := nI t) hX a1 rfl rfl rfl a4 a2 (fun i hi => ⟨_, a3 i hi⟩) ?_
  rw [show drOf df (w + 1) c (nI t) = da t from by
    unfold drOf
    rw [if_pos ⟨nI_pos' (by omega), nI_lt ht (by omega)⟩, nI_clamp (by omega), a3 t ht]
    rfl]
  exact hP
set_option maxHeartbeats 8000000 in
theorem x_isDrawing {l : Launch} {G : GG} {h : AH} {nx : Nat} {Post : Option Value → AH → Nat → Prop} {o w tl c : Nat} {fp ah d : Int32} {da : Nat → Nat} {dd : Nat → DD} (hX : XC G ∧ TX l G) (hA : XA h o w tl fp c ah da dd) (hP : Post (some (.int (nI (inR d c).toNat))) h nx) : Runs l G i_X11_isDrawing 0 0 [.ref o, .int d] h nx Post := by
  refine c_isDrawing (c := c) hX hA.1 rfl ?_
  have e : (if 0 ≤ d ∧ d < nI c then (1 : Int32) else 0) = nI (inR d c).toNat := by
    unfold inR
    by_cases c1 : 0 ≤ d
    · by_cases c2 : d < nI c
      · rw [if_pos ⟨c1, c2⟩, decide_eq_true c1, decide_eq_true c2]; rfl
      · rw [if_neg (fun z => c2 z.2), decide_eq_true c1, decide_eq_false c2]; rfl
    · rw [if_neg (fun z => c1 z.1), decide_eq_false c1]; rfl
  rw [e]
  exact hP
def aUnlike (c : Nat) (dd : Nat → DD) (a b : Int32) : Int32 := if (inR a c && inR b c) = true then aUnlk (dd a.toNatClampNeg) (dd b.toNatClampNeg) else -1
set_option maxHeartbeats 8000000 in
theorem x_unlike {l : Launch} {G : GG} {h : AH} {nx : Nat} {Post : Option Value → AH → Nat → Prop} {o w tl c : Nat} {fp ah a b : Int32} {da : Nat → Nat} {dd : Nat → DD} (hX : XC G ∧ TX l G) (hA : XA h o w tl fp c ah da dd) (hP : Post (some (.int (aUnlike c dd a b))) h nx) : Runs l G i_X11_unlike 0 0 [.ref o, .int a, .int b] h nx Post := by
  have hc := hA.2.2.1
  unfold aUnlike at hP
  refine en_X11_unlike hX [] 40 rfl ?_
  refine Exists.intro _ (And.intro hA.1 (Exists.intro 0 (Exists.intro 0 (And.intro (Nat.le_refl _) (And.intro (Nat.le_refl _) (x_isDrawing hX hA ?_))))))
  cases c1 : inR a c with
  | false =>
    rw [c1, Bool.false_and, if_neg (by decide)] at hP
    refine And.intro (fun _ => ?_) (fun cz => by first | exact absurd cz (by decide) | exact absurd (by decide) cz)
    exact And.intro rfl (hP)
  | true =>
    rw [c1, Bool.true_and] at hP
    refine And.intro (fun cz => by first | exact absurd cz (by decide) | exact absurd (by decide) cz) (fun _ => ?_)
    refine Exists.intro _ (And.intro hA.1 (Exists.intro 0 (Exists.intro 0 (And.intro (Nat.le_refl _) (And.intro (Nat.le_refl _) (x_isDrawing hX hA ?_))))))
    cases c2 : inR b c with
    | false =>
      rw [c2, if_neg (by decide)] at hP
      refine And.intro (fun cz => by first | exact absurd cz (by decide) | exact absurd (by decide) cz) (fun _ => ?_)
      exact And.intro rfl (hP)
    | true =>
      rw [c2, if_pos rfl] at hP
      refine And.intro (fun _ => ?_) (fun cz => by first | exact absurd cz (by decide) | exact absurd (by decide) cz)
      obtain ⟨i, hi, rfl⟩ := (inR_c (by omega)).mp c1
      obtain ⟨j, hj, rfl⟩ := (inR_c (by omega)).mp c2
      rw [nI_clamp (by omega), nI_clamp (by omega)] at hP
      obtain ⟨hD, hw, _⟩ := (show isDr w c da dd (da i) (dd i) from Or.inr ⟨i, hi, rfl, rfl⟩).xd hA
      obtain ⟨hE, hv, _⟩ := (show isDr w c da dd (da j) (dd j) from Or.inr ⟨j, hj, rfl, rfl⟩).xd hA
      obtain ⟨cc, g2, g3, g4, g5, g10, g13, g14, g16, g17, g18, g19, g27, g28, g1, g11, g12, d0, _⟩ := id hD
      refine Exists.intro _ (And.intro hA.1 (Exists.intro 0 (Exists.intro 0 (And.intro (Nat.le_refl _) (And.intro (Nat.le_refl _) (x_drawingOf hX hA hi ?_))))))
      refine Exists.intro _ (And.intro hA.1 (Exists.intro 0 (Exists.intro 0 (And.intro (Nat.le_refl _) (And.intro (Nat.le_refl _) (x_drawingOf hX hA hj ?_))))))
      refine Exists.intro _ (And.intro d0 (Exists.intro 0 (Exists.intro 0 (And.intro (Nat.le_refl _) (And.intro (Nat.le_refl _) (x_unlikeBits hX hD hE hw hv ?_))))))
      exact And.intro rfl (hP)
