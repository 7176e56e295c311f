/-! unlike and safe, the model -/
set_option maxHeartbeats 8000000 in
theorem m_unlikeOnes {l : Launch} {G : GG} {h : AH} {nx : Nat} {Post : Option Value → AH → Nat → Prop} {o a b : Nat} {D E : DD} {fs : List Value} (hX : XC G ∧ TX l G) (hM : MA h o fs) (hD : MPg h o a D) (hE : MPg h o b E) (hs : sameP D E) (hP : Post (some (.int (nI (unlk D E)))) h nx) : Runs l G i_X12_unlikeOnes 0 0 [.ref o, .int (nI a), .int (nI b)] h nx Post := by
  have ha := hD.2.2.2.2.2.2.2
  have hb := hE.2.2.2.2.2.2.2
  obtain ⟨eI, eR, eL, _⟩ := hs
  have loop : ∀ (m c : Nat), c + m = 11 → Go l G 12 s_X12_unlikeOnes 0 0 Post 5 [(4, .int (nI c)), (3, .int (nI (bsum (fun c => cirB (dR D) (dL D) c && !decide (dsg D c = dsg E c)) c))), (0, .ref o), (1, .int (nI a)), (2, .int (nI b))] [] h nx 0 0 := by
    intro m
    induction m with
    | zero =>
      intro c hc
      have e : c = 11 := by omega
      subst e
      refine Go.of hX.2 ck_X12_unlikeOnes [5] 20 ?_
      refine And.intro (fun _ => ?_) (fun cz => by first | exact absurd cz (by decide) | exact absurd (by decide) cz)
      exact And.intro rfl (hP)
    | succ m ih =>
      intro c hc
      have ih2 := ih (c + 1) (by omega)
      rw [show bsum (fun c => cirB (dR D) (dL D) c && !decide (dsg D c = dsg E c)) (c + 1) = bsum (fun c => cirB (dR D) (dL D) c && !decide (dsg D c = dsg E c)) c ||| (if (cirB (dR D) (dL D) c && !decide (dsg D c = dsg E c)) = true then 2 ^ c else 0) from rfl, nI_succ] at ih2
      refine Go.of hX.2 ck_X12_unlikeOnes [5] 60 ?_
      refine And.intro (fun cz => absurd cz (nI_ge (a := c) (b := 11) (by omega) (by decide))) (fun _ => ?_)
      refine Exists.intro _ (And.intro hM.1 (Exists.intro 0 (Exists.intro 0 (And.intro (Nat.le_refl _) (And.intro (Nat.le_refl _) (c_isCircuitD hX hM hD.1 (by omega) ?_))))))
      cases cb : cirB (dR D) (dL D) c with
      | false =>
        rw [cb, Bool.false_and, if_neg (by decide), Nat.or_zero] at ih2
        refine And.intro (fun _ => ?_) (fun cz => by first | exact absurd cz (by decide) | exact absurd (by decide) cz)
        exact go_loc (lv' := [(4, .int (nI c + 1)), (3, .int (nI (bsum (fun c => cirB (dR D) (dL D) c && !decide (dsg D c = dsg E c)) c))), (0, .ref o), (1, .int (nI a)), (2, .int (nI b))]) ⟨rfl, rfl, rfl, rfl, rfl, trivial⟩ (ih2)
      | true =>
        refine And.intro (fun cz => by first | exact absurd cz (by decide) | exact absurd (by decide) cz) (fun _ => ?_)
        refine Exists.intro _ (And.intro hM.1 (Exists.intro 0 (Exists.intro 0 (And.intro (Nat.le_refl _) (And.intro (Nat.le_refl _) ?_)))))
        rw [x17, x17]
        refine m_isAlike hX hM hD hE (by omega) cb (by rw [← eR, ← eL]; exact cb) ?_
        by_cases ce : dsg D c = dsg E c
        · rw [cb, decide_eq_true ce, if_neg (by decide), Nat.or_zero] at ih2
          rw [decide_eq_true ce]
          refine And.intro (fun _ => ?_) (fun cz => by first | exact absurd cz (by decide) | exact absurd (by decide) cz)
          exact go_loc (lv' := [(4, .int (nI c + 1)), (3, .int (nI (bsum (fun c => cirB (dR D) (dL D) c && !decide (dsg D c = dsg E c)) c))), (0, .ref o), (1, .int (nI a)), (2, .int (nI b))]) ⟨rfl, rfl, rfl, rfl, rfl, trivial⟩ (ih2)
        · rw [cb, decide_eq_false ce, if_pos (show (true && !false) = true from rfl)] at ih2
          rw [decide_eq_false ce]
          refine And.intro (fun cz => by first | exact absurd cz (by decide) | exact absurd (by decide) cz) (fun _ => ?_)
          have e9 : nI (bsum (fun c => cirB (dR D) (dL D) c && !decide (dsg D c = dsg E c)) c) ||| ((1 : Int32) <<< (nI c &&& 31)) = nI (bsum (fun c => cirB (dR D) (dL D) c && !decide (dsg D c = dsg E c)) c ||| 2 ^ c) := by rw [nx_pow (by omega), nx_or]
          refine go_loc (lv' := [(4, .int (nI c + 1)), (3, .int (nI (bsum (fun c => cirB (dR D) (dL D) c && !decide (dsg D c = dsg E c)) c) ||| ((1 : Int32) <<< (nI c &&& 31)))), (0, .ref o), (1, .int (nI a)), (2, .int (nI b))]) ⟨rfl, rfl, rfl, rfl, rfl, trivial⟩ ?_
          rw [e9]
          exact ih2
  refine en_X12_unlikeOnes hX [5] 20 rfl ?_
  exact go_loc (lv' := [(4, .int (nI 0)), (3, .int (nI 0)), (0, .ref o), (1, .int (nI a)), (2, .int (nI b))]) ⟨rfl, rfl, rfl, rfl, rfl, trivial⟩ (loop 11 0 (Nat.zero_add _))
/-- the model's pages -/
def MPs (h : AH) (o : Nat) (fs : List Value) (c : Nat) (dd : Nat → DD) : Prop := fs[18]? = some (.int (nI c)) ∧ c ≤ 4 ∧ ∀ i, i < c → MPg h o i (dd i) ∧ WD (dd i)
set_option maxHeartbeats 8000000 in
theorem m_isDrawing {l : Launch} {G : GG} {h : AH} {nx : Nat} {Post : Option Value → AH → Nat → Prop} {o c : Nat} {a : Int32} {dd : Nat → DD} {fs : List Value} (hX : XC G ∧ TX l G) (hM : MA h o fs) (hQ : MPs h o fs c dd) (hP : Post (some (.int (nI (inR a c).toNat))) h nx) : Runs l G i_X12_isDrawing 0 0 [.ref o, .int a] h nx Post := by
  refine c_isDrawingM (c := c) hX hM.1 hQ.1 ?_
  have hc := hQ.2.1
  have e : (if 0 ≤ a ∧ a ≤ nI c - 1 then (1 : Int32) else 0) = nI (inR a c).toNat := by
    cases ci : inR a c with
    | true => rw [if_pos ((inR_in (by omega)).mpr ci)]; rfl
    | false => rw [if_neg (fun z => by rw [(inR_in (by omega)).mp z] at ci; cases ci)]; rfl
  rw [e]
  exact hP
set_option maxHeartbeats 8000000 in
theorem m_unlike {l : Launch} {G : GG} {h : AH} {nx : Nat} {Post : Option Value → AH → Nat → Prop} {o c : Nat} {a b : Int32} {dd : Nat → DD} {fs : List Value} (hX : XC G ∧ TX l G) (hM : MA h o fs) (hQ : MPs h o fs c dd) (hP : Post (some (.int (aUnlike c dd a b))) h nx) : Runs l G i_X12_unlike 0 0 [.ref o, .int a, .int b] h nx Post := by
  have hc := hQ.2.1
  unfold aUnlike at hP
  refine en_X12_unlike hX [] 40 rfl ?_
  refine Exists.intro _ (And.intro hM.1 (Exists.intro 0 (Exists.intro 0 (And.intro (Nat.le_refl _) (And.intro (Nat.le_refl _) (m_isDrawing hX hM hQ ?_))))))
  cases c1 : inR a c with
  | false =>
    rw [c1, Bool.false_and, if_neg (by decide)] at hP
    refine And.intro (fun _ => ?_) (fun cz => by first | exact absurd cz (by decide) | exact absurd (by decide) cz)
    exact And.intro rfl (hP)
  | true =>
    rw [c1, Bool.true_and] at hP
    refine And.intro (fun cz => by first | exact absurd cz (by decide) | exact absurd (by decide) cz) (fun _ => ?_)
    refine Exists.intro _ (And.intro hM.1 (Exists.intro 0 (Exists.intro 0 (And.intro (Nat.le_refl _) (And.intro (Nat.le_refl _) (m_isDrawing hX hM hQ ?_))))))
    cases c2 : inR b c with
    | false =>
      rw [c2, if_neg (by decide)] at hP
      refine And.intro (fun cz => by first | exact absurd cz (by decide) | exact absurd (by decide) cz) (fun _ => ?_)
      exact And.intro rfl (hP)
    | true =>
      rw [c2, if_pos rfl] at hP
      refine And.intro (fun _ => ?_) (fun cz => by first | exact absurd cz (by decide) | exact absurd (by decide) cz)
      obtain ⟨i, hi, rfl⟩ := (inR_c (by omega)).mp c1
      obtain ⟨j, hj, rfl⟩ := (inR_c (by omega)).mp c2
      rw [nI_clamp (by omega), nI_clamp (by omega)] at hP
      obtain ⟨hD, hw⟩ := hQ.2.2 i hi
      obtain ⟨hE, hv⟩ := hQ.2.2 j hj
      unfold aUnlk at hP
      refine Exists.intro _ (And.intro hM.1 (Exists.intro 0 (Exists.intro 0 (And.intro (Nat.le_refl _) (And.intro (Nat.le_refl _) (m_isSame hX hM hD hE hw hv ?_))))))
      cases cs : sameB (dd i) (dd j) with
      | false =>
        rw [cs, if_neg (by decide)] at hP
        refine And.intro (fun _ => ?_) (fun cz => by first | exact absurd cz (by decide) | exact absurd (by decide) cz)
        exact And.intro rfl (hP)
      | true =>
        rw [cs, if_pos rfl] at hP
        refine And.intro (fun cz => by first | exact absurd cz (by decide) | exact absurd (by decide) cz) (fun _ => ?_)
        refine Exists.intro _ (And.intro hM.1 (Exists.intro 0 (Exists.intro 0 (And.intro (Nat.le_refl _) (And.intro (Nat.le_refl _) (m_unlikeOnes hX hM hD hE ((sameB_c hw hv).mp cs) ?_))))))
        exact And.intro rfl (hP)
set_option maxHeartbeats 8000000 in
theorem m_safe {l : Launch} {G : GG} {h : AH} {nx : Nat} {Post : Option Value → AH → Nat → Prop} {o c : Nat} {a b x : Int32} {dd : Nat → DD} {fs : List Value} (hX : XC G ∧ TX l G) (hM : MA h o fs) (hS : SHm h o) (hQ : MPs h o fs c dd) (hP : ∀ (h1 : AH) (fs1 : List Value), MH h o fs h1 fs1 → Post (some (.int (aSafe c dd a b x))) h1 nx) : Runs l G i_X12_safe 0 0 [.ref o, .int a, .int b, .int x] h nx Post := by
  have hc := hQ.2.1
  have st := hP h fs (MH.rf hM hS)
  unfold aSafe at hP st
  refine en_X12_safe hX [] 80 rfl ?_
  refine Exists.intro _ (And.intro hM.1 (Exists.intro 0 (Exists.intro 0 (And.intro (Nat.le_refl _) (And.intro (Nat.le_refl _) (m_isDrawing hX hM hQ ?_))))))
  cases c1 : inR a c with
  | false =>
    rw [c1, Bool.false_and, if_neg (by decide)] at st
    refine And.intro (fun _ => ?_) (fun cz => by first | exact absurd cz (by decide) | exact absurd (by decide) cz)
    exact And.intro rfl (st)
  | true =>
    rw [c1, Bool.true_and] at st hP
    refine And.intro (fun cz => by first | exact absurd cz (by decide) | exact absurd (by decide) cz) (fun _ => ?_)
    refine Exists.intro _ (And.intro hM.1 (Exists.intro 0 (Exists.intro 0 (And.intro (Nat.le_refl _) (And.intro (Nat.le_refl _) (m_isDrawing hX hM hQ ?_))))))
    cases c2 : inR b c with
    | false =>
      rw [c2, if_neg (by decide)] at st
      refine And.intro (fun cz => by first | exact absurd cz (by decide) | exact absurd (by decide) cz) (fun _ => ?_)
      exact And.intro rfl (st)
    | true =>
      rw [c2, if_pos rfl] at st hP
      refine And.intro (fun _ => ?_) (fun cz => by first | exact absurd cz (by decide) | exact absurd (by decide) cz)
      obtain ⟨i, hi, rfl⟩ := (inR_c (by omega)).mp c1
      obtain ⟨j, hj, rfl⟩ := (inR_c (by omega)).mp c2
      rw [nI_clamp (by omega), nI_clamp (by omega)] at st hP
      obtain ⟨hD, hw⟩ := hQ.2.2 i hi
      obtain ⟨hE, hv⟩ := hQ.2.2 j hj
      refine Exists.intro _ (And.intro hM.1 (Exists.intro 0 (Exists.intro 0 (And.intro (Nat.le_refl _) (And.intro (Nat.le_refl _) (m_isSame hX hM hD hE hw hv ?_))))))
      cases cs : sameB (dd i) (dd j) with
      | false =>
        rw [cs, if_neg (by decide)] at st
        refine And.intro (fun cz => by first | exact absurd cz (by decide) | exact absurd (by decide) cz) (fun _ => ?_)
        exact And.intro rfl (st)
      | true =>
        rw [cs, if_pos rfl] at st hP
        refine And.intro (fun _ => ?_) (fun cz => by first | exact absurd cz (by decide) | exact absurd (by decide) cz)
        have hsp := (sameB_c hw hv).mp cs
        have hu := unlk_lt (dd i) (dd j)
        by_cases cx : x < 0
        · have cb : subB (unlk (dd i) (dd j)) x = false := by
            cases z : subB (unlk (dd i) (dd j)) x with
            | false => rfl
            | true =>
              obtain ⟨s, hs, rfl, _⟩ := sub_c hu z
              exact absurd cx (nI_pos (by omega))
          rw [cb, if_neg (by decide)] at st
          refine And.intro (fun _ => ?_) (fun cz => absurd (cx) cz)
          exact And.intro rfl (st)
        · refine And.intro (fun cz => absurd cz (cx)) (fun _ => ?_)
          refine Exists.intro _ (And.intro hM.1 (Exists.intro 0 (Exists.intro 0 (And.intro (Nat.le_refl _) (And.intro (Nat.le_refl _) (m_unlikeOnes hX hM hD hE hsp ?_))))))
          cases cb : subB (unlk (dd i) (dd j)) x with
          | false =>
            rw [cb, if_neg (by decide)] at st
            refine And.intro (fun cz => absurd cz (of_decide_eq_false cb)) (fun _ => ?_)
            exact And.intro rfl (st)
          | true =>
            refine And.intro (fun _ => ?_) (fun cz => absurd (of_decide_eq_true cb) cz)
            obtain ⟨s, hs, rfl, hsub⟩ := sub_c hu cb
            have hq := WK_sub hw hv hsp hsub
            refine Exists.intro _ (And.intro hM.1 (Exists.intro 0 (Exists.intro 0 (And.intro (Nat.le_refl _) (And.intro (Nat.le_refl _) (m_isSafe hX hM hS hD hE hq (fun h1 fs1 y => ?_)))))))
            have hP := hP h1 fs1 y
            rw [cb, if_pos rfl, nI_clamp (by omega)] at hP
            cases ck : kSafe (kMix (dd i) (dd j) s) with
            | false =>
              rw [ck] at hP
              refine And.intro (fun _ => ?_) (fun cz => by first | exact absurd cz (by decide) | exact absurd (by decide) cz)
              exact And.intro rfl (hP)
            | true =>
              rw [ck] at hP
              refine And.intro (fun cz => by first | exact absurd cz (by decide) | exact absurd (by decide) cz) (fun _ => ?_)
              exact And.intro rfl (hP)
