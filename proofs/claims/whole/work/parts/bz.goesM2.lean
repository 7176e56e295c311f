/-! the model reads: goes -/
theorem PFl.s49 {h : AH} {o f q : Nat} {fs : List Value} {v : Int32} (P : PFl h o fs f q) : PFl (uph h o (.inr (12, fs.set 49 (.int v)))) o (fs.set 49 (.int v)) f q := by
  obtain ⟨a, b, c13, c14, f0, f5, t, ht, c11, ⟨x, c12⟩, ⟨y, c49⟩, ⟨y1, c41⟩, ⟨y2, c43⟩, y3, c16⟩ := P
  exact ⟨a.pst (by omega), b.obj, by rw [get_set_ne (by omega)]; exact c13, by rw [get_set_ne (by omega)]; exact c14, f0, f5, t, ht, by rw [get_set_ne (by omega)]; exact c11, ⟨x, by rw [get_set_ne (by omega)]; exact c12⟩, ⟨v, get_set (by rw [a.2.1]; decide)⟩, ⟨y1, by rw [get_set_ne (by omega)]; exact c41⟩, ⟨y2, by rw [get_set_ne (by omega)]; exact c43⟩, y3, by rw [get_set_ne (by omega)]; exact c16⟩
theorem PFl.s12 {h : AH} {o f q : Nat} {fs : List Value} {v : Int32} (P : PFl h o fs f q) : PFl (uph h o (.inr (12, fs.set 12 (.int v)))) o (fs.set 12 (.int v)) f q := by
  obtain ⟨a, b, c13, c14, f0, f5, t, ht, c11, ⟨x, c12⟩, ⟨y, c49⟩, ⟨y1, c41⟩, ⟨y2, c43⟩, y3, c16⟩ := P
  exact ⟨a.pst (by omega), b.obj, by rw [get_set_ne (by omega)]; exact c13, by rw [get_set_ne (by omega)]; exact c14, f0, f5, t, ht, by rw [get_set_ne (by omega)]; exact c11, ⟨v, get_set (by rw [a.2.1]; decide)⟩, ⟨y, by rw [get_set_ne (by omega)]; exact c49⟩, ⟨y1, by rw [get_set_ne (by omega)]; exact c41⟩, ⟨y2, by rw [get_set_ne (by omega)]; exact c43⟩, y3, by rw [get_set_ne (by omega)]; exact c16⟩
theorem wtop {g : Nat → Int32} {W : List Nat} {q : Nat} (hr : rowP g W) (hw : wpl W) (hq : q < 100) : (decide (0 < W.length) && decide (g (W.length - 1) = nI q)) = decide (W.head? = some q) := by
  cases W with
  | nil => rfl
  | cons k W =>
    obtain ⟨h1, _⟩ := hr
    obtain ⟨h2, _⟩ := hw
    have hk : k < 100 := by rcases h2 with z | ⟨z, _⟩ | ⟨z, _⟩ <;> omega
    show (decide (0 < W.length + 1) && decide (g (W.length + 1 - 1) = nI q)) = decide (some k = some q)
    rw [decide_eq_true (show 0 < W.length + 1 by omega), Bool.true_and, Nat.add_sub_cancel, h1]
    refine decide_eq_decide.mpr ⟨fun z => ?_, fun z => ?_⟩
    · rw [(nI_eq (by omega) (by omega)).mp z]
    · injection z with z
      rw [z]
theorem GSt.k27 {h h1 : AH} {fs fs1 : List Value} {g : Nat → Int32} {o cd sg wa wo t op : Nat} {wp : Int32} {W c : List Nat} (S : GSt h fs g o cd sg wa wo wp h1 fs1 t op W c) : ∃ g27 : Nat → Int32, h1 (o + 1 + 27) = some (.inl (0, 2100, .inl g27)) ∧ ∀ x, x < cd → g27 x = g x := by
  obtain ⟨a, _, ⟨g27, c1, c2, _⟩, _⟩ := S
  exact ⟨g27, c1, c2⟩
def kkN (u : Nat → Nat) (n t : Nat) : Nat := mkK (kdN u n t)
set_option maxHeartbeats 8000000 in
theorem m_goes {l : Launch} {G : GG} {h : AH} {nx : Nat} {Post : Option Value → AH → Nat → Prop} {o n m cd sg wa wo t0 op0 : Nat} {wp : Int32} {u : Nat → Nat} {g : Nat → Int32} {h0 : AH} {fs fs0 : List Value} {W0 c0 : List Nat} (hX : XC G ∧ TX l G) (hS : GSt h0 fs0 g o cd sg wa wo wp h fs t0 op0 W0 c0) (hT : tokM h0 o u n m) (hu : ∀ i, u i < 256) (ht : t0 < m) (hm : m ≤ 401) (hE : tkEnd u n m) (hW : wpl W0) (hop : op0 = opC W0) (hL : W0.length < 420) (hcd : cd + c0.length + W0.length ≤ 2100) (hB : ∀ (b : Bool) (f t : Nat) (x : List Nat × List Nat) (h1 : AH) (fs1 : List Value), gsP (kkN u n) (W0.length + 1) t0 W0 c0 = ((0, f), t, x) → PFl h1 o fs1 f (plN u n t) → pfF fs0 fs1 → (∀ x, x ≠ o → x ≠ o + 1 + 27 → x ≠ o + 1 + 31 → h1 x = h0 x) → (∃ g27 : Nat → Int32, h1 (o + 1 + 27) = some (.inl (0, 2100, .inl g27)) ∧ ∀ x, x < cd → g27 x = g x) → Post (some (.int (nI b.toNat))) h1 nx) (hN : ∀ (t : Nat) (c : List Nat) (h1 : AH) (fs1 : List Value), gsP (kkN u n) (W0.length + 1) t0 W0 c0 = ((1, 0), t, [], c) → GSt h0 fs0 g o cd sg wa wo wp h1 fs1 t 0 [] c → t < m → Post (some (.int 0)) h1 nx) (hP : ∀ (t : Nat) (W c : List Nat) (h1 : AH) (fs1 : List Value), gsP (kkN u n) (W0.length + 1) t0 W0 c0 = ((2, 0), t, W, c) → GSt h0 fs0 g o cd sg wa wo wp h1 fs1 t (opC W) W c → t < m → Post (some (.int 1)) h1 nx) : Runs l G i_X12_goes 0 0 [.ref o] h nx Post := by
  have TT : ∀ {h1 : AH} {fs1 : List Value} {t op : Nat} {W c : List Nat}, GSt h0 fs0 g o cd sg wa wo wp h1 fs1 t op W c → tokM h1 o u n m := fun S => hT.ag (fun x x1 x2 => S.2.2.2.2 x (by omega) (by omega) (by omega))
  have loop : ∀ (f t op : Nat) (W c : List Nat) (h1 : AH) (fs1 : List Value), W.length < f → GSt h0 fs0 g o cd sg wa wo wp h1 fs1 t op W c → t < m → wpl W → op = opC W → W.length < 420 → cd + c.length + W.length ≤ 2100 → gsP (kkN u n) (W0.length + 1) t0 W0 c0 = gsP (kkN u n) f t W c → Go l G 12 s_X12_goes 0 0 Post 0 [(0, .ref o)] [] h1 nx 0 0 := by
    intro f
    induction f with
    | zero => intro t op W c h1 fs1 hf; exact absurd hf (Nat.not_lt_zero _)
    | succ f ih =>
      intro t op W c h1 fs1 hf S htm hw ho hL2 hc2 eR
      obtain ⟨w1, w2, w3, w4⟩ := gsA_w (q := kkN u n t) hw
      have eG : gsP (kkN u n) (f + 1) t W c = if kkN u n t = 9 ∨ kkN u n t = 10 then (if t = 400 then ((0, 2), t, W, c) else ((2, 0), t + 1, kkN u n t :: (gsA (kkN u n t) W).1, c ++ (gsA (kkN u n t) W).2)) else if (gsA (kkN u n t) W).1 = [] then ((1, 0), t, [], c ++ (gsA (kkN u n t) W).2) else if kkN u n t = 7 then (if t = 400 then ((0, 2), t, W, c) else gsP (kkN u n) f (t + 1) (gsA (kkN u n t) W).1.tail (c ++ (gsA (kkN u n t) W).2)) else ((0, 1), t, W, c) := rfl
      rw [eG] at eR
      have isK : ∀ {h2 : AH} {fs2 : List Value} {W2 c2 : List Nat} (k : Nat), k < 100 → GSt h0 fs0 g o cd sg wa wo wp h2 fs2 t op W2 c2 → ∀ {P2 : Option Value → AH → Nat → Prop}, P2 (some (.int (nI (decide (kkN u n t = k)).toNat))) h2 nx → Runs l G i_X12_is 0 0 [.ref o, .int (nI k)] h2 nx P2 := fun k hk S2 _ hp => m_is hX S2.1 (TT S2) hu htm hm hk hp
      have at66 : ∀ (h2 : AH) (fs2 : List Value) (W2 c2 : List Nat), W2 = (gsA (kkN u n t) W).1 → c2 = c ++ (gsA (kkN u n t) W).2 → cd + c2.length + W2.length ≤ 2100 → GSt h0 fs0 g o cd sg wa wo wp h2 fs2 t op W2 c2 → Go l G 12 s_X12_goes 0 0 Post 66 [(0, .ref o)] [] h2 nx 0 0 := by
        intro h2 fs2 W2 c2 eW ec hc3 S2
        have c49 : fs2[49]? = some (.int (nI W2.length)) := S2.1.2.2.2.2.2.2.2.2.1
        have c11 : fs2[11]? = some (.int (nI t)) := S2.1.2.2.2.1
        have c12 : fs2[12]? = some (.int (nI op)) := S2.1.2.2.2.2.1
        have hM2 := S2.1.1
        rw [← eW] at w1 w2 w3 w4 eR
        rw [← ec] at eR
        have at84 : (kkN u n t = 9 ∨ kkN u n t = 10) → Go l G 12 s_X12_goes 0 0 Post 84 [(0, .ref o)] [] h2 nx 0 0 := by
          intro hk
          rw [if_pos hk] at eR
          obtain ⟨g31, b1, b2⟩ := S2.2.1
          obtain ⟨g2, g3, g4, g5, a2, a3, a4, a5, p⟩ := id (TT S2)
          have S3 := S2.push (k := kkN u n t) b1 b2
          have hM3 : MA (uph h2 (o + 1 + 31) (.inl (0, 420, .inl (upd g31 W2.length (nI (kkN u n t)))))) o fs2 := hM2.keep (uph_ne (by omega))
          refine Go.of hX.2 ck_X12_goes [] 40 ?_
          refine Exists.intro _ (And.intro hM2.1 (Exists.intro _ (And.intro (hM2.2.2 31 (by decide)) ?_)))
          refine Exists.intro _ (And.intro hM2.1 (Exists.intro _ (And.intro c49 ?_)))
          refine Exists.intro _ (And.intro hM2.1 (Exists.intro _ (And.intro (hM2.2.2 2 (by decide)) ?_)))
          refine Exists.intro _ (And.intro hM2.1 (Exists.intro _ (And.intro c11 ?_)))
          refine Exists.intro _ (Exists.intro _ (And.intro a2 (And.intro (vp_in_nI (show t < 403 by omega) (by decide)) ?_)))
          rw [nI_clamp (show t < 2 ^ 31 by omega), (p t htm).1]
          refine Exists.intro _ (Exists.intro _ (And.intro b1 (And.intro (vp_in_nI (show W2.length < 420 by omega) (by decide)) ?_)))
          rw [nI_clamp (show W2.length < 2 ^ 31 by omega)]
          refine Exists.intro _ (And.intro hM3.1 (Exists.intro _ (And.intro c49 ?_)))
          refine Exists.intro _ (And.intro hM3.1 (And.intro (by rw [hM2.2.1]; decide) (And.intro rfl (And.intro rfl ?_))))
          rw [show nI W2.length + 1 = nI (W2.length + 1) from (nI_succ _).symm]
          refine Exists.intro _ (And.intro S3.1.1.1 (Exists.intro 0 (Exists.intro 0 (And.intro (Nat.le_refl _) (And.intro (Nat.le_refl _) (m_goesOn hX S3.1 (TT S3) htm hm (fun e h3 fs3 z1 z2 z3 => ?_) (fun e h3 fs3 z1 z2 z3 => ?_)))))))
          · rw [if_pos e] at eR
            exact And.intro rfl ((hB true 2 t _ h3 fs3 eR z1 (S3.2.2.2.1.tr z2) (fun x x1 x2 x3 => (z3 x x1).trans (S3.2.2.2.2 x x1 x2 x3)) (S3.k27.imp (fun _ hh => ⟨(z3 _ (by omega)).trans hh.1, hh.2⟩))))
          · rw [if_neg (by omega)] at eR
            have S4 := S3.go z1 z2 z3
            have k0 : kdN u n t ≠ 0 := fun z => by
              unfold kkN at hk
              rw [z] at hk
              have : mkK 0 = 0 := rfl
              omega
            have e6 : op = opC (kkN u n t :: W2) := by
              show op = (if kkN u n t = 6 then 1 else 0) + opC W2
              rw [if_neg (by omega)]
              omega
            rw [e6] at S4
            exact And.intro rfl ((hP (t + 1) _ _ h3 fs3 eR S4 (hE.s htm k0 e)))
        refine Go.of hX.2 ck_X12_goes [0, 84] 60 ?_
        refine Exists.intro _ (And.intro hM2.1 (Exists.intro 0 (Exists.intro 0 (And.intro (Nat.le_refl _) (And.intro (Nat.le_refl _) (isK 9 (by decide) S2 ?_))))))
        by_cases c9 : kkN u n t = 9
        · rw [decide_eq_true c9]
          refine And.intro (fun _ => ?_) (fun cz => by first | exact absurd cz (by decide) | exact absurd (by decide) cz)
          exact go_loc (lv' := [(0, .ref o)]) ⟨rfl, trivial⟩ (at84 (Or.inl c9))
        · rw [decide_eq_false c9]
          refine And.intro (fun cz => by first | exact absurd cz (by decide) | exact absurd (by decide) cz) (fun _ => ?_)
          refine Exists.intro _ (And.intro hM2.1 (Exists.intro 0 (Exists.intro 0 (And.intro (Nat.le_refl _) (And.intro (Nat.le_refl _) (isK 10 (by decide) S2 ?_))))))
          by_cases c10 : kkN u n t = 10
          · rw [decide_eq_true c10]
            refine And.intro (fun cz => by first | exact absurd cz (by decide) | exact absurd (by decide) cz) (fun _ => ?_)
            exact go_loc (lv' := [(0, .ref o)]) ⟨rfl, trivial⟩ (at84 (Or.inr c10))
          · rw [decide_eq_false c10]
            refine And.intro (fun _ => ?_) (fun cz => by first | exact absurd cz (by decide) | exact absurd (by decide) cz)
            rw [if_neg (by omega)] at eR
            refine Exists.intro _ (And.intro hM2.1 (Exists.intro _ (And.intro c49 ?_)))
            cases W2 with
            | nil =>
              rw [if_pos rfl] at eR
              refine And.intro (fun cz => by first | exact absurd cz (by decide) | exact absurd (by decide) cz) (fun _ => ?_)
              have e0 : op = 0 := by rw [ho, ← w2]; rfl
              rw [e0] at S2
              exact And.intro rfl ((hN t c2 h2 fs2 eR S2 htm))
            | cons k W3 =>
              rw [if_neg (fun z => by cases z)] at eR
              have k6 : k = 6 := by
                rcases w4 with z | z | z
                · cases z
                · injection z
                · exact absurd z.1 c9
              subst k6
              have eop : op = opC W3 + 1 := by
                have : opC (6 :: W3) = 1 + opC W3 := rfl
                omega
              have wl : W3.length + 1 ≤ W.length := w3
              refine And.intro (fun _ => ?_) (fun cz => absurd cz (fun z => by have := (nI_eq (a := W3.length + 1) (b := 0) (by omega) (by omega)).mp z; omega))
              have pop1 : nI (W3.length + 1) - 1 = nI W3.length := by rw [nI_succ, Int32.add_sub_cancel]
              have pop2 : nI op - 1 = nI (opC W3) := by rw [eop, nI_succ, Int32.add_sub_cancel]
              refine Exists.intro _ (And.intro hM2.1 (Exists.intro 0 (Exists.intro 0 (And.intro (Nat.le_refl _) (And.intro (Nat.le_refl _) (m_must (k := 7) hX S2.1 (TT S2) hu htm hm (by decide) (fun f2 h3 fs3 z0 z1 z2 z3 => ?_) (fun z0 tl h3 fs3 z1 z2 z3 => ?_)))))))
              · have fb := z1.2.2.2.2
                have eR2 : ∃ x, gsP (kkN u n) (W0.length + 1) t0 W0 c0 = ((0, f2), t, x) := by
                  rcases z0 with ⟨x1, x2⟩ | ⟨x1, x2, x3⟩
                  · rw [if_neg (show ¬ kkN u n t = 7 from x1)] at eR
                    rw [x2]
                    exact ⟨_, eR⟩
                  · rw [if_pos (show kkN u n t = 7 from x1), if_pos x2] at eR
                    rw [x3]
                    exact ⟨_, eR⟩
                obtain ⟨xx, eR2⟩ := eR2
                obtain ⟨_, _, _, _, _, _, tq, htq, c11q, ⟨aq, c12q⟩, ⟨bq, c49q⟩, _⟩ := id z1
                refine Exists.intro _ (And.intro z1.1.1 (Exists.intro _ (And.intro c49q ?_)))
                refine Exists.intro _ (And.intro z1.1.1 (And.intro (by rw [z1.1.2.1]; decide) (And.intro rfl (And.intro rfl ?_))))
                have P1 := z1.s49 (v := bq - 1)
                refine Exists.intro _ (And.intro P1.1.1 (Exists.intro _ (And.intro ((get_set_ne (by decide)).trans c12q) ?_)))
                refine Exists.intro _ (And.intro P1.1.1 (And.intro (by rw [P1.1.2.1]; decide) (And.intro rfl (And.intro rfl ?_))))
                have P2 := P1.s12 (v := aq - 1)
                refine go_loc (lv' := [(0, .ref o)]) ⟨rfl, trivial⟩ ?_
                refine Go.of hX.2 ck_X12_goes [] 20 ?_
                refine Exists.intro _ (And.intro P2.1.1 (Exists.intro _ (And.intro P2.2.2.1 ?_)))
                refine And.intro (fun _ => ?_) (fun cz => absurd cz (fun z => by have := (nI_eq (a := f2) (b := 0) (by omega) (by omega)).mp z; omega))
                exact And.intro rfl ((hB false f2 t xx _ _ eR2 P2 (((S2.2.2.2.1.tr z2).st (by omega)).st (by omega)) (fun x x1 x2 x3 => (uph_ne x1).trans ((uph_ne x1).trans ((z3 x x1).trans (S2.2.2.2.2 x x1 x2 x3)))) (S2.k27.imp (fun _ hh => ⟨(uph_ne (by omega)).trans ((uph_ne (by omega)).trans ((z3 _ (by omega)).trans hh.1)), hh.2⟩))))
              · rw [if_pos (show kkN u n t = 7 from z0), if_neg (by omega)] at eR
                have k0 : kdN u n t ≠ 0 := fun z => by
                  rw [z] at z0
                  have : mkK 0 = 0 := rfl
                  omega
                have S3 := S2.go z1 z2 z3
                have S4 := S3.pop
                have S5 := S4.opn (o2 := opC W3)
                have c49b : fs3[49]? = some (.int (nI (W3.length + 1))) := S3.1.2.2.2.2.2.2.2.2.1
                have c12b : (fs3.set 49 (.int (nI W3.length)))[12]? = some (.int (nI op)) := S4.1.2.2.2.2.1
                refine Exists.intro _ (And.intro S3.1.1.1 (Exists.intro _ (And.intro c49b ?_)))
                refine Exists.intro _ (And.intro S3.1.1.1 (And.intro (by rw [S3.1.1.2.1]; decide) (And.intro rfl (And.intro rfl ?_))))
                rw [pop1]
                refine Exists.intro _ (And.intro S4.1.1.1 (Exists.intro _ (And.intro c12b ?_)))
                refine Exists.intro _ (And.intro S4.1.1.1 (And.intro (by rw [S4.1.1.2.1]; decide) (And.intro rfl (And.intro rfl ?_))))
                rw [pop2]
                exact go_loc (lv' := [(0, .ref o)]) ⟨rfl, trivial⟩ (ih (t + 1) (opC W3) W3 c2 _ _ (by omega) S5 (hE.s htm k0 tl) w1.2 rfl (by omega) (by have : (6 :: W3).length = W3.length + 1 := rfl; omega) eR)
      have at32 : ∀ (h2 : AH) (fs2 : List Value) (W2 c2 : List Nat), W2 = (gs1 W).1 → c2 = c ++ (gs1 W).2 → cd + c2.length + W2.length ≤ 2100 → GSt h0 fs0 g o cd sg wa wo wp h2 fs2 t op W2 c2 → Go l G 12 s_X12_goes 0 0 Post 32 [(0, .ref o)] [] h2 nx 0 0 := by
        intro h2 fs2 W2 c2 eW ec hc3 S2
        have c49 : fs2[49]? = some (.int (nI W2.length)) := S2.1.2.2.2.2.2.2.2.2.1
        have hM2 := S2.1.1
        have g1 := gs1_w hw
        rw [← eW] at g1
        obtain ⟨g31, b1, b2⟩ := S2.2.1
        have eA : ∀ W3 c3, gs2 (kkN u n t) W2 = (W3, c3) → W3 = (gsA (kkN u n t) W).1 ∧ c2 ++ c3 = c ++ (gsA (kkN u n t) W).2 := fun W3 c3 e => by
          unfold gsA
          rw [← eW, e, ec, List.append_assoc]
          exact ⟨rfl, rfl⟩
        refine Go.of hX.2 ck_X12_goes [66] 60 ?_
        refine Exists.intro _ (And.intro hM2.1 (Exists.intro 0 (Exists.intro 0 (And.intro (Nat.le_refl _) (And.intro (Nat.le_refl _) (isK 9 (by decide) S2 ?_))))))
        by_cases c9 : kkN u n t = 9
        · rw [decide_eq_true c9]
          refine And.intro (fun _ => ?_) (fun cz => by first | exact absurd cz (by decide) | exact absurd (by decide) cz)
          have e2 : gs2 (kkN u n t) W2 = (W2, []) := by
            cases W2 with
            | nil => rfl
            | cons k W3 => exact if_neg (fun z => z.1 c9)
          obtain ⟨y1, y2⟩ := eA _ _ e2
          rw [List.append_nil] at y2
          exact go_loc (lv' := [(0, .ref o)]) ⟨rfl, trivial⟩ (at66 h2 fs2 W2 c2 y1 y2 hc3 S2)
        · rw [decide_eq_false c9]
          refine And.intro (fun cz => by first | exact absurd cz (by decide) | exact absurd (by decide) cz) (fun _ => ?_)
          refine Exists.intro _ (And.intro hM2.1 (Exists.intro 0 (Exists.intro 0 (And.intro (Nat.le_refl _) (And.intro (Nat.le_refl _) (m_waitsOn (k := 10) hX hM2 c49 b1 (by have := g1.2.2.1; omega) ?_))))))
          rw [wtop b2 g1.1 (by decide)]
          cases W2 with
          | nil =>
            refine And.intro (fun _ => ?_) (fun cz => by first | exact absurd cz (by decide) | exact absurd (by decide) cz)
            obtain ⟨y1, y2⟩ := eA [] [] rfl
            rw [List.append_nil] at y2
            exact go_loc (lv' := [(0, .ref o)]) ⟨rfl, trivial⟩ (at66 h2 fs2 [] c2 y1 y2 hc3 S2)
          | cons k W3 =>
            by_cases k10 : k = 10
            · subst k10
              obtain ⟨y1, y2⟩ := eA W3 [51] (if_pos ⟨c9, rfl⟩)
              rw [show decide ((10 :: W3).head? = some 10) = true from decide_eq_true rfl]
              refine And.intro (fun cz => by first | exact absurd cz (by decide) | exact absurd (by decide) cz) (fun _ => ?_)
              have S3 := S2.pop
              obtain ⟨g27, d1, d2⟩ := S3.2.2.1
              refine Exists.intro _ (And.intro hM2.1 (Exists.intro _ (And.intro c49 ?_)))
              refine Exists.intro _ (And.intro hM2.1 (And.intro (by rw [hM2.2.1]; decide) (And.intro rfl (And.intro rfl ?_))))
              rw [show nI (10 :: W3).length - 1 = nI W3.length from by show nI (W3.length + 1) - 1 = _; rw [nI_succ, Int32.add_sub_cancel]]
              have hl : (10 :: W3).length = W3.length + 1 := rfl
              refine Exists.intro _ (And.intro S3.1.1.1 (Exists.intro 0 (Exists.intro 0 (And.intro (Nat.le_refl _) (And.intro (Nat.le_refl _) (m_emit (k := 51) hX S3.1 d1 (by omega) (fun h3 fs3 z1 z2 z3 z4 => ?_)))))))
              exact go_loc (lv' := [(0, .ref o)]) ⟨rfl, trivial⟩ (at66 h3 fs3 W3 (c2 ++ [51]) y1 y2 (by rw [List.length_append]; show cd + (c2.length + 1) + W3.length ≤ 2100; omega) (S3.em d1 z1 z2 z3 z4))
            · rw [decide_eq_false (fun z => by injection z with z; exact k10 z)]
              refine And.intro (fun _ => ?_) (fun cz => by first | exact absurd cz (by decide) | exact absurd (by decide) cz)
              obtain ⟨y1, y2⟩ := eA (k :: W3) [] (if_neg (fun z => k10 z.2))
              rw [List.append_nil] at y2
              exact go_loc (lv' := [(0, .ref o)]) ⟨rfl, trivial⟩ (at66 h2 fs2 (k :: W3) c2 y1 y2 hc3 S2)
      have c49 : fs1[49]? = some (.int (nI W.length)) := S.1.2.2.2.2.2.2.2.2.1
      have hM1 := S.1.1
      obtain ⟨g31, b1, b2⟩ := S.2.1
      refine Go.of hX.2 ck_X12_goes [32] 60 ?_
      refine Exists.intro _ (And.intro hM1.1 (Exists.intro _ (And.intro S.1.2.2.1 ?_)))
      refine And.intro (fun cz => by first | exact absurd cz (by decide) | exact absurd (by decide) cz) (fun _ => ?_)
      refine Exists.intro _ (And.intro hM1.1 (Exists.intro 0 (Exists.intro 0 (And.intro (Nat.le_refl _) (And.intro (Nat.le_refl _) (m_waitsOn (k := 9) hX hM1 c49 b1 (by omega) ?_))))))
      rw [wtop b2 hw (by decide)]
      cases W with
      | nil =>
        refine And.intro (fun _ => ?_) (fun cz => by first | exact absurd cz (by decide) | exact absurd (by decide) cz)
        exact go_loc (lv' := [(0, .ref o)]) ⟨rfl, trivial⟩ (at32 h1 fs1 [] c rfl (List.append_nil c).symm hc2 S)
      | cons k W3 =>
        by_cases k9 : k = 9
        · subst k9
          have e1 : gs1 (9 :: W3) = (W3, [50]) := rfl
          rw [show decide ((9 :: W3).head? = some 9) = true from decide_eq_true rfl]
          refine And.intro (fun cz => by first | exact absurd cz (by decide) | exact absurd (by decide) cz) (fun _ => ?_)
          have S3 := S.pop
          obtain ⟨g27, d1, d2⟩ := S3.2.2.1
          refine Exists.intro _ (And.intro hM1.1 (Exists.intro _ (And.intro c49 ?_)))
          refine Exists.intro _ (And.intro hM1.1 (And.intro (by rw [hM1.2.1]; decide) (And.intro rfl (And.intro rfl ?_))))
          rw [show nI (9 :: W3).length - 1 = nI W3.length from by show nI (W3.length + 1) - 1 = _; rw [nI_succ, Int32.add_sub_cancel]]
          have hl : (9 :: W3).length = W3.length + 1 := rfl
          refine Exists.intro _ (And.intro S3.1.1.1 (Exists.intro 0 (Exists.intro 0 (And.intro (Nat.le_refl _) (And.intro (Nat.le_refl _) (m_emit (k := 50) hX S3.1 d1 (by omega) (fun h3 fs3 z1 z2 z3 z4 => ?_)))))))
          exact go_loc (lv' := [(0, .ref o)]) ⟨rfl, trivial⟩ (at32 h3 fs3 W3 (c ++ [50]) (by rw [e1]) (by rw [e1]) (by rw [List.length_append]; show cd + (c.length + 1) + W3.length ≤ 2100; omega) (S3.em d1 z1 z2 z3 z4))
        · rw [decide_eq_false (fun z => by injection z with z; exact k9 z)]
          have e1 : gs1 (k :: W3) = (k :: W3, []) := if_neg k9
          refine And.intro (fun _ => ?_) (fun cz => by first | exact absurd cz (by decide) | exact absurd (by decide) cz)
          exact go_loc (lv' := [(0, .ref o)]) ⟨rfl, trivial⟩ (at32 h1 fs1 (k :: W3) c (by rw [e1]) (by rw [e1, List.append_nil]) hc2 S)
  refine en_X12_goes hX [] 0 rfl ?_
  exact loop (W0.length + 1) t0 op0 W0 c0 h fs (Nat.lt_succ_self _) hS ht hW hop hL hcd rfl
