/-! the model: single flaws, and pairs, that are bad -/
set_option maxHeartbeats 8000000 in
theorem m_isBad {l : Launch} {G : GG} {h : AH} {nx : Nat} {Post : Option Value → AH → Nat → Prop} {o d : Nat} {D : DD} {f g : Int32} {fs : List Value} (hX : XC G ∧ TX l G) (hM : MA h o fs) (hS : SHm h o) (f19 : fs[19]? = some (.int (nI d))) (hD : MPg h o d D) (hw : WD D) (hf : vFn (dK D) (dR D) (dow D) f = true) (hg : vFn (dK D) (dR D) (dow D) g = true) (hP : ∀ (h1 : AH) (fs1 : List Value), MH h o fs h1 fs1 → Post (some (.int (nI (bdB D (fOf f) (fOf g)).toNat))) h1 nx) : Runs l G i_X12_isBad 0 0 [.ref o, .int f, .int g] h nx Post := by
  refine en_X12_isBad hX [] 30 rfl ?_
  refine Exists.intro _ (And.intro hM.1 (Exists.intro 0 (Exists.intro 0 (And.intro (Nat.le_refl _) (And.intro (Nat.le_refl _) (m_goesThrough hX hM hS f19 hD hw hf hg (fun h1 fs1 y1 y2 y3 => ?_)))))))
  obtain ⟨gr, gf, gb, _, _, _, r68, r73, r74, _⟩ := id y2
  have hP := hP h1 fs1 y1
  have hb : bdB D (fOf f) (fOf g) = decide (kWa (kFG D f g) ≠ -1) := rfl
  rw [hb] at hP
  refine Exists.intro _ (And.intro y1.1.1 (Exists.intro _ (And.intro r74 ?_)))
  by_cases c1 : kWa (kFG D f g) = -1
  · refine And.intro (fun _ => ?_) (fun cz => absurd (c1) cz)
    rw [decide_eq_false (show ¬ kWa (kFG D f g) ≠ -1 from fun z => z c1)] at hP
    exact And.intro rfl (hP)
  · refine And.intro (fun cz => absurd cz (c1)) (fun _ => ?_)
    rw [decide_eq_true (show kWa (kFG D f g) ≠ -1 from c1)] at hP
    exact And.intro rfl (hP)
theorem vFn_x {D : DD} {x : Int32} (h : vFx (dK D) (dR D) (dow D) x = true) : vFn (dK D) (dR D) (dow D) x = true := by
  unfold vFn
  rw [h, Bool.or_true]
theorem fOf_nI {n : Nat} (hn : n < 2 ^ 31) : fOf (nI n) = some n := by
  unfold fOf
  rw [if_neg (show ¬ nI n = -1 from fun z => absurd (show nI n < 0 from z ▸ (by decide)) (nI_pos hn)), nI_clamp hn]
set_option maxHeartbeats 8000000 in
theorem m_singles {l : Launch} {G : GG} {h : AH} {nx : Nat} {Post : Option Value → AH → Nat → Prop} {o d : Nat} {D : DD} {fs : List Value} (hX : XC G ∧ TX l G) (hM : MA h o fs) (hS : SHm h o) (f19 : fs[19]? = some (.int (nI d))) (hD : MPg h o d D) (hw : WD D) (hP : ∀ (h1 : AH) (fs1 : List Value), MH h o fs h1 fs1 → Post (some (.int (aSingles D))) h1 nx) : Runs l G i_X12_singles 0 0 [.ref o] h nx Post := by
  have loop : ∀ (k f n : Nat) (h1 : AH) (fs1 : List Value), f + k = 212 → n + (flF D f).countP (bd1 D) = (flL D).countP (bd1 D) → MH h o fs h1 fs1 → Go l G 12 s_X12_singles 0 0 Post 4 [(2, .int (nI f)), (1, .int (nI n)), (0, .ref o)] [] h1 nx 0 0 := by
    intro k
    induction k with
    | zero =>
      intro f n h1 fs1 hf e1 hH
      have e : f = 212 := by omega
      subst e
      rw [flF_end] at e1
      have e2 : n = (flL D).countP (bd1 D) := e1
      refine Go.of hX.2 ck_X12_singles [4] 20 ?_
      refine And.intro (fun _ => ?_) (fun cz => by first | exact absurd cz (by decide) | exact absurd (by decide) cz)
      have hP := hP h1 fs1 hH
      unfold aSingles at hP
      rw [← e2] at hP
      exact And.intro rfl (hP)
    | succ k ih =>
      intro f n h1 fs1 hf e1 hH
      refine Go.of hX.2 ck_X12_singles [4] 50 ?_
      refine And.intro (fun cz => absurd cz (nI_ge (a := f) (b := 212) (by omega) (by decide))) (fun _ => ?_)
      refine Exists.intro _ (And.intro hH.1.1 (Exists.intro 0 (Exists.intro 0 (And.intro (Nat.le_refl _) (And.intro (Nat.le_refl _) (m_isFlaw hX hH.1 (hH.f rfl f19) (hH.pg hD) hw ?_))))))
      rw [vFx_nI (by omega)]
      rw [flF_step (by omega)] at e1
      by_cases c1 : vFb (dK D) (dR D) (dow D) f = true
      · have c2 : vFx (dK D) (dR D) (dow D) (nI f) = true := by rw [vFx_nI (by omega)]; exact c1
        rw [if_pos c1, List.countP_cons] at e1
        rw [c1]
        refine And.intro (fun cz => by first | exact absurd cz (by decide) | exact absurd (by decide) cz) (fun _ => ?_)
        refine Exists.intro _ (And.intro hH.1.1 (Exists.intro 0 (Exists.intro 0 (And.intro (Nat.le_refl _) (And.intro (Nat.le_refl _) (m_isBad (g := -1) hX hH.1 hH.2.1 (hH.f rfl f19) (hH.pg hD) hw (vFn_x c2) rfl (fun h2 fs2 y1 => ?_)))))))
        rw [fOf_nI (by omega)]
        have e3 : bdB D (some f) (fOf (-1)) = bd1 D f := rfl
        rw [e3]
        cases c3 : bd1 D f with
        | false =>
          rw [c3, if_neg (by decide)] at e1
          refine And.intro (fun _ => ?_) (fun cz => by first | exact absurd cz (by decide) | exact absurd (by decide) cz)
          refine go_loc (lv' := [(2, .int (nI f + 1)), (1, .int (nI n)), (0, .ref o)]) ⟨rfl, rfl, rfl, trivial⟩ ?_
          rw [← nI_succ]
          exact ih (f + 1) n h2 fs2 (by omega) (by omega) (hH.tr y1)
        | true =>
          rw [c3, if_pos rfl] at e1
          refine And.intro (fun cz => by first | exact absurd cz (by decide) | exact absurd (by decide) cz) (fun _ => ?_)
          refine go_loc (lv' := [(2, .int (nI f + 1)), (1, .int (nI n + 1)), (0, .ref o)]) ⟨rfl, rfl, rfl, trivial⟩ ?_
          rw [← nI_succ, ← nI_succ]
          exact ih (f + 1) (n + 1) h2 fs2 (by omega) (by omega) (hH.tr y1)
      · rw [if_neg c1] at e1
        rw [Bool.not_eq_true] at c1
        rw [c1]
        refine And.intro (fun _ => ?_) (fun cz => by first | exact absurd cz (by decide) | exact absurd (by decide) cz)
        refine go_loc (lv' := [(2, .int (nI f + 1)), (1, .int (nI n)), (0, .ref o)]) ⟨rfl, rfl, rfl, trivial⟩ ?_
        rw [← nI_succ]
        exact ih (f + 1) n h1 fs1 (by omega) e1 hH
  refine en_X12_singles hX [4] 20 rfl ?_
  exact go_loc (lv' := [(2, .int (nI 0)), (1, .int (nI 0)), (0, .ref o)]) ⟨rfl, rfl, rfl, trivial⟩ (loop 212 0 0 h fs rfl (by rw [flF_0, Nat.zero_add]) (MH.rf hM hS))
/-- the fields that pairs change, too -/
def fPr (k : Nat) : Bool := fHut k || decide (k = 75 ∨ k = 76)
def MHp (h : AH) (o : Nat) (fs : List Value) (h1 : AH) (fs1 : List Value) : Prop := MA h1 o fs1 ∧ SHm h1 o ∧ (∀ k, fPr k = false → fs1[k]? = fs[k]?) ∧ (∀ a, (a < o ∨ (o < a ∧ a < o + 1 + 35) ∨ o + 1 + 49 ≤ a) → h1 a = h a)
theorem MHp.tr {h h1 h2 : AH} {o : Nat} {fs fs1 fs2 : List Value} (a : MHp h o fs h1 fs1) (b : MHp h1 o fs1 h2 fs2) : MHp h o fs h2 fs2 := ⟨b.1, b.2.1, fun k hk => (b.2.2.1 k hk).trans (a.2.2.1 k hk), fun x hx => (b.2.2.2 x hx).trans (a.2.2.2 x hx)⟩
theorem MH.p {h h1 : AH} {o : Nat} {fs fs1 : List Value} (a : MH h o fs h1 fs1) : MHp h o fs h1 fs1 := ⟨a.1, a.2.1, fun k hk => a.2.2.1 k (by unfold fPr at hk; exact (Bool.or_eq_false_iff.mp hk).1), a.2.2.2⟩
theorem MHp.pg {h h1 : AH} {o d : Nat} {fs fs1 : List Value} {D : DD} (a : MHp h o fs h1 fs1) (hD : MPg h o d D) : MPg h1 o d D := hD.ag (fun j hj => a.2.2.2 _ (by omega))
theorem MHp.f {h h1 : AH} {o : Nat} {fs fs1 : List Value} (a : MHp h o fs h1 fs1) {k : Nat} {v : Value} (hk : fPr k = false) (e : fs[k]? = some v) : fs1[k]? = some v := (a.2.2.1 k hk).trans e
theorem rfM_no2 : ∀ j, j < 63 → rfM j ≠ 75 ∧ rfM j ≠ 76 := by decide +kernel
theorem SHm.obj {h : AH} {o : Nat} {e : AE} (hS : SHm h o) : SHm (uph h o e) o := hS.upd (fun j hj => Or.inl (uph_ne (by omega)))
theorem MHp.set {h h1 : AH} {o k : Nat} {fs fs1 : List Value} {v : Value} (a : MHp h o fs h1 fs1) (hk : k = 75 ∨ k = 76) : MHp h o fs (uph h1 o (.inr (12, fs1.set k v))) (fs1.set k v) := by
  obtain ⟨⟨a1, a2, a3⟩, b, c, d⟩ := a
  refine ⟨⟨uph_eq, by rw [List.length_set]; exact a2, fun j hj => ?_⟩, b.obj, fun i hi => ?_, fun x hx => (uph_ne (by omega)).trans (d x hx)⟩
  · have := rfM_no2 j hj
    rw [get_set_ne (by omega)]
    exact a3 j hj
  · rw [get_set_ne (fun z => by rw [← z] at hi; rcases hk with rfl | rfl <;> cases hi)]
    exact c i hi
/-- the pairs found among the first so many -/
theorem MHp.len {h h1 : AH} {o : Nat} {fs fs1 : List Value} (a : MHp h o fs h1 fs1) : fs1.length = 99 := a.1.2.1
set_option maxHeartbeats 8000000 in
theorem m_pairsOf {l : Launch} {G : GG} {h : AH} {nx : Nat} {Post : Option Value → AH → Nat → Prop} {o d : Nat} {D : DD} {f i : Int32} {fs : List Value} (hX : XC G ∧ TX l G) (hM : MA h o fs) (hS : SHm h o) (f19 : fs[19]? = some (.int (nI d))) (hD : MPg h o d D) (hw : WD D) (hf : vFx (dK D) (dR D) (dow D) f = true) (hP : ∀ (h1 : AH) (fs1 : List Value), MHp h o fs h1 fs1 → fs1[75]? = some (.int (nI ((flL D).countP (pbB D f.toNatClampNeg)))) → fs1[76]? = some (.int (aIx ((flL D).filter (pbB D f.toNatClampNeg)) i)) → Post none h1 nx) : Runs l G i_X12_pairsOf 0 0 [.ref o, .int f, .int i] h nx Post := by
  obtain ⟨ff1, ff2, ff3, hf212, hfn⟩ := fOf_x hw hf
  have hl := flL_len hw
  have h99 := hM.2.1
  refine en_X12_pairsOf hX [22] 60 rfl ?_
  refine Exists.intro _ (And.intro hM.1 (And.intro (by omega) (And.intro rfl (And.intro rfl ?_))))
  refine Exists.intro _ (And.intro uph_eq (And.intro (by rw [List.length_set]; omega) (And.intro rfl (And.intro rfl ?_))))
  have r0 : MHp h o fs h fs := (MH.rf hM hS).p
  have r1 := (r0.set (k := 75) (v := .int 0) (Or.inl rfl)).set (k := 76) (v := .int (-1)) (Or.inr rfl)
  have s75 : ((fs.set 75 (.int 0)).set 76 (.int (-1)))[75]? = some (.int (nI 0)) := by rw [get_set_ne (by decide)]; exact get_set (by omega)
  have s76 : ((fs.set 75 (.int 0)).set 76 (.int (-1)))[76]? = some (.int (-1)) := get_set (by rw [List.length_set]; omega)
  refine Exists.intro _ (And.intro uph_eq (Exists.intro 0 (Exists.intro 0 (And.intro (Nat.le_refl _) (And.intro (Nat.le_refl _) (m_isBad (g := -1) hX r1.1 r1.2.1 (r1.f rfl f19) (r1.pg hD) hw (vFn_x hf) rfl (fun h2 fs2 y1 => ?_)))))))
  have r2 := r1.tr y1.p
  have t75 := y1.f (k := 75) rfl s75
  have t76 := y1.f (k := 76) rfl s76
  have e3 : bdB D (fOf f) (fOf (-1)) = bd1 D f.toNatClampNeg := by rw [ff1]; rfl
  rw [e3]
  cases c0 : bd1 D f.toNatClampNeg with
  | true =>
    have hno : ∀ n, pbB D f.toNatClampNeg n = false := fun n => by unfold pbB; rw [c0]; simp
    refine And.intro (fun cz => by first | exact absurd cz (by decide) | exact absurd (by decide) cz) (fun _ => ?_)
    refine hP h2 fs2 r2 ?_ ?_
    · rw [List.countP_eq_zero.mpr (fun n _ => by rw [hno n]; decide)]
      exact t75
    · rw [List.filter_eq_nil_iff.mpr (fun n _ => by rw [hno n]; decide)]
      rw [show aIx [] i = -1 from by unfold aIx; rw [if_neg (fun z => absurd (Int32.lt_of_le_of_lt z.1 z.2) (by decide))]]
      exact t76
  | false =>
    refine And.intro (fun _ => ?_) (fun cz => by first | exact absurd cz (by decide) | exact absurd (by decide) cz)
    have loop : ∀ (k g n : Nat) (h3 : AH) (fs3 : List Value), g + k = 212 → ((flL D).filter (pbB D f.toNatClampNeg)).drop n = (flF D g).filter (pbB D f.toNatClampNeg) → n ≤ ((flL D).filter (pbB D f.toNatClampNeg)).length → MHp h o fs h3 fs3 → fs3[75]? = some (.int (nI n)) → fs3[76]? = some (.int (aIx (((flL D).filter (pbB D f.toNatClampNeg)).take n) i)) → Go l G 12 s_X12_pairsOf 0 0 Post 22 [(3, .int (nI g)), (0, .ref o), (1, .int f), (2, .int i)] [] h3 nx 0 0 := by
      have hfl : ((flL D).filter (pbB D f.toNatClampNeg)).length ≤ 132 := Nat.le_trans (List.length_filter_le ..) hl
      intro k
      induction k with
      | zero =>
        intro g n h3 fs3 hg e1 hn hH a75 a76
        have e : g = 212 := by omega
        subst e
        have e2 : ((flL D).filter (pbB D f.toNatClampNeg)).length ≤ n := by
          rw [flF_end] at e1
          exact List.drop_eq_nil_iff.mp e1
        rw [List.take_of_length_le e2] at a76
        refine Go.of hX.2 ck_X12_pairsOf [22] 20 ?_
        refine And.intro (fun _ => ?_) (fun cz => by first | exact absurd cz (by decide) | exact absurd (by decide) cz)
        refine hP h3 fs3 hH ?_ a76
        rw [List.countP_eq_length_filter, show ((flL D).filter (pbB D f.toNatClampNeg)).length = n by omega]
        exact a75
      | succ k ih =>
        intro g n h3 fs3 hg e1 hn hH a75 a76
        have skip : ∀ {h4 : AH} {fs4 : List Value}, (flF D g).filter (pbB D f.toNatClampNeg) = (flF D (g + 1)).filter (pbB D f.toNatClampNeg) → MH h3 o fs3 h4 fs4 → Go l G 12 s_X12_pairsOf 0 0 Post 22 [(3, .int (nI g + 1)), (0, .ref o), (1, .int f), (2, .int i)] [] h4 nx 0 0 := by
          intro h4 fs4 e2 H4
          rw [← nI_succ]
          exact ih (g + 1) n h4 fs4 (by omega) (by rw [e1, e2]) hn (hH.tr H4.p) (H4.f rfl a75) (H4.f rfl a76)
        rw [flF_step (show g < 212 by omega)] at e1 skip
        refine Go.of hX.2 ck_X12_pairsOf [22] 120 ?_
        refine And.intro (fun cz => absurd cz (nI_ge (a := g) (b := 212) (by omega) (by decide))) (fun _ => ?_)
        by_cases c1 : nI g = f
        · refine And.intro (fun _ => ?_) (fun cz => absurd (c1) cz)
          have c2 : g = f.toNatClampNeg := by rw [← c1, nI_clamp (by omega)]
          refine go_loc (lv' := [(3, .int (nI g + 1)), (0, .ref o), (1, .int f), (2, .int i)]) ⟨rfl, rfl, rfl, rfl, trivial⟩ ?_
          refine skip ?_ (MH.rf hH.1 hH.2.1)
          split
          · rw [List.filter_cons, if_neg (by unfold pbB; rw [c2, decide_eq_false (show ¬ f.toNatClampNeg ≠ f.toNatClampNeg from fun z => z rfl), Bool.false_and]; decide)]
          · rfl
        · refine And.intro (fun cz => absurd cz (c1)) (fun _ => ?_)
          have c2 : g ≠ f.toNatClampNeg := fun z => c1 (by rw [z]; exact hfn.symm)
          refine Exists.intro _ (And.intro hH.1.1 (Exists.intro 0 (Exists.intro 0 (And.intro (Nat.le_refl _) (And.intro (Nat.le_refl _) (m_isFlaw hX hH.1 (hH.f rfl f19) (hH.pg hD) hw ?_))))))
          rw [vFx_nI (by omega)]
          by_cases c3 : vFb (dK D) (dR D) (dow D) g = true
          · have c4 : vFx (dK D) (dR D) (dow D) (nI g) = true := by rw [vFx_nI (by omega)]; exact c3
            rw [if_pos c3, List.filter_cons] at e1 skip
            rw [c3]
            refine And.intro (fun cz => by first | exact absurd cz (by decide) | exact absurd (by decide) cz) (fun _ => ?_)
            refine Exists.intro _ (And.intro hH.1.1 (Exists.intro 0 (Exists.intro 0 (And.intro (Nat.le_refl _) (And.intro (Nat.le_refl _) (m_isBad (g := -1) hX hH.1 hH.2.1 (hH.f rfl f19) (hH.pg hD) hw (vFn_x c4) rfl (fun h4 fs4 y4 => ?_)))))))
            rw [fOf_nI (by omega)]
            have e4 : bdB D (some g) (fOf (-1)) = bd1 D g := rfl
            rw [e4]
            cases c5 : bd1 D g with
            | true =>
              refine And.intro (fun _ => ?_) (fun cz => by first | exact absurd cz (by decide) | exact absurd (by decide) cz)
              refine go_loc (lv' := [(3, .int (nI g + 1)), (0, .ref o), (1, .int f), (2, .int i)]) ⟨rfl, rfl, rfl, rfl, trivial⟩ ?_
              exact skip (if_neg (by unfold pbB; rw [c5]; simp)) y4
            | false =>
              refine And.intro (fun cz => by first | exact absurd cz (by decide) | exact absurd (by decide) cz) (fun _ => ?_)
              have H4 := hH.tr y4.p
              refine Exists.intro _ (And.intro H4.1.1 (Exists.intro 0 (Exists.intro 0 (And.intro (Nat.le_refl _) (And.intro (Nat.le_refl _) (m_isBad (f := f) (g := nI g) hX H4.1 H4.2.1 (H4.f rfl f19) (H4.pg hD) hw (vFn_x hf) (vFn_x c4) (fun h5 fs5 y5 => ?_)))))))
              have H5 := H4.tr y5.p
              have y45 := y4.tr y5
              rw [fOf_nI (by omega), ff1]
              have e6 : pbB D f.toNatClampNeg g = bdB D (some f.toNatClampNeg) (some g) := by
                unfold pbB
                rw [c0, c5, decide_eq_true c2]
                rfl
              rw [← e6]
              cases c6 : pbB D f.toNatClampNeg g with
              | false =>
                refine And.intro (fun cz => by first | exact absurd cz (by decide) | exact absurd (by decide) cz) (fun _ => ?_)
                refine go_loc (lv' := [(3, .int (nI g + 1)), (0, .ref o), (1, .int f), (2, .int i)]) ⟨rfl, rfl, rfl, rfl, trivial⟩ ?_
                exact skip (if_neg (by rw [c6]; decide)) y45
              | true =>
                refine And.intro (fun _ => ?_) (fun cz => by first | exact absurd cz (by decide) | exact absurd (by decide) cz)
                rw [c6, if_pos rfl] at e1
                have hnl : n < ((flL D).filter (pbB D f.toNatClampNeg)).length := by
                  by_cases z : n < ((flL D).filter (pbB D f.toNatClampNeg)).length
                  · exact z
                  · rw [List.drop_eq_nil_iff.mpr (by omega)] at e1; cases e1
                rw [List.drop_eq_getElem_cons hnl] at e1
                have h4 := (List.cons.inj e1).1
                have h5 := (List.cons.inj e1).2
                have b75 := y45.f rfl a75
                have b76 := y45.f rfl a76
                have tk : ((flL D).filter (pbB D f.toNatClampNeg)).take (n + 1) = ((flL D).filter (pbB D f.toNatClampNeg)).take n ++ [g] := by rw [List.take_succ_eq_append_getElem hnl, h4]
                have tl : (((flL D).filter (pbB D f.toNatClampNeg)).take n).length = n := by rw [List.length_take]; omega
                refine Exists.intro _ (And.intro H5.1.1 (Exists.intro _ (And.intro b75 ?_)))
                by_cases c7 : nI n = i
                · refine And.intro (fun cz => absurd (c7) cz) (fun _ => ?_)
                  have q76 : aIx (((flL D).filter (pbB D f.toNatClampNeg)).take (n + 1)) i = nI g := by
                    unfold aIx
                    rw [tk, ← c7, if_pos ⟨nI_pos' (by omega), nI_lt (by rw [List.length_append, tl, List.length_singleton]; omega) (by rw [List.length_append, tl, List.length_singleton]; omega)⟩, nI_clamp (by omega), List.getD_eq_getElem?_getD, List.getElem?_append_right (by omega), tl, Nat.sub_self]
                    rfl
                  refine Exists.intro _ (And.intro H5.1.1 (And.intro (by have := H5.len; omega) (And.intro rfl (And.intro rfl ?_))))
                  have R1 := H5.set (k := 76) (v := .int (nI g)) (Or.inr rfl)
                  refine Exists.intro _ (And.intro R1.1.1 (Exists.intro _ (And.intro (by rw [get_set_ne (by decide)]; exact b75) ?_)))
                  refine Exists.intro _ (And.intro R1.1.1 (And.intro (by have := R1.len; omega) (And.intro rfl (And.intro rfl ?_))))
                  have R2 := R1.set (k := 75) (v := .int (nI n + 1)) (Or.inl rfl)
                  refine go_loc (lv' := [(3, .int (nI g + 1)), (0, .ref o), (1, .int f), (2, .int i)]) ⟨rfl, rfl, rfl, rfl, trivial⟩ ?_
                  rw [← nI_succ] at R2 ⊢
                  rw [← nI_succ]
                  exact ih (g + 1) (n + 1) _ _ (by omega) h5 (by omega) R2 (get_set (by have := R1.len; omega)) (by rw [get_set_ne (by decide), q76]; exact get_set (by have := H5.len; omega))
                · refine And.intro (fun _ => ?_) (fun cz => absurd cz (c7))
                  have q76 : aIx (((flL D).filter (pbB D f.toNatClampNeg)).take (n + 1)) i = aIx (((flL D).filter (pbB D f.toNatClampNeg)).take n) i := by
                    unfold aIx
                    rw [tk, List.length_append, tl, List.length_singleton]
                    by_cases z0 : i < 0
                    · rw [if_neg (fun z => absurd z0 (Int32.not_lt.mpr z.1)), if_neg (fun z => absurd z0 (Int32.not_lt.mpr z.1))]
                    · obtain ⟨j, hj, rfl⟩ := nI_of z0
                      have z1 : n ≠ j := fun z => c7 (by rw [z])
                      by_cases z2 : j < n
                      · rw [if_pos ⟨nI_pos' hj, nI_lt (by omega) (by omega)⟩, if_pos ⟨nI_pos' hj, nI_lt z2 (by omega)⟩, nI_clamp hj, List.getD_eq_getElem?_getD, List.getD_eq_getElem?_getD, List.getElem?_append_left (by omega)]
                      · rw [if_neg (fun z => absurd z.2 (nI_nlt (by omega) hj)), if_neg (fun z => absurd z.2 (nI_nlt (by omega) hj))]
                  refine Exists.intro _ (And.intro H5.1.1 (Exists.intro _ (And.intro b75 ?_)))
                  refine Exists.intro _ (And.intro H5.1.1 (And.intro (by have := H5.len; omega) (And.intro rfl (And.intro rfl ?_))))
                  have R2 := H5.set (k := 75) (v := .int (nI n + 1)) (Or.inl rfl)
                  refine go_loc (lv' := [(3, .int (nI g + 1)), (0, .ref o), (1, .int f), (2, .int i)]) ⟨rfl, rfl, rfl, rfl, trivial⟩ ?_
                  rw [← nI_succ] at R2 ⊢
                  rw [← nI_succ]
                  exact ih (g + 1) (n + 1) _ _ (by omega) h5 (by omega) R2 (get_set (by have := H5.len; omega)) (by rw [get_set_ne (by decide), q76]; exact b76)
          · rw [if_neg c3] at skip
            rw [Bool.not_eq_true] at c3
            rw [c3]
            refine And.intro (fun _ => ?_) (fun cz => by first | exact absurd cz (by decide) | exact absurd (by decide) cz)
            refine go_loc (lv' := [(3, .int (nI g + 1)), (0, .ref o), (1, .int f), (2, .int i)]) ⟨rfl, rfl, rfl, rfl, trivial⟩ ?_
            exact skip rfl (MH.rf hH.1 hH.2.1)
    refine go_loc (lv' := [(3, .int (nI 0)), (0, .ref o), (1, .int f), (2, .int i)]) ⟨rfl, rfl, rfl, rfl, trivial⟩ ?_
    exact loop 212 0 0 h2 fs2 rfl (by rw [flF_0, List.drop_zero]) (Nat.zero_le _) r2 t75 (by
      rw [List.take_zero, show aIx [] i = -1 from by unfold aIx; rw [if_neg (fun z => absurd (Int32.lt_of_le_of_lt z.1 z.2) (by decide))]]
      exact t76)
set_option maxHeartbeats 8000000 in
theorem m_pairs {l : Launch} {G : GG} {h : AH} {nx : Nat} {Post : Option Value → AH → Nat → Prop} {o d : Nat} {D : DD} {f : Int32} {fs : List Value} (hX : XC G ∧ TX l G) (hM : MA h o fs) (hS : SHm h o) (f19 : fs[19]? = some (.int (nI d))) (hD : MPg h o d D) (hw : WD D) (hP : ∀ (h1 : AH) (fs1 : List Value), MHp h o fs h1 fs1 → Post (some (.int (aPairs D f))) h1 nx) : Runs l G i_X12_pairs 0 0 [.ref o, .int f] h nx Post := by
  unfold aPairs at hP
  refine en_X12_pairs hX [] 40 rfl ?_
  refine Exists.intro _ (And.intro hM.1 (Exists.intro 0 (Exists.intro 0 (And.intro (Nat.le_refl _) (And.intro (Nat.le_refl _) (m_isFlaw hX hM f19 hD hw ?_))))))
  cases e : vFx (dK D) (dR D) (dow D) f with
  | false =>
    refine And.intro (fun cz => by first | exact absurd cz (by decide) | exact absurd (by decide) cz) (fun _ => ?_)
    have hP := hP h fs (MH.rf hM hS).p
    rw [if_neg (by rw [e]; decide)] at hP
    exact And.intro rfl (hP)
  | true =>
    refine And.intro (fun _ => ?_) (fun cz => by first | exact absurd cz (by decide) | exact absurd (by decide) cz)
    refine Exists.intro _ (And.intro hM.1 (Exists.intro 0 (Exists.intro 0 (And.intro (Nat.le_refl _) (And.intro (Nat.le_refl _) (m_pairsOf (i := -1) hX hM hS f19 hD hw e (fun h1 fs1 y1 y2 y3 => ?_)))))))
    refine Exists.intro _ (And.intro y1.1.1 (Exists.intro _ (And.intro y2 ?_)))
    have hP := hP h1 fs1 y1
    rw [if_pos e] at hP
    exact And.intro rfl (hP)
set_option maxHeartbeats 8000000 in
theorem m_pair {l : Launch} {G : GG} {h : AH} {nx : Nat} {Post : Option Value → AH → Nat → Prop} {o d : Nat} {D : DD} {f i : Int32} {fs : List Value} (hX : XC G ∧ TX l G) (hM : MA h o fs) (hS : SHm h o) (f19 : fs[19]? = some (.int (nI d))) (hD : MPg h o d D) (hw : WD D) (hP : ∀ (h1 : AH) (fs1 : List Value), MHp h o fs h1 fs1 → Post (some (.int (aPair D f i))) h1 nx) : Runs l G i_X12_pair 0 0 [.ref o, .int f, .int i] h nx Post := by
  unfold aPair at hP
  refine en_X12_pair hX [] 40 rfl ?_
  refine Exists.intro _ (And.intro hM.1 (Exists.intro 0 (Exists.intro 0 (And.intro (Nat.le_refl _) (And.intro (Nat.le_refl _) (m_isFlaw hX hM f19 hD hw ?_))))))
  cases e : vFx (dK D) (dR D) (dow D) f with
  | false =>
    refine And.intro (fun cz => by first | exact absurd cz (by decide) | exact absurd (by decide) cz) (fun _ => ?_)
    have hP := hP h fs (MH.rf hM hS).p
    rw [if_neg (by rw [e]; decide)] at hP
    exact And.intro rfl (hP)
  | true =>
    refine And.intro (fun _ => ?_) (fun cz => by first | exact absurd cz (by decide) | exact absurd (by decide) cz)
    refine Exists.intro _ (And.intro hM.1 (Exists.intro 0 (Exists.intro 0 (And.intro (Nat.le_refl _) (And.intro (Nat.le_refl _) (m_pairsOf (i := i) hX hM hS f19 hD hw e (fun h1 fs1 y1 y2 y3 => ?_)))))))
    refine Exists.intro _ (And.intro y1.1.1 (Exists.intro _ (And.intro y3 ?_)))
    have hP := hP h1 fs1 y1
    rw [if_pos e] at hP
    exact And.intro rfl (hP)
