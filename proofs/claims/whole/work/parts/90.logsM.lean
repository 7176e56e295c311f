/-! logs, the model -/
theorem inB_all {x : Int32} {n : Nat} (hn : n < 31) : (0 ≤ x ∧ x ≤ nI (2 ^ n - 1)) ↔ inB x n = true := by
  have hp : 2 ^ n < 2 ^ 31 := Nat.pow_lt_pow_right (by decide) hn
  have hp0 : 0 < 2 ^ n := Nat.two_pow_pos n
  rw [inB_c hn]
  constructor
  · rintro ⟨z1, z2⟩
    obtain ⟨j, hj, rfl⟩ := nI_of (Int32.not_lt.mpr z1)
    exact ⟨j, by have := (nI_leI hj (by omega)).mp z2; omega, rfl⟩
  · rintro ⟨j, hj, rfl⟩
    exact ⟨nI_pos' (by omega), nI_le (by omega) (by omega)⟩
def MLo (h : AH) (o : Nat) (fs : List Value) (h1 : AH) (fs1 : List Value) : Prop := MA h1 o fs1 ∧ SHm h1 o ∧ (∀ k, k ≠ 91 → fs1[k]? = fs[k]?) ∧ (∀ a, (a < o ∨ (o < a ∧ a < o + 1 + 57) ∨ o + 1 + 61 ≤ a) → h1 a = h a)
theorem MLo.rf {h : AH} {o : Nat} {fs : List Value} (hM : MA h o fs) (hS : SHm h o) : MLo h o fs h fs := ⟨hM, hS, fun _ _ => rfl, fun _ _ => rfl⟩
theorem rfM_no91 : ∀ j, j < 63 → rfM j ≠ 91 := by decide +kernel
theorem MLo.set {h h1 : AH} {o : Nat} {fs fs1 : List Value} {v : Value} (a : MLo h o fs h1 fs1) : MLo h o fs (uph h1 o (.inr (12, fs1.set 91 v))) (fs1.set 91 v) := by
  obtain ⟨⟨a1, a2, a3⟩, b, c, d⟩ := a
  refine ⟨⟨uph_eq, by rw [List.length_set]; exact a2, fun j hj => ?_⟩, b.obj, fun i hi => ?_, fun x hx => (uph_ne (by omega)).trans (d x hx)⟩
  · rw [get_set_ne (rfM_no91 j hj).symm]
    exact a3 j hj
  · rw [get_set_ne hi.symm]
    exact c i hi
theorem MLo.row {h h1 : AH} {o j n : Nat} {fs fs1 : List Value} {g : Nat → Int32} (a : MLo h o fs h1 fs1) (hj : 57 ≤ j ∧ j < 61) (hn : tyL.getD j (0, 0) = (0, n)) : MLo h o fs (uph h1 (o + 1 + j) (.inl (0, n, .inl g))) fs1 := by
  obtain ⟨a1, b, c, d⟩ := a
  refine ⟨a1.keep (uph_ne (by omega)), b.upd (fun i hi => ?_), c, fun x hx => (uph_ne (by omega)).trans (d x hx)⟩
  by_cases e : i = j
  · right
    rw [e, uph_eq]
    exact rowS_i (by decide) hn ⟨g, rfl⟩
  · left
    exact uph_ne (by omega)
theorem MLo.pg {h h1 : AH} {o d : Nat} {fs fs1 : List Value} {D : DD} (a : MLo h o fs h1 fs1) (hD : MPg h o d D) : MPg h1 o d D := hD.ag (fun j hj => a.2.2.2 _ (by omega))
/-- the model's logs -/
def MLg (h : AH) (o : Nat) (fs : List Value) (L : List LE) : Prop := ∃ g0 g1 g2 g3 : Nat → Int32, h (o + 1 + 57) = some (.inl (0, 40, .inl g0)) ∧ h (o + 1 + 58) = some (.inl (0, 40, .inl g1)) ∧ h (o + 1 + 59) = some (.inl (0, 40, .inl g2)) ∧ h (o + 1 + 60) = some (.inl (0, 40, .inl g3)) ∧ fs[91]? = some (.int (nI L.length)) ∧ ∀ k, k < L.length → g0 k = (gE L k).1 ∧ ((gE L k).1 = -1 → g1 k = nI (gE L k).2.1 ∧ g2 k = nI (gE L k).2.2.1 ∧ g3 k = nI (gE L k).2.2.2)
theorem MLg.ag {h h' : AH} {o : Nat} {fs fs' : List Value} {L : List LE} (hL : MLg h o fs L) (e : fs'[91]? = fs[91]?) (hs : ∀ j, 57 ≤ j → j < 61 → h' (o + 1 + j) = h (o + 1 + j)) : MLg h' o fs' L := by
  obtain ⟨g0, g1, g2, g3, a, b, c, d, f, r⟩ := hL
  exact ⟨g0, g1, g2, g3, (hs 57 (by decide) (by decide)).trans a, (hs 58 (by decide) (by decide)).trans b, (hs 59 (by decide) (by decide)).trans c, (hs 60 (by decide) (by decide)).trans d, e.trans f, r⟩
set_option maxHeartbeats 8000000 in
theorem m_log {l : Launch} {G : GG} {h : AH} {nx : Nat} {Post : Option Value → AH → Nat → Prop} {o d : Nat} {n a s : Int32} {D : DD} {L : List LE} {fs : List Value} (hX : XC G ∧ TX l G) (hM : MA h o fs) (hS : SHm h o) (f19 : fs[19]? = some (.int (nI d))) (hD : MPg h o d D) (hw : WD D) (hL : MLg h o fs L) (hwl : WLg L) (hP : ∀ (h1 : AH) (fs1 : List Value), MLo h o fs h1 fs1 → MLg h1 o fs1 (lgL D L n a s) → Post (some (.int (lgA D L n a s))) h1 nx) : Runs l G i_X12_log 0 0 [.ref o, .int n, .int a, .int s] h nx Post := by
  have hd := hD.2.2.2.2.2.2.2
  obtain ⟨⟨trk, gm, go, gn, gR, gL, gf, gt, gk, d8, d18, d20, d21, d10, d13, d23, d24, d27, hd5, pm, pK, pR, pR6, pL, pL5, _⟩, _, _, ⟨gI, eI, pI⟩, _⟩ := id hD
  have hi := hw.i
  have hl := hw.l
  have h40 := hwl.1
  have hlen := hM.2.1
  obtain ⟨g0, g1, g2, g3, e57, e58, e59, e60, f91, r⟩ := id hL
  have no : lgB D L n a s = false → Post (some (.int (-1))) h nx := fun z => by
    have hP := hP h fs (MLo.rf hM hS) (by unfold lgL; rw [if_neg (by rw [z]; decide)]; exact hL)
    unfold lgA at hP
    rw [if_neg (by rw [z]; decide)] at hP
    exact hP
  refine en_X12_log hX [63] 80 rfl ?_
  refine Exists.intro _ (And.intro hM.1 (Exists.intro _ (And.intro f91 ?_)))
  by_cases c1 : L.length = 40
  · refine And.intro (fun _ => ?_) (fun cz => absurd (show nI L.length = 40 from by rw [c1]; rfl) cz)
    exact And.intro rfl ((no (by unfold lgB; rw [decide_eq_false (by omega)]; rfl)))
  · have c1b : L.length < 40 := by omega
    refine And.intro (fun cz => absurd cz (fun z => c1 ((nI_eq (a := L.length) (b := 40) (by omega) (by decide)).mp z))) (fun _ => ?_)
    refine Exists.intro _ (And.intro hM.1 (Exists.intro _ (And.intro f19 ?_)))
    refine And.intro (fun cz => absurd cz ((nI_n2 (show d < 64 by omega)).2.2)) (fun _ => ?_)
    refine Exists.intro 0 (Exists.intro 0 (And.intro (Nat.le_refl _) (And.intro (Nat.le_refl _) (c_in hX ?_))))
    by_cases c2 : 0 ≤ n ∧ n ≤ 6
    · rw [if_pos c2]
      refine And.intro (fun cz => by first | exact absurd cz (by decide) | exact absurd (by decide) cz) (fun _ => ?_)
      by_cases c3 : a < 0
      · refine And.intro (fun _ => ?_) (fun cz => absurd (c3) cz)
        exact And.intro rfl ((no (by unfold lgB okN; rw [decide_eq_false (Int32.not_le.mpr c3)]; simp)))
      · refine And.intro (fun cz => absurd cz (c3)) (fun _ => ?_)
        refine Exists.intro _ (And.intro hM.1 (Exists.intro _ (And.intro (hM.2.2 13 (by decide)) ?_)))
        refine Exists.intro _ (And.intro hM.1 (Exists.intro _ (And.intro f19 ?_)))
        refine Exists.intro _ (Exists.intro _ (And.intro d13 (And.intro (vp_in_nI hd (by decide)) ?_)))
        rw [nI_clamp (by omega), pL]
        refine Exists.intro _ (And.intro hM.1 (Exists.intro 0 (Exists.intro 0 (And.intro (Nat.le_refl _) (And.intro (Nat.le_refl _) (c_all hX (by omega) ?_))))))
        refine Exists.intro 0 (Exists.intro 0 (And.intro (Nat.le_refl _) (And.intro (Nat.le_refl _) (c_in hX ?_))))
        cases c4 : inB s (dL D) with
        | false =>
          rw [if_neg (fun z => by rw [(inB_all (by omega)).mp z] at c4; cases c4)]
          refine And.intro (fun cz => by first | exact absurd cz (by decide) | exact absurd (by decide) cz) (fun _ => ?_)
          exact And.intro rfl ((no (by unfold lgB; rw [c4]; simp)))
        | true =>
          rw [if_pos ((inB_all (by omega)).mpr c4)]
          refine And.intro (fun _ => ?_) (fun cz => by first | exact absurd cz (by decide) | exact absurd (by decide) cz)
          obtain ⟨i, hi2, rfl⟩ := nI_of (Int32.not_lt.mpr c2.1)
          obtain ⟨j, hj, rfl⟩ := nI_of c3
          have hi6 : i ≤ 6 := by
            rcases Nat.lt_or_ge 6 i with z | z
            · exact absurd (nI_lt (a := 6) z hi2) (Int32.not_lt.mpr c2.2)
            · exact z
          have okv : ∀ b : Bool, okA (dI D) i j = b → lgB D L (nI i) (nI j) s = b := fun b hb => by
            unfold lgB okN
            rw [c4, nI_clamp hi2, nI_clamp hj, decide_eq_true c1b, decide_eq_true c2.1, decide_eq_true c2.2, decide_eq_true (Int32.not_lt.mp c3), hb]
            cases b <;> rfl
          have loop : ∀ (m k j2 : Nat) (ok : Bool), k + m = i → j2 < 2 ^ 31 → okA (dI D) i j = (ok && okA (dI D) m j2) → Go l G 12 s_X12_log 0 0 Post 63 [(6, .int (nI k)), (5, .int (nI ok.toNat)), (4, .int (nI j2)), (0, .ref o), (1, .int (nI i)), (2, .int (nI j)), (3, .int s)] [] h nx 0 0 := by
            intro m
            induction m with
            | zero =>
              intro k j2 ok hk hj2 ho
              have e : k = i := by omega
              subst e
              refine Go.of hX.2 ck_X12_log [63] 120 ?_
              refine And.intro (fun _ => ?_) (fun cz => absurd (nI_le (Nat.le_refl _) hi2) cz)
              cases ok with
              | false =>
                refine And.intro (fun _ => ?_) (fun cz => by first | exact absurd cz (by decide) | exact absurd (by decide) cz)
                exact And.intro rfl ((no (okv false ho)))
              | true =>
                refine And.intro (fun cz => by first | exact absurd cz (by decide) | exact absurd (by decide) cz) (fun _ => ?_)
                rw [Bool.true_and] at ho
                by_cases c5 : j2 = 0
                · refine And.intro (fun _ => ?_) (fun cz => absurd (show nI j2 ≤ 0 from by rw [c5]; decide) cz)
                  have cb := okv true (by rw [ho]; exact decide_eq_true c5)
                  obtain ⟨t, ht, es⟩ := (inB_c (by omega)).mp c4
                  have h5 : 2 ^ dL D ≤ 2 ^ 5 := Nat.pow_le_pow_right (by decide) hl
                  have et : s.toNatClampNeg = t := by rw [es]; exact nI_clamp (by omega)
                  have R0 := MLo.rf hM hS
                  have hlv : L.length < 2 ^ 31 := by omega
                  refine Exists.intro _ (And.intro hM.1 (Exists.intro _ (And.intro (hM.2.2 57 (by decide)) ?_)))
                  refine Exists.intro _ (And.intro hM.1 (Exists.intro _ (And.intro f91 ?_)))
                  refine Exists.intro _ (Exists.intro _ (And.intro e57 (And.intro (vp_in_nI c1b (by decide)) ?_)))
                  rw [nI_clamp hlv]
                  have R1 := R0.row (j := 57) (n := 40) (g := upd g0 L.length (-1)) (by decide) rfl
                  refine Exists.intro _ (And.intro R1.1.1 (Exists.intro _ (And.intro (R1.1.2.2 58 (by decide)) ?_)))
                  refine Exists.intro _ (And.intro R1.1.1 (Exists.intro _ (And.intro f91 ?_)))
                  refine Exists.intro _ (Exists.intro _ (And.intro ((uph_ne (by omega)).trans e58) (And.intro (vp_in_nI c1b (by decide)) ?_)))
                  rw [nI_clamp hlv]
                  have R2 := R1.row (j := 58) (n := 40) (g := upd g1 L.length (nI k)) (by decide) rfl
                  refine Exists.intro _ (And.intro R2.1.1 (Exists.intro _ (And.intro (R2.1.2.2 59 (by decide)) ?_)))
                  refine Exists.intro _ (And.intro R2.1.1 (Exists.intro _ (And.intro f91 ?_)))
                  refine Exists.intro _ (Exists.intro _ (And.intro ((uph_ne (by omega)).trans ((uph_ne (by omega)).trans e59)) (And.intro (vp_in_nI c1b (by decide)) ?_)))
                  rw [nI_clamp hlv]
                  have R3 := R2.row (j := 59) (n := 40) (g := upd g2 L.length (nI j)) (by decide) rfl
                  refine Exists.intro _ (And.intro R3.1.1 (Exists.intro _ (And.intro (R3.1.2.2 60 (by decide)) ?_)))
                  refine Exists.intro _ (And.intro R3.1.1 (Exists.intro _ (And.intro f91 ?_)))
                  refine Exists.intro _ (Exists.intro _ (And.intro ((uph_ne (by omega)).trans ((uph_ne (by omega)).trans ((uph_ne (by omega)).trans e60))) (And.intro (vp_in_nI c1b (by decide)) ?_)))
                  rw [nI_clamp hlv]
                  have R4 := R3.row (j := 60) (n := 40) (g := upd g3 L.length s) (by decide) rfl
                  refine Exists.intro _ (And.intro R4.1.1 (Exists.intro _ (And.intro f91 ?_)))
                  refine Exists.intro _ (And.intro R4.1.1 (And.intro (by omega) (And.intro rfl (And.intro rfl ?_))))
                  have R5 := R4.set (v := .int (nI L.length + 1))
                  refine Exists.intro _ (And.intro uph_eq (Exists.intro _ (And.intro (List.getElem?_set_self (by omega)) ?_)))
                  refine And.intro rfl ?_
                  have hP := hP _ _ R5 (by
                    unfold lgL
                    rw [if_pos cb]
                    refine ⟨upd g0 L.length (-1), upd g1 L.length (nI k), upd g2 L.length (nI j), upd g3 L.length s, ?_, ?_, ?_, ?_, ?_, fun x hx => ?_⟩
                    · rw [uph_ne (by omega), uph_ne (by omega), uph_ne (by omega), uph_ne (by omega)]; exact uph_eq
                    · rw [uph_ne (by omega), uph_ne (by omega), uph_ne (by omega)]; exact uph_eq
                    · rw [uph_ne (by omega), uph_ne (by omega)]; exact uph_eq
                    · rw [uph_ne (by omega)]; exact uph_eq
                    · rw [List.getElem?_set_self (by omega), List.length_append, List.length_singleton, nI_succ]
                    · rw [List.length_append, List.length_singleton] at hx
                      by_cases ex : x = L.length
                      · rw [ex, gE_r, pk_us, pk_us, pk_us, pk_us]
                        refine ⟨rfl, fun _ => ⟨?_, ?_, ?_⟩⟩
                        · show nI k = nI (nI k).toNatClampNeg
                          rw [nI_clamp hi2]
                        · show nI j = nI (nI j).toNatClampNeg
                          rw [nI_clamp hj]
                        · show s = nI s.toNatClampNeg
                          rw [et]; exact es
                      · rw [gE_l (by omega), pk_un ex, pk_un ex, pk_un ex, pk_un ex]
                        exact r x (by omega))
                  unfold lgA at hP
                  rw [if_pos cb] at hP
                  show Post (some (.int (nI L.length + 1 - 1))) _ nx
                  rw [show nI L.length + 1 - 1 = nI L.length from by rw [← nI_succ, nI_pred]]
                  exact hP
                · refine And.intro (fun cz => absurd cz (show ¬ nI j2 ≤ 0 from nI_ge (a := 0) (b := j2) (by omega) hj2)) (fun _ => ?_)
                  exact And.intro rfl ((no (okv false (by rw [ho]; exact decide_eq_false c5))))
            | succ m ih =>
              intro k j2 ok hk hj2 ho
              have er : nI j2 - nI j2 / 5 * 5 = nI (j2 % 5) := pk_rem (d := 5) hj2 (by decide) (by decide)
              have ed : nI j2 / 5 = nI (j2 / 5) := pk_div (d := 5) hj2 (by decide) (by decide)
              have ho2 : okA (dI D) i j = (ok && (decide (j2 % 5 < dI D) && okA (dI D) m (j2 / 5))) := ho
              have nxt : ∀ b : Bool, b = (ok && decide (j2 % 5 < dI D)) → Go l G 12 s_X12_log 0 0 Post 63 [(6, .int (nI k + 1)), (5, .int (nI b.toNat)), (4, .int (nI j2 / 5)), (0, .ref o), (1, .int (nI i)), (2, .int (nI j)), (3, .int s)] [] h nx 0 0 := by
                intro b hb
                rw [ed, ← nI_succ]
                exact ih (k + 1) (j2 / 5) b (by omega) (by omega) (by rw [ho2, hb, Bool.and_assoc])
              refine Go.of hX.2 ck_X12_log [63] 60 ?_
              refine And.intro (fun cz => absurd cz (nI_ge (a := k) (b := i) (by omega) hi2)) (fun _ => ?_)
              cases ok with
              | false =>
                refine And.intro (fun _ => ?_) (fun cz => by first | exact absurd cz (by decide) | exact absurd (by decide) cz)
                refine And.intro (by decide) ?_
                exact go_loc (lv' := [(6, .int (nI k + 1)), (5, .int (nI 0)), (4, .int (nI j2 / 5)), (0, .ref o), (1, .int (nI i)), (2, .int (nI j)), (3, .int s)]) ⟨rfl, rfl, rfl, rfl, rfl, rfl, rfl, trivial⟩ (nxt false rfl)
              | true =>
                refine And.intro (fun cz => by first | exact absurd cz (by decide) | exact absurd (by decide) cz) (fun _ => ?_)
                refine And.intro (by decide) ?_
                refine Exists.intro _ (And.intro hM.1 (Exists.intro _ (And.intro (hM.2.2 7 (by decide)) ?_)))
                refine Exists.intro _ (And.intro hM.1 (Exists.intro _ (And.intro f19 ?_)))
                refine Exists.intro _ (Exists.intro _ (And.intro eI (And.intro (vp_in_nI hd (by decide)) ?_)))
                rw [nI_clamp (by omega), pI]
                by_cases c5 : j2 % 5 < dI D
                · refine And.intro (fun cz => absurd cz (show ¬ nI (dI D) ≤ nI j2 - nI j2 / 5 * 5 from by rw [er]; exact nI_ge c5 (by omega))) (fun _ => ?_)
                  refine And.intro (by decide) ?_
                  exact go_loc (lv' := [(6, .int (nI k + 1)), (5, .int (nI 1)), (4, .int (nI j2 / 5)), (0, .ref o), (1, .int (nI i)), (2, .int (nI j)), (3, .int s)]) ⟨rfl, rfl, rfl, rfl, rfl, rfl, rfl, trivial⟩ (nxt true (by rw [decide_eq_true c5]; rfl))
                · refine And.intro (fun _ => ?_) (fun cz => absurd (show nI (dI D) ≤ nI j2 - nI j2 / 5 * 5 from by rw [er]; exact nI_le (by omega) (by omega)) cz)
                  refine And.intro (by decide) ?_
                  exact go_loc (lv' := [(6, .int (nI k + 1)), (5, .int (nI 0)), (4, .int (nI j2 / 5)), (0, .ref o), (1, .int (nI i)), (2, .int (nI j)), (3, .int s)]) ⟨rfl, rfl, rfl, rfl, rfl, rfl, rfl, trivial⟩ (nxt false (by rw [decide_eq_false c5]; rfl))
          exact go_loc (lv' := [(6, .int (nI 0)), (5, .int (nI 1)), (4, .int (nI j)), (0, .ref o), (1, .int (nI i)), (2, .int (nI j)), (3, .int s)]) ⟨rfl, rfl, rfl, rfl, rfl, rfl, rfl, trivial⟩ (loop i 0 j true (Nat.zero_add _) hj (by rw [Bool.true_and]))
    · rw [if_neg c2]
      refine And.intro (fun _ => ?_) (fun cz => by first | exact absurd cz (by decide) | exact absurd (by decide) cz)
      have zz : lgB D L n a s = false := by
        unfold lgB okN
        by_cases z : 0 ≤ n
        · rw [decide_eq_false (p := n ≤ 6) (fun z2 => c2 ⟨z, z2⟩)]; simp
        · rw [decide_eq_false z]; simp
      exact And.intro rfl ((no zz))
set_option maxHeartbeats 8000000 in
theorem m_annul {l : Launch} {G : GG} {h : AH} {nx : Nat} {Post : Option Value → AH → Nat → Prop} {o : Nat} {k : Int32} {L : List LE} {fs : List Value} (hX : XC G ∧ TX l G) (hM : MA h o fs) (hS : SHm h o) (hL : MLg h o fs L) (hwl : WLg L) (hP : ∀ (h1 : AH) (fs1 : List Value), MLo h o fs h1 fs1 → MLg h1 o fs1 (anL L k) → Post (some (.int (anA L k))) h1 nx) : Runs l G i_X12_annul 0 0 [.ref o, .int k] h nx Post := by
  have h40 := hwl.1
  have hlen := hM.2.1
  obtain ⟨g0, g1, g2, g3, e57, e58, e59, e60, f91, r⟩ := id hL
  have hlv : L.length < 2 ^ 31 := by omega
  have no : anB L k = false → Post (some (.int (-1))) h nx := fun z => by
    have hP := hP h fs (MLo.rf hM hS) (by unfold anL; rw [if_neg (by rw [z]; decide)]; exact hL)
    unfold anA at hP
    rw [if_neg (by rw [z]; decide)] at hP
    exact hP
  refine en_X12_annul hX [] 80 rfl ?_
  refine Exists.intro _ (And.intro hM.1 (Exists.intro _ (And.intro f91 ?_)))
  by_cases c1 : L.length = 40
  · refine And.intro (fun _ => ?_) (fun cz => absurd (show nI L.length = 40 from by rw [c1]; rfl) cz)
    exact And.intro rfl ((no (by unfold anB; rw [decide_eq_false (by omega)]; rfl)))
  · have c1b : L.length < 40 := by omega
    refine And.intro (fun cz => absurd cz (fun z => c1 ((nI_eq (a := L.length) (b := 40) (by omega) (by decide)).mp z))) (fun _ => ?_)
    refine Exists.intro _ (And.intro hM.1 (Exists.intro _ (And.intro f91 ?_)))
    refine Exists.intro 0 (Exists.intro 0 (And.intro (Nat.le_refl _) (And.intro (Nat.le_refl _) (c_in hX ?_))))
    by_cases c2 : 0 ≤ k ∧ k < nI L.length
    · rw [if_pos ((in_n hlv).mpr c2)]
      refine And.intro (fun cz => by first | exact absurd cz (by decide) | exact absurd (by decide) cz) (fun _ => ?_)
      obtain ⟨j, hj, rfl⟩ := nI_of (Int32.not_lt.mpr c2.1)
      have hjl := (nI_ltI hj hlv).mp c2.2
      refine Exists.intro _ (And.intro hM.1 (Exists.intro _ (And.intro (hM.2.2 57 (by decide)) ?_)))
      refine Exists.intro _ (Exists.intro _ (And.intro e57 (And.intro (vp_in_nI (by omega) (by decide)) ?_)))
      rw [nI_clamp hj, (r j hjl).1]
      by_cases c4 : (gE L j).1 = -1
      · refine And.intro (fun _ => ?_) (fun cz => absurd (c4) cz)
        have cb : anB L (nI j) = true := by unfold anB; rw [decide_eq_true c1b, decide_eq_true c2.1, decide_eq_true c2.2, nI_clamp hj, decide_eq_true c4]; rfl
        have R0 := MLo.rf hM hS
        refine Exists.intro _ (And.intro hM.1 (Exists.intro _ (And.intro (hM.2.2 57 (by decide)) ?_)))
        refine Exists.intro _ (And.intro hM.1 (Exists.intro _ (And.intro f91 ?_)))
        refine Exists.intro _ (Exists.intro _ (And.intro e57 (And.intro (vp_in_nI c1b (by decide)) ?_)))
        rw [nI_clamp hlv]
        have R1 := R0.row (j := 57) (n := 40) (g := upd g0 L.length (nI j)) (by decide) rfl
        refine Exists.intro _ (And.intro R1.1.1 (Exists.intro _ (And.intro f91 ?_)))
        refine Exists.intro _ (And.intro R1.1.1 (And.intro (by omega) (And.intro rfl (And.intro rfl ?_))))
        have R2 := R1.set (v := .int (nI L.length + 1))
        refine Exists.intro _ (And.intro uph_eq (Exists.intro _ (And.intro (List.getElem?_set_self (by omega)) ?_)))
        refine And.intro rfl ?_
        have hP := hP _ _ R2 (by
          unfold anL
          rw [if_pos cb]
          refine ⟨upd g0 L.length (nI j), g1, g2, g3, ?_, ?_, ?_, ?_, ?_, fun x hx => ?_⟩
          · rw [uph_ne (by omega)]; exact uph_eq
          · rw [uph_ne (by omega), uph_ne (by omega)]; exact e58
          · rw [uph_ne (by omega), uph_ne (by omega)]; exact e59
          · rw [uph_ne (by omega), uph_ne (by omega)]; exact e60
          · rw [List.getElem?_set_self (by omega), List.length_append, List.length_singleton, nI_succ]
          · rw [List.length_append, List.length_singleton] at hx
            by_cases ex : x = L.length
            · rw [ex, gE_r, pk_us]
              exact ⟨rfl, fun z => absurd (show nI j < 0 from (show nI j = -1 from z) ▸ (by decide)) (nI_pos hj)⟩
            · rw [gE_l (by omega), pk_un ex]
              exact r x (by omega))
        unfold anA at hP
        rw [if_pos cb] at hP
        show Post (some (.int (nI L.length + 1 - 1))) _ nx
        rw [show nI L.length + 1 - 1 = nI L.length from by rw [← nI_succ, nI_pred]]
        exact hP
      · refine And.intro (fun cz => absurd cz (c4)) (fun _ => ?_)
        exact And.intro rfl ((no (by unfold anB; rw [nI_clamp hj, decide_eq_false c4, Bool.and_false, Bool.and_false, Bool.and_false])))
    · rw [if_neg (fun z => c2 ((in_n hlv).mp z))]
      refine And.intro (fun _ => ?_) (fun cz => by first | exact absurd cz (by decide) | exact absurd (by decide) cz)
      have zz : anB L k = false := by
        unfold anB
        by_cases z : 0 ≤ k
        · rw [decide_eq_false (p := k < nI L.length) (fun z2 => c2 ⟨z, z2⟩)]; simp
        · rw [decide_eq_false z]; simp
      exact And.intro rfl ((no zz))
set_option maxHeartbeats 8000000 in
theorem m_showsBehind {l : Launch} {G : GG} {h : AH} {nx : Nat} {Post : Option Value → AH → Nat → Prop} {o d n r : Nat} {D : DD} {q : HKy} {fs : List Value} (hX : XC G ∧ TX l G) (hM : MA h o fs) (f19 : fs[19]? = some (.int (nI d))) (hD : MPg h o d D) (hq : WK q) (hqD : kD q = D) (hB : HB h o 1 q) (hn : n < 2 ^ 31) (hr : r < 2 ^ 31) (hP : Post (some (.int (outF q n r))) h nx) : Runs l G i_X12_showsBehind 0 0 [.ref o, .int (nI n), .int (nI r)] h nx Post := by
  have hd := hD.2.2.2.2.2.2.2
  obtain ⟨_, _, _, ⟨gI, eI, pI⟩, _⟩ := id hD
  have hi5 := hq.1.i
  have hpr := hq.1.pr
  subst hqD
  have tail : ∀ (on : Nat) (up : Int32) (lv : LV), on < 2 ^ dI (kD q) → (up = -2 ∨ ∃ s, s < 2 ^ dR (kD q) ∧ up = nI s) → outF q n r = (if up = -2 then -2 else nI (kSh q on up.toNatClampNeg >>> 6)) → lk lv 4 = some (.int up) → lk lv 3 = some (.int (nI on)) → lk lv 0 = some (.ref o) → Go l G 12 s_X12_showsBehind 0 0 Post 80 lv [] h nx 0 0 := by
    intro on up lv hon hup ho l4 l3 l0
    rw [ho] at hP
    refine go_loc (lv' := [(4, .int up), (3, .int (nI on)), (0, .ref o)]) ⟨l4, l3, l0, trivial⟩ ?_
    refine Go.of hX.2 ck_X12_showsBehind [] 30 ?_
    rcases hup with rfl | ⟨s, hs1, rfl⟩
    · refine And.intro (fun cz => by first | exact absurd cz (by decide) | exact absurd (by decide) cz) (fun _ => ?_)
      rw [if_pos rfl] at hP
      exact And.intro rfl (hP)
    · have ne := (nI_n2 (show s < 64 by omega)).1
      refine And.intro (fun _ => ?_) (fun cz => absurd cz (ne))
      rw [if_neg ne, nI_clamp (by omega)] at hP
      refine Exists.intro _ (And.intro hM.1 (Exists.intro 0 (Exists.intro 0 (And.intro (Nat.le_refl _) (And.intro (Nat.le_refl _) (m_lampsAt (hh := 1) hX hM (by decide) hq hB hon hs1 ?_))))))
      exact And.intro rfl (hP)
  have loop : ∀ (m i on r2 : Nat) (up : Int32), i + m = n → on < 2 ^ dI (kD q) → (up = -2 ∨ ∃ s, s < 2 ^ dR (kD q) ∧ up = nI s) → r2 < 2 ^ 31 → outF q n r = oW q m r2 on up → Go l G 12 s_X12_showsBehind 0 0 Post 15 [(6, .int (nI i)), (5, .int (nI r2)), (4, .int up), (3, .int (nI on)), (0, .ref o), (1, .int (nI n))] [] h nx 0 0 := by
    intro m
    induction m with
    | zero =>
      intro i on r2 up hi hon hup hr2 ho
      refine Go.of hX.2 ck_X12_showsBehind [80] 20 ?_
      refine And.intro (fun _ => ?_) (fun cz => absurd (nI_le (a := n) (b := i) (by omega) (by omega)) cz)
      exact tail on up _ hon hup ho rfl rfl rfl
    | succ m ih =>
      intro i on r2 up hi hon hup hr2 ho
      unfold oW at ho
      refine Go.of hX.2 ck_X12_showsBehind [15, 80] 60 ?_
      refine And.intro (fun cz => absurd cz (nI_ge (a := i) (b := n) (by omega) (by omega))) (fun _ => ?_)
      rcases hup with rfl | ⟨s, hs1, rfl⟩
      · refine And.intro (fun _ => ?_) (fun cz => by first | exact absurd cz (by decide) | exact absurd (by decide) cz)
        exact tail on (-2) _ hon (Or.inl rfl) (by rw [ho]; rfl) rfl rfl rfl
      · have ne := (nI_n2 (show s < 64 by omega)).1
        refine And.intro (fun cz => absurd cz (ne)) (fun _ => ?_)
        rw [if_neg ne, nI_clamp (by omega)] at ho
        have er : nI r2 - nI r2 / 5 * 5 = nI (r2 % 5) := pk_rem (d := 5) hr2 (by decide) (by decide)
        have ed : nI r2 / 5 = nI (r2 / 5) := pk_div (d := 5) hr2 (by decide) (by decide)
        refine And.intro (by decide) ?_
        refine And.intro (by decide) ?_
        refine Exists.intro _ (And.intro hM.1 (Exists.intro _ (And.intro (hM.2.2 7 (by decide)) ?_)))
        refine Exists.intro _ (And.intro hM.1 (Exists.intro _ (And.intro f19 ?_)))
        refine Exists.intro _ (Exists.intro _ (And.intro eI (And.intro (vp_in_nI hd (by decide)) ?_)))
        rw [nI_clamp (show d < 2 ^ 31 by omega), pI]
        by_cases c1 : r2 % 5 < dI (kD q)
        · rw [if_pos c1] at ho
          refine And.intro (fun _ => ?_) (fun cz => absurd (show nI r2 - nI r2 / 5 * 5 < nI (dI (kD q)) from by rw [er]; exact nI_lt c1 (by omega)) cz)
          have hon2 := xor_pow_lt hon c1
          have e1 : nI on ^^^ ((1 : Int32) <<< ((nI r2 - nI r2 / 5 * 5) &&& 31)) = nI (on ^^^ 2 ^ (r2 % 5)) := by rw [er, nx_pow (by omega), nx_xor]
          refine Exists.intro _ (And.intro hM.1 (Exists.intro 0 (Exists.intro 0 (And.intro (Nat.le_refl _) (And.intro (Nat.le_refl _) ?_)))))
          rw [e1]
          refine m_behind (hh := 1) hX hM (by decide) hq hB hon2 hs1 ?_
          refine go_loc (lv' := [(6, .int (nI i + 1)), (5, .int (nI r2 / 5)), (4, .int (kSe q (on ^^^ 2 ^ (r2 % 5)) s)), (3, .int (nI (on ^^^ 2 ^ (r2 % 5)))), (0, .ref o), (1, .int (nI n))]) ⟨rfl, rfl, rfl, rfl, rfl, rfl, trivial⟩ ?_
          rw [ed, ← nI_succ]
          refine ih (i + 1) _ _ _ (by omega) hon2 ?_ (by omega) ho
          rcases kSe_c hq (on := on ^^^ 2 ^ (r2 % 5)) hs1 with e | ⟨t, a1, e, _⟩
          · exact Or.inl e
          · exact Or.inr ⟨t, a1, e⟩
        · rw [if_neg c1] at ho
          refine And.intro (fun cz => absurd cz (show ¬ nI r2 - nI r2 / 5 * 5 < nI (dI (kD q)) from by rw [er]; exact nI_nlt (by omega) (by omega))) (fun _ => ?_)
          refine go_loc (lv' := [(6, .int (nI i + 1)), (5, .int (nI r2 / 5)), (4, .int (nI s)), (3, .int (nI on)), (0, .ref o), (1, .int (nI n))]) ⟨rfl, rfl, rfl, rfl, rfl, rfl, trivial⟩ ?_
          rw [ed, ← nI_succ]
          exact ih (i + 1) on _ _ (by omega) hon (Or.inr ⟨s, hs1, rfl⟩) (by omega) ho
  refine en_X12_showsBehind hX [15] 40 rfl ?_
  refine Exists.intro _ (And.intro hM.1 (Exists.intro 0 (Exists.intro 0 (And.intro (Nat.le_refl _) (And.intro (Nat.le_refl _) (m_startOf (hh := 1) hX hM (by decide) hq hB ?_))))))
  refine go_loc (lv' := [(6, .int (nI 0)), (5, .int (nI r)), (4, .int (kSe q 0 (kSu q))), (3, .int (nI 0)), (0, .ref o), (1, .int (nI n))]) ⟨rfl, rfl, rfl, rfl, rfl, rfl, trivial⟩ ?_
  refine loop n 0 0 r _ (Nat.zero_add _) (Nat.two_pow_pos _) ?_ hr rfl
  rcases kSe_c hq (on := 0) (kSt_up hq).2 with e | ⟨t, a1, e, _⟩
  · exact Or.inl e
  · exact Or.inr ⟨t, a1, e⟩
theorem vd_late {L : List LE} {k j : Nat} (hw : WLg L) (hj : j ≤ k) (hk : k < L.length) : (gE L j).1 ≠ nI k := fun e => by
  have h40 := hw.1
  rcases hw.2 j (by omega) with z | ⟨i, hi, ei⟩
  · rw [z.1] at e
    exact absurd (show nI k < 0 from e ▸ (by decide)) (nI_pos (by omega))
  · rw [ei] at e
    have := (nI_eq (by omega) (by omega)).mp e
    omega
set_option maxHeartbeats 8000000 in
theorem m_isVoid {l : Launch} {G : GG} {h : AH} {nx : Nat} {Post : Option Value → AH → Nat → Prop} {o k n : Nat} {L : List LE} {fs : List Value} (hX : XC G ∧ TX l G) (hM : MA h o fs) (hL : MLg h o fs L) (hw : WLg L) (hn : n ≤ L.length) (hk : k < n) (hP : Post (some (.int (nI (vdB L k n).toNat))) h nx) : Runs l G i_X12_isVoid 0 0 [.ref o, .int (nI k), .int (nI n)] h nx Post := by
  have h40 := hw.1
  obtain ⟨g0, g1, g2, g3, e57, e58, e59, e60, f91, r⟩ := id hL
  have loop : ∀ (m i : Nat), i + m = n → (∀ j, j < i → (gE L j).1 ≠ nI k) → Go l G 12 s_X12_isVoid 0 0 Post 4 [(3, .int (nI i)), (0, .ref o), (1, .int (nI k)), (2, .int (nI n))] [] h nx 0 0 := by
    intro m
    induction m with
    | zero =>
      intro i hi hno
      have e : i = n := by omega
      subst e
      refine Go.of hX.2 ck_X12_isVoid [4] 20 ?_
      refine And.intro (fun _ => ?_) (fun cz => absurd (nI_le (Nat.le_refl _) (by omega)) cz)
      have ev : vdB L k i = false := by
        unfold vdB
        rw [List.any_eq_false]
        intro j hj
        rw [decide_eq_false (hno j (List.mem_range.mp hj))]
        decide
      rw [ev] at hP
      exact And.intro rfl (hP)
    | succ m ih =>
      intro i hi hno
      have hil : i < L.length := by omega
      refine Go.of hX.2 ck_X12_isVoid [4] 40 ?_
      refine And.intro (fun cz => absurd cz (nI_ge (a := i) (b := n) (by omega) (by omega))) (fun _ => ?_)
      refine Exists.intro _ (And.intro hM.1 (Exists.intro _ (And.intro (hM.2.2 57 (by decide)) ?_)))
      refine Exists.intro _ (Exists.intro _ (And.intro e57 (And.intro (vp_in_nI (by omega) (by decide)) ?_)))
      rw [nI_clamp (show i < 2 ^ 31 by omega), (r i hil).1]
      by_cases c : (gE L i).1 = nI k
      · refine And.intro (fun cz => absurd (c) cz) (fun _ => ?_)
        have ev : vdB L k n = true := by
          unfold vdB
          rw [List.any_eq_true]
          exact ⟨i, List.mem_range.mpr (by omega), decide_eq_true c⟩
        rw [ev] at hP
        exact And.intro rfl (hP)
      · refine And.intro (fun _ => ?_) (fun cz => absurd cz (c))
        refine go_loc (lv' := [(3, .int (nI i + 1)), (0, .ref o), (1, .int (nI k)), (2, .int (nI n))]) ⟨rfl, rfl, rfl, rfl, trivial⟩ ?_
        rw [← nI_succ]
        exact ih (i + 1) (by omega) (fun j hj => by
          by_cases e : j = i
          · rw [e]; exact c
          · exact hno j (by omega))
  refine en_X12_isVoid hX [4] 20 rfl ?_
  refine go_loc (lv' := [(3, .int (nI k + 1)), (0, .ref o), (1, .int (nI k)), (2, .int (nI n))]) ⟨rfl, rfl, rfl, rfl, trivial⟩ ?_
  rw [← nI_succ]
  exact loop (n - (k + 1)) (k + 1) (by omega) (fun j hj => vd_late hw (by omega) (by omega))
set_option maxHeartbeats 8000000 in
theorem m_fitsLogs {l : Launch} {G : GG} {h : AH} {nx : Nat} {Post : Option Value → AH → Nat → Prop} {o d n : Nat} {D : DD} {q : HKy} {L : List LE} {fs : List Value} (hX : XC G ∧ TX l G) (hM : MA h o fs) (f19 : fs[19]? = some (.int (nI d))) (hD : MPg h o d D) (hq : WK q) (hqD : kD q = D) (hB : HB h o 1 q) (hL : MLg h o fs L) (hw : WLg L) (hn : n ≤ L.length) (hP : Post (some (.int (nI (fitB q L n).toNat))) h nx) : Runs l G i_X12_fitsLogs 0 0 [.ref o, .int (nI n)] h nx Post := by
  have h40 := hw.1
  obtain ⟨g0, g1, g2, g3, e57, e58, e59, e60, f91, r⟩ := id hL
  have loop : ∀ (m i : Nat), i + m = n → (∀ j, j < i → fitL q L n j = true) → Go l G 12 s_X12_fitsLogs 0 0 Post 2 [(2, .int (nI i)), (0, .ref o), (1, .int (nI n))] [] h nx 0 0 := by
    intro m
    induction m with
    | zero =>
      intro i hi hall
      have e : i = n := by omega
      subst e
      refine Go.of hX.2 ck_X12_fitsLogs [2] 20 ?_
      refine And.intro (fun _ => ?_) (fun cz => absurd (nI_le (Nat.le_refl _) (by omega)) cz)
      rw [show fitB q L i = true from by unfold fitB; rw [List.all_eq_true]; exact fun j hj => hall j (List.mem_range.mp hj)] at hP
      exact And.intro rfl (hP)
    | succ m ih =>
      intro i hi hall
      have hil : i < L.length := by omega
      have hin : i < n := by omega
      have next : fitL q L n i = true → ∀ (lv : LV), lk lv 2 = some (.int (nI i)) → lk lv 0 = some (.ref o) → lk lv 1 = some (.int (nI n)) → Go l G 12 s_X12_fitsLogs 0 0 Post 64 lv [] h nx 0 0 := by
        intro hfi lv l2 l0 l1
        refine go_loc (lv' := [(2, .int (nI i)), (0, .ref o), (1, .int (nI n))]) ⟨l2, l0, l1, trivial⟩ ?_
        refine Go.of hX.2 ck_X12_fitsLogs [2] 20 ?_
        refine go_loc (lv' := [(2, .int (nI i + 1)), (0, .ref o), (1, .int (nI n))]) ⟨rfl, rfl, rfl, trivial⟩ ?_
        rw [← nI_succ]
        exact ih (i + 1) (by omega) (fun j hj => by
          by_cases e : j = i
          · rw [e]; exact hfi
          · exact hall j (by omega))
      refine Go.of hX.2 ck_X12_fitsLogs [2, 64] 60 ?_
      refine And.intro (fun cz => absurd cz (nI_ge (a := i) (b := n) (by omega) (by omega))) (fun _ => ?_)
      refine Exists.intro _ (And.intro hM.1 (Exists.intro _ (And.intro (hM.2.2 57 (by decide)) ?_)))
      refine Exists.intro _ (Exists.intro _ (And.intro e57 (And.intro (vp_in_nI (by omega) (by decide)) ?_)))
      rw [nI_clamp (show i < 2 ^ 31 by omega), (r i hil).1]
      by_cases c1 : (gE L i).1 = -1
      · refine And.intro (fun cz => absurd (c1) cz) (fun _ => ?_)
        refine Exists.intro _ (And.intro hM.1 (Exists.intro 0 (Exists.intro 0 (And.intro (Nat.le_refl _) (And.intro (Nat.le_refl _) (m_isVoid hX hM hL hw hn hin ?_))))))
        cases cv : vdB L i n with
        | true =>
          refine And.intro (fun cz => by first | exact absurd cz (by decide) | exact absurd (by decide) cz) (fun _ => ?_)
          exact next (by unfold fitL; rw [cv]; simp) _ rfl rfl rfl
        | false =>
          refine And.intro (fun _ => ?_) (fun cz => by first | exact absurd cz (by decide) | exact absurd (by decide) cz)
          obtain ⟨r1, r2, r3⟩ := (r i hil).2 c1
          have hwi := (hw.2 i hil).resolve_right (fun ⟨j, hj, ej⟩ => by
            rw [c1] at ej
            exact absurd (show nI j < 0 from ej ▸ (by decide)) (nI_pos (by omega)))
          refine Exists.intro _ (And.intro hM.1 (Exists.intro _ (And.intro (hM.2.2 58 (by decide)) ?_)))
          refine Exists.intro _ (Exists.intro _ (And.intro e58 (And.intro (vp_in_nI (by omega) (by decide)) ?_)))
          rw [nI_clamp (show i < 2 ^ 31 by omega), r1]
          refine Exists.intro _ (And.intro hM.1 (Exists.intro _ (And.intro (hM.2.2 59 (by decide)) ?_)))
          refine Exists.intro _ (Exists.intro _ (And.intro e59 (And.intro (vp_in_nI (by omega) (by decide)) ?_)))
          rw [nI_clamp (show i < 2 ^ 31 by omega), r2]
          refine Exists.intro _ (And.intro hM.1 (Exists.intro 0 (Exists.intro 0 (And.intro (Nat.le_refl _) (And.intro (Nat.le_refl _) (m_showsBehind hX hM f19 hD hq hqD hB (by omega) hwi.2.2.1 ?_))))))
          by_cases c2 : outF q (gE L i).2.1 (gE L i).2.2.1 = -2
          · refine And.intro (fun _ => ?_) (fun cz => absurd (c2) cz)
            exact next (by unfold fitL; rw [decide_eq_true c2]; simp) _ rfl rfl rfl
          · refine And.intro (fun cz => absurd cz (c2)) (fun _ => ?_)
            refine Exists.intro _ (And.intro hM.1 (Exists.intro _ (And.intro (hM.2.2 60 (by decide)) ?_)))
            refine Exists.intro _ (Exists.intro _ (And.intro e60 (And.intro (vp_in_nI (by omega) (by decide)) ?_)))
            rw [nI_clamp (show i < 2 ^ 31 by omega), r3]
            by_cases c3 : outF q (gE L i).2.1 (gE L i).2.2.1 = nI (gE L i).2.2.2
            · refine And.intro (fun _ => ?_) (fun cz => absurd (c3) cz)
              exact next (by unfold fitL; rw [decide_eq_true c3]; simp) _ rfl rfl rfl
            · refine And.intro (fun cz => absurd cz (c3)) (fun _ => ?_)
              have hno : fitL q L n i = false := by
                unfold fitL
                rw [decide_eq_true c1, cv, decide_eq_false c2, decide_eq_false c3]
                rfl
              rw [show fitB q L n = false from by
                unfold fitB
                rw [List.all_eq_false]
                exact ⟨i, List.mem_range.mpr (by omega), by rw [hno]; decide⟩] at hP
              exact And.intro rfl (hP)
      · refine And.intro (fun _ => ?_) (fun cz => absurd cz (c1))
        exact next (by unfold fitL; rw [decide_eq_false c1]; rfl) _ rfl rfl rfl
  refine en_X12_fitsLogs hX [2] 20 rfl ?_
  exact go_loc (lv' := [(2, .int (nI 0)), (0, .ref o), (1, .int (nI n))]) ⟨rfl, rfl, rfl, trivial⟩ (loop n 0 (Nat.zero_add _) (fun j hj => absurd hj (Nat.not_lt_zero j)))
set_option maxHeartbeats 8000000 in
theorem m_isKnown {l : Launch} {G : GG} {h : AH} {nx : Nat} {Post : Option Value → AH → Nat → Prop} {o : Nat} {n : Int32} {L : List LE} {fs : List Value} (hX : XC G ∧ TX l G) (hM : MA h o fs) (hL : MLg h o fs L) (hP : Post (some (.int (nI (knB L n).toNat))) h nx) : Runs l G i_X12_isKnown 0 0 [.ref o, .int n] h nx Post := by
  obtain ⟨g0, g1, g2, g3, e57, e58, e59, e60, f91, r⟩ := id hL
  refine en_X12_isKnown hX [] 20 rfl ?_
  refine Exists.intro _ (And.intro hM.1 (Exists.intro _ (And.intro f91 ?_)))
  refine Exists.intro 0 (Exists.intro 0 (And.intro (Nat.le_refl _) (And.intro (Nat.le_refl _) (c_in hX ?_))))
  have e : (if 0 ≤ n ∧ n ≤ nI L.length then (1 : Int32) else 0) = nI (knB L n).toNat := by
    unfold knB
    by_cases c1 : 0 ≤ n
    · by_cases c2 : n ≤ nI L.length
      · rw [if_pos ⟨c1, c2⟩, decide_eq_true c1, decide_eq_true c2]; rfl
      · rw [if_neg (fun z => c2 z.2), decide_eq_true c1, decide_eq_false c2]; rfl
    · rw [if_neg (fun z => c1 z.1), decide_eq_false c1]; rfl
  rw [e]
  exact And.intro (nar_bb _) hP
theorem MLg.hut {h h1 : AH} {o : Nat} {fs fs1 : List Value} {L : List LE} (a : MH h o fs h1 fs1) (hL : MLg h o fs L) : MLg h1 o fs1 L := hL.ag (a.2.2.1 91 rfl) (fun j h1 h2 => a.2.2.2 _ (by omega))
theorem kFG_1 {D : DD} {f : Int32} : kFG D f (-1) = kOne D (fOf f) none := rfl
theorem vFn_1 {D : DD} : vFn (dK D) (dR D) (dow D) (-1) = true := rfl
set_option maxHeartbeats 8000000 in
theorem m_fits {l : Launch} {G : GG} {h : AH} {nx : Nat} {Post : Option Value → AH → Nat → Prop} {o d : Nat} {f n : Int32} {D : DD} {L : List LE} {fs : List Value} (hX : XC G ∧ TX l G) (hM : MA h o fs) (hS : SHm h o) (f19 : fs[19]? = some (.int (nI d))) (hD : MPg h o d D) (hw : WD D) (hL : MLg h o fs L) (hwl : WLg L) (hP : ∀ (h1 : AH) (fs1 : List Value), MH h o fs h1 fs1 → Post (some (.int (aFits D L f n))) h1 nx) : Runs l G i_X12_fits 0 0 [.ref o, .int f, .int n] h nx Post := by
  have hd := hD.2.2.2.2.2.2.2
  have no : ¬ (vFn (dK D) (dR D) (dow D) f = true ∧ knB L n = true) → Post (some (.int (-2))) h nx := fun z => by
    have hP := hP h fs (MH.rf hM hS)
    unfold aFits at hP
    rw [if_neg z] at hP
    exact hP
  have tail : vFn (dK D) (dR D) (dow D) f = true → Go l G 12 s_X12_fits 0 0 Post 21 [(0, .ref o), (1, .int f), (2, .int n)] [] h nx 0 0 := by
    intro c1
    refine Go.of hX.2 ck_X12_fits [] 60 ?_
    refine Exists.intro _ (And.intro hM.1 (Exists.intro 0 (Exists.intro 0 (And.intro (Nat.le_refl _) (And.intro (Nat.le_refl _) (m_isKnown hX hM hL ?_))))))
    cases c2 : knB L n with
    | false =>
      refine And.intro (fun cz => by first | exact absurd cz (by decide) | exact absurd (by decide) cz) (fun _ => ?_)
      exact And.intro rfl ((no (fun z => by rw [c2] at z; exact absurd z.2 (by decide))))
    | true =>
      refine And.intro (fun _ => ?_) (fun cz => by first | exact absurd cz (by decide) | exact absurd (by decide) cz)
      obtain ⟨m, hm, em, ec⟩ := knB_c hwl.1 c2
      refine Exists.intro _ (And.intro hM.1 (Exists.intro 0 (Exists.intro 0 (And.intro (Nat.le_refl _) (And.intro (Nat.le_refl _) (m_builds1 (hh := 1) hX hM hS f19 hD hw (by decide) c1 vFn_1 (fun h1 fs1 y1 y2 y3 y4 => ?_)))))))
      have hP := hP h1 fs1 y1
      unfold aFits at hP
      rw [if_pos ⟨c1, c2⟩, ec] at hP
      rw [em]
      refine Exists.intro _ (And.intro y1.1.1 (Exists.intro 0 (Exists.intro 0 (And.intro (Nat.le_refl _) (And.intro (Nat.le_refl _) (m_fitsLogs hX y1.1 (y1.f rfl f19) (y1.pg hD) y2 rfl y3 (hL.hut y1) hwl hm ?_))))))
      rw [kFG_1]
      cases c3 : fitB (kOne D (fOf f) none) L m with
      | false =>
        rw [c3] at hP
        refine And.intro (fun _ => ?_) (fun cz => by first | exact absurd cz (by decide) | exact absurd (by decide) cz)
        exact And.intro rfl (hP)
      | true =>
        rw [c3] at hP
        refine And.intro (fun cz => by first | exact absurd cz (by decide) | exact absurd (by decide) cz) (fun _ => ?_)
        exact And.intro rfl (hP)
  refine en_X12_fits hX [21] 60 rfl ?_
  refine Exists.intro _ (And.intro hM.1 (Exists.intro _ (And.intro f19 ?_)))
  refine And.intro (fun cz => absurd cz ((nI_n2 (show d < 64 by omega)).2.2)) (fun _ => ?_)
  by_cases c0 : f = -1
  · refine And.intro (fun _ => ?_) (fun cz => absurd (c0) cz)
    exact go_loc (lv' := [(0, .ref o), (1, .int f), (2, .int n)]) ⟨rfl, rfl, rfl, trivial⟩ (tail (by rw [c0]; rfl))
  · refine And.intro (fun cz => absurd cz (c0)) (fun _ => ?_)
    refine Exists.intro _ (And.intro hM.1 (Exists.intro 0 (Exists.intro 0 (And.intro (Nat.le_refl _) (And.intro (Nat.le_refl _) (m_isFlaw hX hM f19 hD hw ?_))))))
    have ev : vFn (dK D) (dR D) (dow D) f = vFx (dK D) (dR D) (dow D) f := by unfold vFn; rw [decide_eq_false c0]; rfl
    cases c1 : vFx (dK D) (dR D) (dow D) f with
    | false =>
      refine And.intro (fun _ => ?_) (fun cz => by first | exact absurd cz (by decide) | exact absurd (by decide) cz)
      exact And.intro rfl ((no (fun z => by rw [ev, c1] at z; exact absurd z.1 (by decide))))
    | true =>
      refine And.intro (fun cz => by first | exact absurd cz (by decide) | exact absurd (by decide) cz) (fun _ => ?_)
      exact go_loc (lv' := [(0, .ref o), (1, .int f), (2, .int n)]) ⟨rfl, rfl, rfl, trivial⟩ (tail (by rw [ev, c1]))
