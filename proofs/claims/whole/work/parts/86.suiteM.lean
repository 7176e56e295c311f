/-! the model's suite -/
/-- a test in the model's rows -/
def rwT (g53 g54 : Nat → Int32) (k : Nat) (p : TT2) : Prop := g53 k = nI p.1 ∧ ∀ j, j < p.1 → g54 (12 * k + j) = nI (p.2 j)
set_option maxHeartbeats 8000000 in
theorem m_sees {l : Launch} {G : GG} {h : AH} {nx : Nat} {Post : Option Value → AH → Nat → Prop} {o k f : Nat} {D : DD} {p : TT2} {g53 g54 : Nat → Int32} {fs : List Value} (hX : XC G ∧ TX l G) (hM : MA h o fs) (hw : WD D) (hf : okW D (some f)) (hB0 : HB h o 0 (tq0 D)) (hB1 : HB h o 1 (tq1 D f)) (e53 : h (o + 1 + 53) = some (.inl (0, 30, .inl g53))) (e54 : h (o + 1 + 54) = some (.inl (0, 360, .inl g54))) (hk : k < 30) (hr : rwT g53 g54 k p) (hp : tOk D p) (hP : Post (some (.int (nI (seesT D f p).toNat))) h nx) : Runs l G i_X12_sees 0 0 [.ref o, .int (nI k)] h nx Post := by
  have hpr := hw.pr
  have hpi := hw.pi
  have hi5 := hw.i
  have h12 := hp.1
  obtain ⟨q0, q1⟩ := tq_ok hw hf
  have loop : ∀ (m i on : Nat) (A B : Int32), i + m = p.1 + 1 → 0 < m → on < 2 ^ dI D → stA D A → stB D f B → seesT D f p = sW D f p m i on A B → Go l G 12 s_X12_sees 0 0 Post 18 [(5, .int (nI i)), (4, .int B), (3, .int A), (2, .int (nI on)), (0, .ref o), (1, .int (nI k))] [] h nx 0 0 := by
    intro m
    induction m with
    | zero =>
      intro i on A B hi hm
      exact absurd hm (Nat.lt_irrefl 0)
    | succ m ih =>
      intro i on A B hi _ hon hA hB hs
      unfold sW at hs
      refine Go.of hX.2 ck_X12_sees [18, 86] 60 ?_
      refine Exists.intro _ (And.intro hM.1 (Exists.intro _ (And.intro (hM.2.2 53 (by decide)) ?_)))
      refine Exists.intro _ (Exists.intro _ (And.intro e53 (And.intro (vp_in_nI hk (by decide)) ?_)))
      rw [nI_clamp (show k < 2 ^ 31 by omega), hr.1]
      refine And.intro (fun cz => absurd cz (nI_nlt (a := p.1) (b := i) (by omega) (by omega))) (fun _ => ?_)
      refine Exists.intro _ (And.intro hM.1 (Exists.intro 0 (Exists.intro 0 (And.intro (Nat.le_refl _) (And.intro (Nat.le_refl _) (m_seen hX hM hw hf hB0 hB1 hon hA hB.a ?_))))))
      have hlt := tLk_lt D f on A B
      have c012 : tLk D f on A B = 0 ∨ tLk D f on A B = 1 ∨ tLk D f on A B = 2 := by omega
      rcases c012 with c | c | c
      · rw [c]
        refine And.intro (fun _ => ?_) (fun cz => by first | exact absurd cz (by decide) | exact absurd (by decide) cz)
        rw [c, if_neg (fun z => z rfl)] at hs
        obtain ⟨n1, n2⟩ := tLk_0 c
        rcases hA with z | ⟨s, hs1, rfl⟩
        · exact absurd z n1
        · rcases hB with z | ⟨s2, hs2, rfl, hk2⟩
          · exact absurd z n2
          · refine Exists.intro _ (And.intro hM.1 (Exists.intro _ (And.intro (hM.2.2 53 (by decide)) ?_)))
            refine Exists.intro _ (Exists.intro _ (And.intro e53 (And.intro (vp_in_nI hk (by decide)) ?_)))
            rw [nI_clamp (show k < 2 ^ 31 by omega), hr.1]
            by_cases c1 : i = p.1
            · rw [if_pos c1] at hs
              refine And.intro (fun cz => absurd (show nI i = nI p.1 from by rw [c1]) cz) (fun _ => ?_)
              rw [hs] at hP
              exact And.intro rfl (hP)
            · rw [if_neg c1, nI_clamp (by omega), nI_clamp (by omega)] at hs
              have hact := hp.2 i (by omega)
              have hon2 := xor_pow_lt hon hact
              refine And.intro (fun _ => ?_) (fun cz => absurd cz (fun z => c1 ((nI_eq (by omega) (by omega)).mp z)))
              have e12 : (12 : Int32) * nI k + nI i = nI (12 * k + i) := by rw [show (12 : Int32) = nI 12 from rfl, nI_mul, nI_add]
              refine Exists.intro _ (And.intro hM.1 (Exists.intro _ (And.intro (hM.2.2 54 (by decide)) ?_)))
              refine Exists.intro _ (Exists.intro _ (And.intro e54 (And.intro (by rw [e12]; exact vp_in_nI (by omega) (by decide)) ?_)))
              have e1 : nI on ^^^ ((1 : Int32) <<< (g54 ((12 : Int32) * nI k + nI i).toNatClampNeg &&& 31)) = nI (on ^^^ 2 ^ p.2 i) := by rw [e12, nI_clamp (by omega), hr.2 i (by omega), nx_pow (by omega), nx_xor]
              refine go_loc (lv' := [(2, .int (nI on ^^^ ((1 : Int32) <<< (g54 ((12 : Int32) * nI k + nI i).toNatClampNeg &&& 31)))), (5, .int (nI i)), (4, .int (nI s2)), (3, .int (nI s)), (0, .ref o), (1, .int (nI k))]) ⟨rfl, rfl, rfl, rfl, rfl, rfl, trivial⟩ ?_
              rw [e1]
              refine Go.of hX.2 ck_X12_sees [18] 60 ?_
              refine Exists.intro _ (And.intro hM.1 (Exists.intro 0 (Exists.intro 0 (And.intro (Nat.le_refl _) (And.intro (Nat.le_refl _) (m_behind (hh := 0) hX hM (by decide) q0 hB0 hon2 hs1 ?_))))))
              refine Exists.intro _ (And.intro hM.1 (Exists.intro 0 (Exists.intro 0 (And.intro (Nat.le_refl _) (And.intro (Nat.le_refl _) (m_behind (hh := 1) hX hM (by decide) q1 hB1 hon2 hs2 ?_))))))
              refine go_loc (lv' := [(5, .int (nI i + 1)), (4, .int (kSe (tq1 D f) (on ^^^ 2 ^ p.2 i) s2)), (3, .int (kSe (tq0 D) (on ^^^ 2 ^ p.2 i) s)), (2, .int (nI (on ^^^ 2 ^ p.2 i))), (0, .ref o), (1, .int (nI k))]) ⟨rfl, rfl, rfl, rfl, rfl, rfl, trivial⟩ ?_
              rw [← nI_succ]
              exact ih (i + 1) _ _ _ (by omega) (by omega) hon2 (kSe_A hw hs1) (kSe_B hw hf hs2 hk2) hs
      · rw [c, if_pos (by decide)] at hs
        rw [hs] at hP
        rw [c]
        refine And.intro (fun cz => by first | exact absurd cz (by decide) | exact absurd (by decide) cz) (fun _ => ?_)
        refine And.intro (fun cz => by first | exact absurd cz (by decide) | exact absurd (by decide) cz) (fun _ => ?_)
        exact And.intro rfl (hP)
      · rw [c, if_pos (by decide)] at hs
        rw [hs] at hP
        rw [c]
        refine And.intro (fun cz => by first | exact absurd cz (by decide) | exact absurd (by decide) cz) (fun _ => ?_)
        refine And.intro (fun _ => ?_) (fun cz => by first | exact absurd cz (by decide) | exact absurd (by decide) cz)
        exact And.intro rfl (hP)
  refine en_X12_sees hX [18] 40 rfl ?_
  refine Exists.intro _ (And.intro hM.1 (Exists.intro 0 (Exists.intro 0 (And.intro (Nat.le_refl _) (And.intro (Nat.le_refl _) (m_startOf (hh := 0) hX hM (by decide) q0 hB0 ?_))))))
  refine Exists.intro _ (And.intro hM.1 (Exists.intro 0 (Exists.intro 0 (And.intro (Nat.le_refl _) (And.intro (Nat.le_refl _) (m_startOf (hh := 1) hX hM (by decide) q1 hB1 ?_))))))
  refine go_loc (lv' := [(5, .int (nI 0)), (4, .int (tB0 D f)), (3, .int (tA0 D)), (2, .int (nI 0)), (0, .ref o), (1, .int (nI k))]) ⟨rfl, rfl, rfl, rfl, rfl, rfl, trivial⟩ ?_
  exact loop (p.1 + 1) 0 0 _ _ (Nat.zero_add _) (Nat.succ_pos _) (Nat.two_pow_pos _) (kSe_A hw (kSt_up q0).2) (kSe_B hw hf (kSt_up q1).2 kOk_su) rfl
noncomputable def sM (D : DD) : List Nat → List TT2 → List TT2
  | [], acc => acc
  | f :: r, acc => sM D r (if acc.length = 30 then acc else sSt D f acc)
theorem sMM_30 {D : DD} {acc : List TT2} (h : acc.length = 30) : ∀ L : List Nat, sM D L acc = acc
  | [] => rfl
  | f :: r => by
    unfold sM
    rw [if_pos h]
    exact sMM_30 h r
theorem sM_eq {D : DD} : ∀ (m i : Nat) (acc : List TT2), i + m = (flL D).length → sM D ((flL D).drop i) acc = (sRun D m i acc).2
  | 0, i, acc, hi => by
    rw [List.drop_eq_nil_iff.mpr (by omega)]
    rfl
  | m + 1, i, acc, hi => by
    have hin : i < (flL D).length := by omega
    unfold sRun
    by_cases c : acc.length = 30
    · rw [if_pos c, sMM_30 c]
    · rw [if_neg c, List.drop_eq_getElem_cons hin]
      unfold sM
      rw [if_neg c, ← gD hin]
      exact sM_eq m (i + 1) _ (by omega)
theorem sM_suL (D : DD) : sM D (flF D 0) [] = suL D := by
  rw [flF_0]
  have := sM_eq (D := D) (flL D).length 0 [] (Nat.zero_add _)
  rw [List.drop_zero] at this
  exact this
def fSu (k : Nat) : Bool := fTr k || decide (k = 84 ∨ k = 85 ∨ k = 86)
def MSu (h : AH) (o : Nat) (fs : List Value) (h1 : AH) (fs1 : List Value) : Prop := MA h1 o fs1 ∧ SHm h1 o ∧ (∀ k, fSu k = false → fs1[k]? = fs[k]?) ∧ (∀ a, (a < o ∨ (o < a ∧ a < o + 1 + 35) ∨ o + 1 + 55 ≤ a) → h1 a = h a)
theorem MSu.rf {h : AH} {o : Nat} {fs : List Value} (hM : MA h o fs) (hS : SHm h o) : MSu h o fs h fs := ⟨hM, hS, fun _ _ => rfl, fun _ _ => rfl⟩
theorem MSu.tr {h h1 h2 : AH} {o : Nat} {fs fs1 fs2 : List Value} (a : MSu h o fs h1 fs1) (b : MSu h1 o fs1 h2 fs2) : MSu h o fs h2 fs2 := ⟨b.1, b.2.1, fun k hk => (b.2.2.1 k hk).trans (a.2.2.1 k hk), fun x hx => (b.2.2.2 x hx).trans (a.2.2.2 x hx)⟩
theorem MTr.su {h h1 : AH} {o : Nat} {fs fs1 : List Value} (a : MTr h o fs h1 fs1) : MSu h o fs h1 fs1 := ⟨a.1, a.2.1, fun k hk => a.2.2.1 k (by unfold fSu at hk; exact (Bool.or_eq_false_iff.mp hk).1), fun x hx => a.2.2.2 x (by omega)⟩
theorem MSu.f {h h1 : AH} {o : Nat} {fs fs1 : List Value} (a : MSu h o fs h1 fs1) {k : Nat} {v : Value} (hk : fSu k = false) (e : fs[k]? = some v) : fs1[k]? = some v := (a.2.2.1 k hk).trans e
theorem MSu.pg {h h1 : AH} {o d : Nat} {fs fs1 : List Value} {D : DD} (a : MSu h o fs h1 fs1) (hD : MPg h o d D) : MPg h1 o d D := hD.ag (fun j hj => a.2.2.2 _ (by omega))
theorem rfM_no6 : ∀ j, j < 63 → rfM j ≠ 84 ∧ rfM j ≠ 85 ∧ rfM j ≠ 86 := by decide +kernel
theorem MSu.set {h h1 : AH} {o k : Nat} {fs fs1 : List Value} {v : Value} (a : MSu h o fs h1 fs1) (hk : k = 84 ∨ k = 85 ∨ k = 86) : MSu h o fs (uph h1 o (.inr (12, fs1.set k v))) (fs1.set k v) := by
  obtain ⟨⟨a1, a2, a3⟩, b, c, d⟩ := a
  refine ⟨⟨uph_eq, by rw [List.length_set]; exact a2, fun j hj => ?_⟩, b.obj, fun i hi => ?_, fun x hx => (uph_ne (by omega)).trans (d x hx)⟩
  · have := rfM_no6 j hj
    rw [get_set_ne (by omega)]
    exact a3 j hj
  · rw [get_set_ne (fun z => by rw [← z] at hi; rcases hk with rfl | rfl | rfl <;> cases hi)]
    exact c i hi
theorem MSu.row {h h1 : AH} {o j n : Nat} {fs fs1 : List Value} {g : Nat → Int32} (a : MSu h o fs h1 fs1) (hj : 53 ≤ j ∧ j < 55) (hn : tyL.getD j (0, 0) = (0, n)) : MSu h o fs (uph h1 (o + 1 + j) (.inl (0, n, .inl g))) fs1 := by
  obtain ⟨a1, b, c, d⟩ := a
  refine ⟨a1.keep (uph_ne (by omega)), b.upd (fun i hi => ?_), c, fun x hx => (uph_ne (by omega)).trans (d x hx)⟩
  by_cases e : i = j
  · right
    rw [e, uph_eq]
    exact rowS_i (by decide) hn ⟨g, rfl⟩
  · left
    exact uph_ne (by omega)
theorem MSu.len {h h1 : AH} {o : Nat} {fs fs1 : List Value} (a : MSu h o fs h1 fs1) : fs1.length = 99 := a.1.2.1
/-- the suite in the model's rows -/
def rwS (h : AH) (o : Nat) (acc : List TT2) : Prop := ∃ g53 g54 : Nat → Int32, h (o + 1 + 53) = some (.inl (0, 30, .inl g53)) ∧ h (o + 1 + 54) = some (.inl (0, 360, .inl g54)) ∧ ∀ k, k < acc.length → rwT g53 g54 k (gT acc k)
theorem rwS.ag {h h' : AH} {o : Nat} {acc : List TT2} (hR : rwS h o acc) (e1 : h' (o + 1 + 53) = h (o + 1 + 53)) (e2 : h' (o + 1 + 54) = h (o + 1 + 54)) : rwS h' o acc := by
  obtain ⟨a, b, c, d, e⟩ := hR
  exact ⟨a, b, e1.trans c, e2.trans d, e⟩
/-- the suite is known: of the drawing at hand -/
noncomputable def rwK (h : AH) (o : Nat) (fs : List Value) (D : DD) : Prop := fs[84]? = some (.int 1) ∧ fs[85]? = some (.int (aHidden D)) ∧ fs[86]? = some (.int (nI (suL D).length)) ∧ rwS h o (suL D)
theorem MSt.ag {h h1 : AH} {o sb : Nat} {fs fs1 : List Value} (hs : MSt h o fs sb) (e1 : h1 (o + 1 + 51) = h (o + 1 + 51)) (e2 : fs1[81]? = fs[81]?) : MSt h1 o fs1 sb := by
  obtain ⟨st, gs, s1, s2, s3, s4⟩ := hs
  exact ⟨st, gs, s1, e2.trans s2, e1.trans s3, s4⟩
set_option maxHeartbeats 16000000 in
theorem m_makesSuite {l : Launch} {G : GG} {h : AH} {nx : Nat} {Post : Option Value → AH → Nat → Prop} {o d sb : Nat} {D : DD} {fs : List Value} (hX : XC G ∧ TX l G) (hM : MA h o fs) (hS : SHm h o) (f19 : fs[19]? = some (.int (nI d))) (hD : MPg h o d D) (hw : WD D) (hst : MSt h o fs sb) (hsb : sb + 300 < 2 ^ 31) (hK : fs[84]? = some (.int 0) ∨ rwK h o fs D) (hP : ∀ (h1 : AH) (fs1 : List Value), MSu h o fs h1 fs1 → rwK h1 o fs1 D → MSt h1 o fs1 (sb + 212) → Post none h1 nx) : Runs l G i_X12_makesSuite 0 0 [.ref o] h nx Post := by
  have hl := flL_len hw
  have h99 := hM.2.1
  have hd := hD.2.2.2.2.2.2.2
  refine en_X12_makesSuite hX [41] 80 rfl ?_
  rcases hK with e | e
  rotate_left
  · refine Exists.intro _ (And.intro hM.1 (Exists.intro _ (And.intro e.1 ?_)))
    refine And.intro (fun cz => by first | exact absurd cz (by decide) | exact absurd (by decide) cz) (fun _ => ?_)
    obtain ⟨st, gs, s1, s2⟩ := hst
    exact hP h fs (MSu.rf hM hS) e ⟨st, gs, by omega, s2⟩
  · refine Exists.intro _ (And.intro hM.1 (Exists.intro _ (And.intro e ?_)))
    refine And.intro (fun _ => ?_) (fun cz => by first | exact absurd cz (by decide) | exact absurd (by decide) cz)
    refine Exists.intro _ (And.intro hM.1 (And.intro (by omega) (And.intro rfl (And.intro rfl ?_))))
    have R1 := (MSu.rf hM hS).set (k := 84) (v := .int 1) (Or.inl rfl)
    refine Exists.intro _ (And.intro R1.1.1 (And.intro (by have := R1.len; omega) (And.intro rfl (And.intro rfl ?_))))
    have R2 := R1.set (k := 85) (v := .int 0) (Or.inr (Or.inl rfl))
    refine Exists.intro _ (And.intro R2.1.1 (And.intro (by have := R2.len; omega) (And.intro rfl (And.intro rfl ?_))))
    have R3 := R2.set (k := 86) (v := .int 0) (Or.inr (Or.inr rfl))
    refine Exists.intro _ (And.intro R3.1.1 (Exists.intro _ (And.intro (R3.f rfl f19) ?_)))
    refine And.intro (fun _ => ?_) (fun cz => absurd cz (fun z => absurd (show nI d < 0 from z ▸ (by decide)) (nI_pos (by omega))))
    refine Exists.intro _ (And.intro R3.1.1 (Exists.intro 0 (Exists.intro 0 (And.intro (Nat.le_refl _) (And.intro (Nat.le_refl _) (m_builds1 (hh := 0) (f := -1) (g := -1) hX R3.1 R3.2.1 (R3.f rfl f19) (R3.pg hD) hw (by decide) rfl rfl (fun h4 fs4 y1 y2 y3 y4 => ?_)))))))
    have R4 := R3.tr y1.tt.su
    have k84 : fs4[84]? = some (.int 1) := y1.f rfl (by rw [get_set_ne (by decide), get_set_ne (by decide)]; exact get_set (by omega))
    have k85 : fs4[85]? = some (.int (nI 0)) := y1.f rfl (by rw [get_set_ne (by decide)]; exact get_set (by have := R1.len; omega))
    have k86 : fs4[86]? = some (.int (nI 0)) := y1.f rfl (get_set (by have := R2.len; omega))
    have st4 : MSt h4 o fs4 sb := hst.ag ((y1.2.2.2 _ (by omega)).trans (by rw [uph_ne (by omega), uph_ne (by omega), uph_ne (by omega)])) ((y1.2.2.1 81 rfl).trans (by rw [get_set_ne (by decide), get_set_ne (by decide), get_set_ne (by decide)]))
    obtain ⟨g53, e53⟩ := R4.2.1.i 53 (by decide) (by decide) rfl
    obtain ⟨g54, e54⟩ := R4.2.1.i 54 (by decide) (by decide) rfl
    have loop : ∀ (k f hid : Nat) (acc : List TT2) (h5 : AH) (fs5 : List Value), f + k = 212 → MSu h o fs h5 fs5 → HB h5 o 0 (tq0 D) → MSt h5 o fs5 (sb + f) → fs5[84]? = some (.int 1) → fs5[85]? = some (.int (nI hid)) → fs5[86]? = some (.int (nI acc.length)) → rwS h5 o acc → sOk D acc → hid + (flF D f).countP (fun n => (ltR D n).isNone) = (flL D).countP (fun n => (ltR D n).isNone) → sM D (flF D f) acc = suL D → Go l G 12 s_X12_makesSuite 0 0 Post 41 [(1, .int (nI f)), (0, .ref o)] [] h5 nx 0 0 := by
      intro k
      induction k with
      | zero =>
        intro f hid acc h5 fs5 hf R5 B5 st5 k84 k85 k86 rw5 ok5 hc hs
        have e : f = 212 := by omega
        subst e
        rw [flF_end] at hc hs
        have hs2 : acc = suL D := hs
        have hc2 : hid = (flL D).countP (fun n => (ltR D n).isNone) := hc
        subst hs2
        subst hc2
        refine Go.of hX.2 ck_X12_makesSuite [41] 20 ?_
        refine And.intro (fun _ => ?_) (fun cz => by first | exact absurd cz (by decide) | exact absurd (by decide) cz)
        exact hP h5 fs5 R5 ⟨k84, k85, k86, rw5⟩ st5
      | succ k ih =>
        intro f hid acc h5 fs5 hf R5 B5 st5 k84 k85 k86 rw5 ok5 hc hs
        have h30 := ok5.1
        have st5' : ∀ {h6 : AH} {fs6 : List Value}, MSt h6 o fs6 (sb + f) → MSt h6 o fs6 (sb + (f + 1)) := fun z => by
          obtain ⟨st, gs, s1, s2⟩ := z
          exact ⟨st, gs, by omega, s2⟩
        refine Go.of hX.2 ck_X12_makesSuite [41, 95, 194] 60 ?_
        refine And.intro (fun cz => absurd cz (nI_ge (a := f) (b := 212) (by omega) (by decide))) (fun _ => ?_)
        refine Exists.intro _ (And.intro R5.1.1 (Exists.intro 0 (Exists.intro 0 (And.intro (Nat.le_refl _) (And.intro (Nat.le_refl _) (m_isFlaw hX R5.1 (R5.f rfl f19) (R5.pg hD) hw ?_))))))
        rw [vFx_nI (by omega)]
        rw [flF_step (by omega)] at hc hs
        have next : ∀ (hid2 : Nat) (acc2 : List TT2) (h6 : AH) (fs6 : List Value) (lv : LV), MSu h o fs h6 fs6 → HB h6 o 0 (tq0 D) → MSt h6 o fs6 (sb + (f + 1)) → fs6[84]? = some (.int 1) → fs6[85]? = some (.int (nI hid2)) → fs6[86]? = some (.int (nI acc2.length)) → rwS h6 o acc2 → sOk D acc2 → hid2 + (flF D (f + 1)).countP (fun n => (ltR D n).isNone) = (flL D).countP (fun n => (ltR D n).isNone) → sM D (flF D (f + 1)) acc2 = suL D → lk lv 1 = some (.int (nI f)) → lk lv 0 = some (.ref o) → Go l G 12 s_X12_makesSuite 0 0 Post 194 lv [] h6 nx 0 0 := by
          intro hid2 acc2 h6 fs6 lv a1 a2 a3 a4 a5 a6 a7 a8 a9 a10 l1 l0
          refine go_loc (lv' := [(1, .int (nI f)), (0, .ref o)]) ⟨l1, l0, trivial⟩ ?_
          refine Go.of hX.2 ck_X12_makesSuite [41] 20 ?_
          refine go_loc (lv' := [(1, .int (nI f + 1)), (0, .ref o)]) ⟨rfl, rfl, trivial⟩ ?_
          rw [← nI_succ]
          exact ih (f + 1) hid2 acc2 h6 fs6 (by omega) a1 a2 a3 a4 a5 a6 a7 a8 a9 a10
        by_cases c1 : vFb (dK D) (dR D) (dow D) f = true
        · have c2 : vFx (dK D) (dR D) (dow D) (nI f) = true := by rw [vFx_nI (by omega)]; exact c1
          have hf2 : okW D (some f) := fun n z => by cases z; exact c1
          have htq := tq_ok hw hf2
          rw [if_pos c1, List.countP_cons] at hc
          rw [if_pos c1] at hs
          unfold sM at hs
          rw [c1]
          refine And.intro (fun _ => ?_) (fun cz => by first | exact absurd cz (by decide) | exact absurd (by decide) cz)
          refine Exists.intro _ (And.intro R5.1.1 (Exists.intro 0 (Exists.intro 0 (And.intro (Nat.le_refl _) (And.intro (Nat.le_refl _) (m_builds1 (hh := 1) (f := nI f) (g := -1) hX R5.1 R5.2.1 (R5.f rfl f19) (R5.pg hD) hw (by decide) (vFn_x c2) rfl (fun h6 fs6 z1 z2 z3 z4 => ?_)))))))
          have R6 := R5.tr z1.tt.su
          have B6 : HB h6 o 0 (tq0 D) := z4 _ 0 (by decide) (by decide) htq.1 B5
          have B61 : HB h6 o 1 (tq1 D f) := by
            have e6 : kFG D (nI f) (-1) = tq1 D f := by
              unfold kFG
              rw [fOf_nI (by omega)]
              rfl
            rw [← e6]
            exact z3
          refine Exists.intro _ (And.intro R6.1.1 (Exists.intro 0 (Exists.intro 0 (And.intro (Nat.le_refl _) (And.intro (Nat.le_refl _) (m_leastTest hX R6.1 R6.2.1 (R6.f rfl f19) (R6.pg hD) hw hf2 B6 B61 (st5.hut z1) (by omega) (fun h7 fs7 u1 u2 u3 => ?_)))))))
          have R7 := R6.tr u1.tt.su
          have B7 := u1.hb B6
          have B71 := u1.hb B61
          have q84 : fs7[84]? = some (.int 1) := u1.f rfl (z1.f rfl k84)
          have q85 : fs7[85]? = some (.int (nI hid)) := u1.f rfl (z1.f rfl k85)
          have q86 : fs7[86]? = some (.int (nI acc.length)) := u1.f rfl (z1.f rfl k86)
          have rw7 : rwS h7 o acc := rw5.ag ((u1.2.2.2 _ (by omega)).trans (z1.2.2.2 _ (by omega))) ((u1.2.2.2 _ (by omega)).trans (z1.2.2.2 _ (by omega)))
          have st7 : MSt h7 o fs7 (sb + (f + 1)) := u3
          cases er : ltR D f with
          | none =>
            rw [er] at u2
            rw [show (ltR D f).isNone = true from by rw [er]; rfl, if_pos rfl] at hc
            have es : (if acc.length = 30 then acc else sSt D f acc) = acc := by
              split
              · rfl
              · unfold sSt
                rw [er]
            rw [es] at hs
            refine Exists.intro _ (And.intro R7.1.1 (Exists.intro _ (And.intro u2 ?_)))
            refine And.intro (fun cz => by first | exact absurd cz (by decide) | exact absurd (by decide) cz) (fun _ => ?_)
            refine Exists.intro _ (And.intro R7.1.1 (Exists.intro _ (And.intro q85 ?_)))
            refine Exists.intro _ (And.intro R7.1.1 (And.intro (by have := R7.len; omega) (And.intro rfl (And.intro rfl ?_))))
            have R8 := R7.set (k := 85) (v := .int (nI hid + 1)) (Or.inr (Or.inl rfl))
            refine next (hid + 1) acc _ _ _ R8 (B7.ag (fun j _ _ => uph_ne (by omega))) (st7.ag (uph_ne (by omega)) (get_set_ne (by decide))) ((get_set_ne (by decide)).trans q84) ?_ ((get_set_ne (by decide)).trans q86) (rw7.ag (uph_ne (by omega)) (uph_ne (by omega))) ok5 (by omega) hs rfl rfl
            rw [show nI hid + 1 = nI (hid + 1) from (nI_succ _).symm]
            exact get_set (by have := R7.len; omega)
          | some p =>
            rw [er] at u2
            rw [show (ltR D f).isNone = false from by rw [er]; rfl, if_neg (by decide)] at hc
            obtain ⟨n82, np, g52, e52, v52⟩ := u2
            have htp := ltR_lt hw hf2 er
            refine Exists.intro _ (And.intro R7.1.1 (Exists.intro _ (And.intro n82 ?_)))
            refine And.intro (fun _ => ?_) (fun cz => absurd cz (fun z => absurd (show nI p.1 < 0 from z ▸ (by decide)) (nI_pos (by omega))))
            obtain ⟨a53, a54, b53, b54, v5⟩ := id rw7
            have tail : ∀ (b : Bool) (lv : LV), (b = true → acc.any (seesT D f) = true) → (b = false → acc.any (seesT D f) = false) → lk lv 2 = some (.int (nI b.toNat)) → lk lv 1 = some (.int (nI f)) → lk lv 0 = some (.ref o) → Go l G 12 s_X12_makesSuite 0 0 Post 119 lv [] h7 nx 0 0 := by
              intro b lv hb1 hb0 l2 l1 l0
              refine go_loc (lv' := [(2, .int (nI b.toNat)), (1, .int (nI f)), (0, .ref o)]) ⟨l2, l1, l0, trivial⟩ ?_
              refine Go.of hX.2 ck_X12_makesSuite [150, 194] 60 ?_
              cases b with
              | true =>
                refine And.intro (fun _ => ?_) (fun cz => by first | exact absurd cz (by decide) | exact absurd (by decide) cz)
                have es : (if acc.length = 30 then acc else sSt D f acc) = acc := by
                  split
                  · rfl
                  · unfold sSt
                    rw [er]
                    exact if_pos (hb1 rfl)
                rw [es] at hs
                exact next hid acc h7 fs7 _ R7 B7 st7 q84 q85 q86 rw7 ok5 (by omega) hs rfl rfl
              | false =>
                refine And.intro (fun cz => by first | exact absurd cz (by decide) | exact absurd (by decide) cz) (fun _ => ?_)
                refine Exists.intro _ (And.intro R7.1.1 (Exists.intro _ (And.intro q86 ?_)))
                by_cases c30 : acc.length = 30
                · refine And.intro (fun cz => absurd (show nI acc.length = 30 from by rw [c30]; rfl) cz) (fun _ => ?_)
                  rw [if_pos c30] at hs
                  exact next hid acc h7 fs7 _ R7 B7 st7 q84 q85 q86 rw7 ok5 (by omega) hs rfl rfl
                · refine And.intro (fun _ => ?_) (fun cz => absurd cz (fun z => c30 ((nI_eq (a := acc.length) (b := 30) (by omega) (by decide)).mp z)))
                  have es : (if acc.length = 30 then acc else sSt D f acc) = acc ++ [p] := by
                    rw [if_neg c30]
                    unfold sSt
                    rw [er]
                    exact if_neg (by rw [hb0 rfl]; decide)
                  have ok8 : sOk D (acc ++ [p]) := by
                    rw [← es, if_neg c30]
                    exact sSt_ok hw hf2 ok5 c30
                  rw [es] at hs
                  refine Exists.intro _ (And.intro R7.1.1 (Exists.intro _ (And.intro (R7.1.2.2 53 (by decide)) ?_)))
                  refine Exists.intro _ (And.intro R7.1.1 (Exists.intro _ (And.intro q86 ?_)))
                  refine Exists.intro _ (And.intro R7.1.1 (Exists.intro _ (And.intro n82 ?_)))
                  refine Exists.intro _ (Exists.intro _ (And.intro b53 (And.intro (vp_in_nI (n := acc.length) (by omega) (by decide)) ?_)))
                  rw [nI_clamp (show acc.length < 2 ^ 31 by omega)]
                  have R8 := R7.row (j := 53) (g := upd a53 acc.length (nI p.1)) (by omega) rfl
                  have copy : ∀ (m j : Nat) (h8 : AH) (g8 : Nat → Int32), j + m = p.1 → MSu h o fs h8 fs7 → (∀ x, x ≠ o + 1 + 53 → x ≠ o + 1 + 54 → h8 x = h7 x) → h8 (o + 1 + 53) = some (.inl (0, 30, .inl (upd a53 acc.length (nI p.1)))) → h8 (o + 1 + 54) = some (.inl (0, 360, .inl g8)) → (∀ i, i < 12 * acc.length → g8 i = a54 i) → (∀ i, i < j → g8 (12 * acc.length + i) = nI (p.2 i)) → Go l G 12 s_X12_makesSuite 0 0 Post 150 [(3, .int (nI j)), (1, .int (nI f)), (0, .ref o)] [] h8 nx 0 0 := by
                    intro m
                    induction m with
                    | zero =>
                      intro j h8 g8 hj R8 fr8 k53 k54 v1 v2
                      refine Go.of hX.2 ck_X12_makesSuite [150, 194] 40 ?_
                      refine Exists.intro _ (And.intro R8.1.1 (Exists.intro _ (And.intro n82 ?_)))
                      refine And.intro (fun _ => ?_) (fun cz => absurd (nI_le (a := p.1) (b := j) (by omega) (by omega)) cz)
                      refine Exists.intro _ (And.intro R8.1.1 (Exists.intro _ (And.intro q86 ?_)))
                      refine Exists.intro _ (And.intro R8.1.1 (And.intro (by have := R8.len; omega) (And.intro rfl (And.intro rfl ?_))))
                      have R9 := R8.set (k := 86) (v := .int (nI acc.length + 1)) (Or.inr (Or.inr rfl))
                      refine next hid (acc ++ [p]) _ _ _ R9 (B7.ag (fun i i1 i2 => (uph_ne (by omega)).trans (fr8 _ (by omega) (by omega)))) (st7.ag ((uph_ne (by omega)).trans (fr8 _ (by omega) (by omega))) (get_set_ne (by decide))) ((get_set_ne (by decide)).trans q84) ((get_set_ne (by decide)).trans q85) ?_ ⟨_, _, (uph_ne (by omega)).trans k53, (uph_ne (by omega)).trans k54, fun i hi => ?_⟩ ok8 (by omega) hs rfl rfl
                      · rw [List.length_append, List.length_singleton, nI_succ]
                        exact get_set (by have := R8.len; omega)
                      · rw [List.length_append, List.length_singleton] at hi
                        by_cases ei : i = acc.length
                        · have eg : gT (acc ++ [p]) acc.length = p := by
                            unfold gT
                            rw [List.getD_eq_getElem?_getD, List.getElem?_append_right (Nat.le_refl _), Nat.sub_self]
                            rfl
                          rw [ei, eg]
                          exact ⟨pk_us, fun j2 hj2 => v2 j2 (by omega)⟩
                        · have eg : gT (acc ++ [p]) i = gT acc i := by
                            unfold gT
                            rw [List.getD_eq_getElem?_getD, List.getD_eq_getElem?_getD, List.getElem?_append_left (by omega)]
                          rw [eg]
                          have := v5 i (by omega)
                          have hti := (ok5.2 _ (gT_mem (show i < acc.length by omega))).1
                          exact ⟨by rw [pk_un ei]; exact this.1, fun j2 hj2 => by rw [v1 _ (by omega)]; exact this.2 j2 hj2⟩
                    | succ m ih4 =>
                      intro j h8 g8 hj R8 fr8 k53 k54 v1 v2
                      have e12 : (12 : Int32) * nI acc.length + nI j = nI (12 * acc.length + j) := by rw [show (12 : Int32) = nI 12 from rfl, nI_mul, nI_add]
                      have k52 : h8 (o + 1 + 52) = some (.inl (0, 12, .inl g52)) := (fr8 _ (by omega) (by omega)).trans e52
                      refine Go.of hX.2 ck_X12_makesSuite [150] 60 ?_
                      refine Exists.intro _ (And.intro R8.1.1 (Exists.intro _ (And.intro n82 ?_)))
                      refine And.intro (fun cz => absurd cz (nI_ge (a := j) (b := p.1) (by omega) (by omega))) (fun _ => ?_)
                      refine Exists.intro _ (And.intro R8.1.1 (Exists.intro _ (And.intro (R8.1.2.2 54 (by decide)) ?_)))
                      refine Exists.intro _ (And.intro R8.1.1 (Exists.intro _ (And.intro q86 ?_)))
                      refine Exists.intro _ (And.intro R8.1.1 (Exists.intro _ (And.intro (R8.1.2.2 52 (by decide)) ?_)))
                      refine Exists.intro _ (Exists.intro _ (And.intro k52 (And.intro (vp_in_nI (n := j) (by omega) (by decide)) ?_)))
                      rw [nI_clamp (show j < 2 ^ 31 by omega), v52 j (by omega)]
                      refine Exists.intro _ (Exists.intro _ (And.intro k54 (And.intro (by rw [e12]; exact vp_in_nI (by omega) (by decide)) ?_)))
                      rw [e12, nI_clamp (by omega)]
                      have R9 := R8.row (j := 54) (g := upd g8 (12 * acc.length + j) (nI (p.2 j))) (by omega) rfl
                      refine go_loc (lv' := [(3, .int (nI j + 1)), (1, .int (nI f)), (0, .ref o)]) ⟨rfl, rfl, rfl, trivial⟩ ?_
                      rw [← nI_succ]
                      refine ih4 (j + 1) _ _ (by omega) R9 (fun x x1 x2 => (uph_ne x2).trans (fr8 x x1 x2)) ((uph_ne (by omega)).trans k53) uph_eq (fun i hi => by rw [pk_un (by omega)]; exact v1 i hi) (fun i hi => ?_)
                      by_cases ei : i = j
                      · rw [ei, pk_us]
                      · rw [pk_un (by omega)]
                        exact v2 i (by omega)
                  refine go_loc (lv' := [(3, .int (nI 0)), (1, .int (nI f)), (0, .ref o)]) ⟨rfl, rfl, rfl, trivial⟩ ?_
                  exact copy p.1 0 _ a54 (Nat.zero_add _) R8 (fun x x1 _ => uph_ne x1) uph_eq ((uph_ne (by omega)).trans b54) (fun _ _ => rfl) (fun i hi => absurd hi (Nat.not_lt_zero i))
            have inner : ∀ (mm j : Nat) (b : Bool), j + mm = acc.length → b = (acc.take j).any (seesT D f) → Go l G 12 s_X12_makesSuite 0 0 Post 95 [(3, .int (nI j)), (2, .int (nI b.toNat)), (1, .int (nI f)), (0, .ref o)] [] h7 nx 0 0 := by
              intro mm
              induction mm with
              | zero =>
                intro j b hj hb
                rw [List.take_of_length_le (by omega)] at hb
                refine Go.of hX.2 ck_X12_makesSuite [95, 119] 20 ?_
                refine Exists.intro _ (And.intro R7.1.1 (Exists.intro _ (And.intro q86 ?_)))
                refine And.intro (fun _ => ?_) (fun cz => absurd (nI_le (a := acc.length) (b := j) (by omega) (by omega)) cz)
                exact tail b _ (fun z => by rw [← hb]; exact z) (fun z => by rw [← hb]; exact z) rfl rfl rfl
              | succ mm ih3 =>
                intro j b hj hb
                have hja : j < acc.length := by omega
                refine Go.of hX.2 ck_X12_makesSuite [95, 119] 40 ?_
                refine Exists.intro _ (And.intro R7.1.1 (Exists.intro _ (And.intro q86 ?_)))
                refine And.intro (fun cz => absurd cz (nI_ge (a := j) (b := acc.length) hja (by omega))) (fun _ => ?_)
                cases b with
                | true =>
                  refine And.intro (fun _ => ?_) (fun cz => by first | exact absurd cz (by decide) | exact absurd (by decide) cz)
                  exact tail true _ (fun _ => any_of_take hb.symm) (fun z => by cases z) rfl rfl rfl
                | false =>
                  refine And.intro (fun cz => by first | exact absurd cz (by decide) | exact absurd (by decide) cz) (fun _ => ?_)
                  refine Exists.intro _ (And.intro R7.1.1 (Exists.intro 0 (Exists.intro 0 (And.intro (Nat.le_refl _) (And.intro (Nat.le_refl _) (m_sees hX R7.1 hw hf2 B7 B71 b53 b54 (by omega) (v5 j hja) (ok5.2 _ (gT_mem hja)) ?_))))))
                  refine go_loc (lv' := [(3, .int (nI j + 1)), (2, .int (nI (seesT D f (gT acc j)).toNat)), (1, .int (nI f)), (0, .ref o)]) ⟨rfl, rfl, rfl, rfl, trivial⟩ ?_
                  rw [← nI_succ]
                  exact ih3 (j + 1) _ (by omega) (by rw [any_take hja, ← hb, Bool.false_or])
            refine go_loc (lv' := [(3, .int (nI 0)), (2, .int (nI false.toNat)), (1, .int (nI f)), (0, .ref o)]) ⟨rfl, rfl, rfl, rfl, trivial⟩ ?_
            exact inner acc.length 0 false (Nat.zero_add _) rfl
        · rw [if_neg c1] at hc hs
          rw [Bool.not_eq_true] at c1
          rw [c1]
          refine And.intro (fun cz => by first | exact absurd cz (by decide) | exact absurd (by decide) cz) (fun _ => ?_)
          exact next hid acc h5 fs5 _ R5 B5 (st5' st5) k84 k85 k86 rw5 ok5 hc hs rfl rfl
    refine go_loc (lv' := [(1, .int (nI 0)), (0, .ref o)]) ⟨rfl, rfl, trivial⟩ ?_
    exact loop 212 0 0 [] h4 fs4 rfl R4 y3 st4 k84 k85 k86 ⟨g53, g54, e53, e54, fun k hk => absurd hk (Nat.not_lt_zero k)⟩ ⟨by decide, fun p hp => by cases hp⟩ (by rw [flF_0, Nat.zero_add]) (sM_suL D)
set_option maxHeartbeats 8000000 in
/-- what the model's suite calls answer -/
theorem m_hidden {l : Launch} {G : GG} {h : AH} {nx : Nat} {Post : Option Value → AH → Nat → Prop} {o d sb : Nat} {D : DD} {fs : List Value} (hX : XC G ∧ TX l G) (hM : MA h o fs) (hS : SHm h o) (f19 : fs[19]? = some (.int (nI d))) (hD : MPg h o d D) (hw : WD D) (hst : MSt h o fs sb) (hsb : sb + 300 < 2 ^ 31) (hK : fs[84]? = some (.int 0) ∨ rwK h o fs D) (hP : ∀ (h1 : AH) (fs1 : List Value), MSu h o fs h1 fs1 → rwK h1 o fs1 D → MSt h1 o fs1 (sb + 212) → Post (some (.int (aHidden D))) h1 nx) : Runs l G i_X12_hidden 0 0 [.ref o] h nx Post := by
  refine en_X12_hidden hX [] 20 rfl ?_
  refine Exists.intro _ (And.intro hM.1 (Exists.intro 0 (Exists.intro 0 (And.intro (Nat.le_refl _) (And.intro (Nat.le_refl _) (m_makesSuite hX hM hS f19 hD hw hst hsb hK (fun h1 fs1 y1 y2 y3 => ?_)))))))
  refine Exists.intro _ (And.intro y1.1.1 (Exists.intro _ (And.intro y2.2.1 ?_)))
  exact And.intro rfl (hP h1 fs1 y1 y2 y3)
set_option maxHeartbeats 8000000 in
theorem m_suite {l : Launch} {G : GG} {h : AH} {nx : Nat} {Post : Option Value → AH → Nat → Prop} {o d sb : Nat} {D : DD} {fs : List Value} (hX : XC G ∧ TX l G) (hM : MA h o fs) (hS : SHm h o) (f19 : fs[19]? = some (.int (nI d))) (hD : MPg h o d D) (hw : WD D) (hst : MSt h o fs sb) (hsb : sb + 300 < 2 ^ 31) (hK : fs[84]? = some (.int 0) ∨ rwK h o fs D) (hP : ∀ (h1 : AH) (fs1 : List Value), MSu h o fs h1 fs1 → rwK h1 o fs1 D → MSt h1 o fs1 (sb + 212) → Post (some (.int (aSuite D))) h1 nx) : Runs l G i_X12_suite 0 0 [.ref o] h nx Post := by
  refine en_X12_suite hX [] 20 rfl ?_
  refine Exists.intro _ (And.intro hM.1 (Exists.intro 0 (Exists.intro 0 (And.intro (Nat.le_refl _) (And.intro (Nat.le_refl _) (m_makesSuite hX hM hS f19 hD hw hst hsb hK (fun h1 fs1 y1 y2 y3 => ?_)))))))
  refine Exists.intro _ (And.intro y1.1.1 (Exists.intro _ (And.intro y2.2.2.1 ?_)))
  exact And.intro rfl (hP h1 fs1 y1 y2 y3)
theorem in_n {i : Int32} {n : Nat} (hn : n < 2 ^ 31) : (0 ≤ i ∧ i ≤ nI n - 1) ↔ (0 ≤ i ∧ i < nI n) := by
  cases n with
  | zero => exact ⟨fun z => absurd (Int32.le_trans z.1 z.2) (by decide), fun z => absurd (Int32.lt_of_le_of_lt z.1 z.2) (by decide)⟩
  | succ m =>
    rw [nI_pred]
    constructor
    · rintro ⟨h1, h2⟩
      obtain ⟨j, hj, rfl⟩ := nI_of (Int32.not_lt.mpr h1)
      exact ⟨h1, nI_lt (by have := (nI_leI hj (by omega)).mp h2; omega) hn⟩
    · rintro ⟨h1, h2⟩
      obtain ⟨j, hj, rfl⟩ := nI_of (Int32.not_lt.mpr h1)
      exact ⟨h1, nI_le (by have := (nI_ltI hj hn).mp h2; omega) (by omega)⟩
set_option maxHeartbeats 8000000 in
theorem m_suiteAct {l : Launch} {G : GG} {h : AH} {nx : Nat} {Post : Option Value → AH → Nat → Prop} {o d sb : Nat} {k i : Int32} {D : DD} {fs : List Value} (hX : XC G ∧ TX l G) (hM : MA h o fs) (hS : SHm h o) (f19 : fs[19]? = some (.int (nI d))) (hD : MPg h o d D) (hw : WD D) (hst : MSt h o fs sb) (hsb : sb + 300 < 2 ^ 31) (hK : fs[84]? = some (.int 0) ∨ rwK h o fs D) (hP : ∀ (h1 : AH) (fs1 : List Value), MSu h o fs h1 fs1 → rwK h1 o fs1 D → MSt h1 o fs1 (sb + 212) → Post (some (.int (aSuiteAct D k i))) h1 nx) : Runs l G i_X12_suiteAct 0 0 [.ref o, .int k, .int i] h nx Post := by
  have hsu := suL_ok hw
  have h30 := hsu.1.1
  refine en_X12_suiteAct hX [] 60 rfl ?_
  refine Exists.intro _ (And.intro hM.1 (Exists.intro 0 (Exists.intro 0 (And.intro (Nat.le_refl _) (And.intro (Nat.le_refl _) (m_makesSuite hX hM hS f19 hD hw hst hsb hK (fun h1 fs1 y1 y2 y3 => ?_)))))))
  have hP := hP h1 fs1 y1 y2 y3
  obtain ⟨k84, k85, k86, g53, g54, e53, e54, v⟩ := y2
  unfold aSuiteAct sTest at hP
  refine Exists.intro _ (And.intro y1.1.1 (Exists.intro _ (And.intro k86 ?_)))
  refine Exists.intro 0 (Exists.intro 0 (And.intro (Nat.le_refl _) (And.intro (Nat.le_refl _) (c_in hX ?_))))
  by_cases c1 : 0 ≤ k ∧ k < nI (suL D).length
  · rw [if_pos ((in_n (by omega)).mpr c1)]
    rw [if_pos c1] at hP
    obtain ⟨j, hj, rfl⟩ := nI_of (Int32.not_lt.mpr c1.1)
    have hjl := (nI_ltI hj (by omega)).mp c1.2
    have hv := v j hjl
    have hto := (hsu.1.2 _ (gT_mem hjl)).1
    rw [nI_clamp hj] at hP
    refine And.intro (fun cz => by first | exact absurd cz (by decide) | exact absurd (by decide) cz) (fun _ => ?_)
    refine Exists.intro _ (And.intro y1.1.1 (Exists.intro _ (And.intro (y1.1.2.2 53 (by decide)) ?_)))
    refine Exists.intro _ (Exists.intro _ (And.intro e53 (And.intro (vp_in_nI (n := j) (by omega) (by decide)) ?_)))
    rw [nI_clamp hj, hv.1]
    refine Exists.intro 0 (Exists.intro 0 (And.intro (Nat.le_refl _) (And.intro (Nat.le_refl _) (c_in hX ?_))))
    by_cases c2 : 0 ≤ i ∧ i < nI (gT (suL D) j).1
    · rw [if_pos ((in_n (by omega)).mpr c2)]
      have e : aAt (some (gT (suL D) j)) i = nI ((gT (suL D) j).2 i.toNatClampNeg) := if_pos c2
      rw [e] at hP
      obtain ⟨a, ha, rfl⟩ := nI_of (Int32.not_lt.mpr c2.1)
      have hal := (nI_ltI ha (by omega)).mp c2.2
      rw [nI_clamp ha, ← hv.2 a hal] at hP
      have e12 : (12 : Int32) * nI j + nI a = nI (12 * j + a) := by rw [show (12 : Int32) = nI 12 from rfl, nI_mul, nI_add]
      refine And.intro (fun cz => by first | exact absurd cz (by decide) | exact absurd (by decide) cz) (fun _ => ?_)
      refine Exists.intro _ (And.intro y1.1.1 (Exists.intro _ (And.intro (y1.1.2.2 54 (by decide)) ?_)))
      refine Exists.intro _ (Exists.intro _ (And.intro e54 (And.intro (by rw [e12]; exact vp_in_nI (by omega) (by decide)) ?_)))
      rw [e12, nI_clamp (by omega)]
      exact And.intro rfl (hP)
    · rw [if_neg (fun z => c2 ((in_n (by omega)).mp z))]
      have e : aAt (some (gT (suL D) j)) i = -1 := if_neg c2
      rw [e] at hP
      refine And.intro (fun _ => ?_) (fun cz => by first | exact absurd cz (by decide) | exact absurd (by decide) cz)
      exact And.intro rfl (hP)
  · rw [if_neg (fun z => c1 ((in_n (by omega)).mp z))]
    rw [if_neg c1] at hP
    refine And.intro (fun _ => ?_) (fun cz => by first | exact absurd cz (by decide) | exact absurd (by decide) cz)
    exact And.intro rfl (hP)
set_option maxHeartbeats 8000000 in
theorem m_suiteActs {l : Launch} {G : GG} {h : AH} {nx : Nat} {Post : Option Value → AH → Nat → Prop} {o d sb : Nat} {D : DD} {fs : List Value} (hX : XC G ∧ TX l G) (hM : MA h o fs) (hS : SHm h o) (f19 : fs[19]? = some (.int (nI d))) (hD : MPg h o d D) (hw : WD D) (hst : MSt h o fs sb) (hsb : sb + 300 < 2 ^ 31) (hK : fs[84]? = some (.int 0) ∨ rwK h o fs D) (hP : ∀ (h1 : AH) (fs1 : List Value), MSu h o fs h1 fs1 → rwK h1 o fs1 D → MSt h1 o fs1 (sb + 212) → Post (some (.int (aSuiteActs D))) h1 nx) : Runs l G i_X12_suiteActs 0 0 [.ref o] h nx Post := by
  have hsu := suL_ok hw
  have h30 := hsu.1.1
  refine en_X12_suiteActs hX [8] 60 rfl ?_
  refine Exists.intro _ (And.intro hM.1 (Exists.intro 0 (Exists.intro 0 (And.intro (Nat.le_refl _) (And.intro (Nat.le_refl _) (m_makesSuite hX hM hS f19 hD hw hst hsb hK (fun h1 fs1 y1 y2 y3 => ?_)))))))
  have hP := hP h1 fs1 y1 y2 y3
  obtain ⟨k84, k85, k86, g53, g54, e53, e54, v⟩ := y2
  have loop : ∀ (m k n : Nat), k + m = (suL D).length → n = sumA ((suL D).take k) → Go l G 12 s_X12_suiteActs 0 0 Post 8 [(2, .int (nI k)), (1, .int (nI n)), (0, .ref o)] [] h1 nx 0 0 := by
    intro m
    induction m with
    | zero =>
      intro k n hk hn
      rw [List.take_of_length_le (by omega)] at hn
      refine Go.of hX.2 ck_X12_suiteActs [8] 30 ?_
      refine Exists.intro _ (And.intro y1.1.1 (Exists.intro _ (And.intro k86 ?_)))
      refine And.intro (fun _ => ?_) (fun cz => absurd (nI_le (a := (suL D).length) (b := k) (by omega) (by omega)) cz)
      unfold aSuiteActs at hP
      rw [← hn] at hP
      exact And.intro rfl (hP)
    | succ m ih =>
      intro k n hk hn
      have hka : k < (suL D).length := by omega
      refine Go.of hX.2 ck_X12_suiteActs [8] 40 ?_
      refine Exists.intro _ (And.intro y1.1.1 (Exists.intro _ (And.intro k86 ?_)))
      refine And.intro (fun cz => absurd cz (nI_ge (a := k) (b := (suL D).length) hka (by omega))) (fun _ => ?_)
      refine Exists.intro _ (And.intro y1.1.1 (Exists.intro _ (And.intro (y1.1.2.2 53 (by decide)) ?_)))
      refine Exists.intro _ (Exists.intro _ (And.intro e53 (And.intro (vp_in_nI (n := k) (by omega) (by decide)) ?_)))
      rw [nI_clamp (show k < 2 ^ 31 by omega), (v k hka).1]
      refine go_loc (lv' := [(2, .int (nI k + 1)), (1, .int (nI n + nI (gT (suL D) k).1)), (0, .ref o)]) ⟨rfl, rfl, rfl, trivial⟩ ?_
      rw [← nI_succ, nI_add]
      exact ih (k + 1) _ (by omega) (by rw [sumA_take hka, ← hn])
  refine go_loc (lv' := [(2, .int (nI 0)), (1, .int (nI 0)), (0, .ref o)]) ⟨rfl, rfl, rfl, trivial⟩ ?_
  exact loop (suL D).length 0 0 (Nat.zero_add _) rfl
