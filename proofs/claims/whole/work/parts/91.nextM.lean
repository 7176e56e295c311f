/-! logs, the model: how many fit, and the next log -/
set_option maxHeartbeats 8000000 in
theorem m_rowActs {l : Launch} {G : GG} {h : AH} {nx : Nat} {Post : Option Value → AH → Nat → Prop} {row : Nat} (hX : XC G ∧ TX l G) (hr : row < 31) (hP : Post (some (.int (nI (raN row)))) h nx) : Runs l G i_X12_rowActs 0 0 [.int (nI row)] h nx Post := by
  refine en_X12_rowActs hX [] 40 rfl ?_
  by_cases c0 : row = 0
  · refine And.intro (fun cz => absurd (show nI row = 0 from by rw [c0]; rfl) cz) (fun _ => ?_)
    subst c0
    exact And.intro rfl (hP)
  · refine And.intro (fun _ => ?_) (fun cz => absurd cz (nI_ne0 (by omega) (by omega)))
    unfold raN at hP
    by_cases c2 : row ≤ 5
    · rw [if_pos c2] at hP
      refine And.intro (fun cz => absurd cz (nI_ge (a := row) (b := 6) (by omega) (by decide))) (fun _ => ?_)
      refine And.intro rfl ?_
      show Post (some (.int (nI row - 1))) h nx
      rw [show nI row - 1 = nI (row - 1) from nI_sub (b := 1) (by omega)]
      exact hP
    · rw [if_neg c2] at hP
      refine And.intro (fun _ => ?_) (fun cz => absurd (nI_le (a := 6) (b := row) (by omega) (by omega)) cz)
      refine And.intro (by decide) ?_
      refine And.intro (by decide) ?_
      refine And.intro rfl ?_
      have e : ∀ r, r < 31 → ¬ r ≤ 5 → (nI r - 6) / 5 + 5 * ((nI r - 6) - (nI r - 6) / 5 * 5) = nI ((r - 6) / 5 + 5 * ((r - 6) % 5)) := by decide
      show Post (some (.int ((nI row - 6) / 5 + 5 * ((nI row - 6) - (nI row - 6) / 5 * 5)))) h nx
      rw [e row hr c2]
      exact hP
theorem rowB_c : ∀ m, m ≤ 5 → ∀ row, row < 31 → okA m (rcN row) (raN row) = (decide (row = 0) || (if row < 6 then decide (row - 1 < m) else (decide ((row - 6) / 5 < m) && decide ((row - 6) % 5 < m)))) := by decide +kernel
set_option maxHeartbeats 8000000 in
theorem m_isRow {l : Launch} {G : GG} {h : AH} {nx : Nat} {Post : Option Value → AH → Nat → Prop} {o d row : Nat} {D : DD} {fs : List Value} (hX : XC G ∧ TX l G) (hM : MA h o fs) (f19 : fs[19]? = some (.int (nI d))) (hD : MPg h o d D) (hw : WD D) (hr : row < 31) (hP : Post (some (.int (nI (rowB D row).toNat))) h nx) : Runs l G i_X12_isRow 0 0 [.ref o, .int (nI row)] h nx Post := by
  have hd := hD.2.2.2.2.2.2.2
  obtain ⟨_, _, _, ⟨gI, eI, pI⟩, _⟩ := id hD
  have hi := hw.i
  unfold rowB at hP
  rw [rowB_c _ hi row hr] at hP
  refine en_X12_isRow hX [] 60 rfl ?_
  refine Exists.intro _ (And.intro hM.1 (Exists.intro _ (And.intro (hM.2.2 7 (by decide)) ?_)))
  refine Exists.intro _ (And.intro hM.1 (Exists.intro _ (And.intro f19 ?_)))
  refine Exists.intro _ (Exists.intro _ (And.intro eI (And.intro (vp_in_nI hd (by decide)) ?_)))
  rw [nI_clamp (show d < 2 ^ 31 by omega), pI]
  by_cases c0 : row = 0
  · refine And.intro (fun _ => ?_) (fun cz => absurd (show nI row = 0 from by rw [c0]; rfl) cz)
    rw [decide_eq_true c0] at hP
    exact And.intro rfl (hP)
  · refine And.intro (fun cz => absurd cz (nI_ne0 (by omega) (by omega))) (fun _ => ?_)
    rw [decide_eq_false c0, Bool.false_or] at hP
    by_cases c1 : row < 6
    · rw [if_pos c1] at hP
      refine And.intro (fun cz => absurd cz (nI_ge (a := row) (b := 6) c1 (by decide))) (fun _ => ?_)
      have e1 : nI row - 1 = nI (row - 1) := nI_sub (b := 1) (by omega)
      by_cases c2 : row - 1 < dI D
      · refine And.intro (fun cz => absurd cz (show ¬ nI (dI D) ≤ nI row - 1 from by rw [e1]; exact nI_ge c2 (by omega))) (fun _ => ?_)
        rw [decide_eq_true c2] at hP
        exact And.intro rfl (hP)
      · refine And.intro (fun _ => ?_) (fun cz => absurd (show nI (dI D) ≤ nI row - 1 from by rw [e1]; exact nI_le (by omega) (by omega)) cz)
        rw [decide_eq_false c2] at hP
        exact And.intro rfl (hP)
    · rw [if_neg c1] at hP
      refine And.intro (fun _ => ?_) (fun cz => absurd (nI_le (a := 6) (b := row) (by omega) (by omega)) cz)
      have e1 : nI row - 6 = nI (row - 6) := nI_sub (b := 6) (by omega)
      have e2 : (nI row - 6) / 5 = nI ((row - 6) / 5) := by rw [e1]; exact pk_div (d := 5) (by omega) (by decide) (by decide)
      have e3 : (nI row - 6) - (nI row - 6) / 5 * 5 = nI ((row - 6) % 5) := by rw [e1]; exact pk_rem (d := 5) (by omega) (by decide) (by decide)
      refine And.intro (by decide) ?_
      by_cases c2 : (row - 6) / 5 < dI D
      · refine And.intro (fun cz => absurd cz (show ¬ nI (dI D) ≤ (nI row - 6) / 5 from by rw [e2]; exact nI_ge c2 (by omega))) (fun _ => ?_)
        rw [decide_eq_true c2, Bool.true_and] at hP
        refine And.intro (by decide) ?_
        by_cases c3 : (row - 6) % 5 < dI D
        · refine And.intro (fun cz => absurd cz (show ¬ nI (dI D) ≤ (nI row - 6) - (nI row - 6) / 5 * 5 from by rw [e3]; exact nI_ge c3 (by omega))) (fun _ => ?_)
          rw [decide_eq_true c3] at hP
          exact And.intro rfl (hP)
        · refine And.intro (fun _ => ?_) (fun cz => absurd (show nI (dI D) ≤ (nI row - 6) - (nI row - 6) / 5 * 5 from by rw [e3]; exact nI_le (by omega) (by omega)) cz)
          rw [decide_eq_false c3] at hP
          exact And.intro rfl (hP)
      · refine And.intro (fun _ => ?_) (fun cz => absurd (show nI (dI D) ≤ (nI row - 6) / 5 from by rw [e2]; exact nI_le (by omega) (by omega)) cz)
        rw [decide_eq_false c2, Bool.false_and] at hP
        exact And.intro rfl (hP)
/-- what a count of suspects leaves -/
def MCo (h : AH) (o : Nat) (fs : List Value) (h1 : AH) (fs1 : List Value) : Prop := MA h1 o fs1 ∧ SHm h1 o ∧ (∀ k, fHut k = false → k ≠ 96 → fs1[k]? = fs[k]?) ∧ (∀ a, (a < o ∨ (o < a ∧ a < o + 1 + 35) ∨ (o + 1 + 49 ≤ a ∧ a < o + 1 + 61) ∨ o + 1 + 63 ≤ a) → h1 a = h a)
theorem MCo.rf {h : AH} {o : Nat} {fs : List Value} (hM : MA h o fs) (hS : SHm h o) : MCo h o fs h fs := ⟨hM, hS, fun _ _ _ => rfl, fun _ _ => rfl⟩
theorem MH.co {h h1 : AH} {o : Nat} {fs fs1 : List Value} (a : MH h o fs h1 fs1) : MCo h o fs h1 fs1 := ⟨a.1, a.2.1, fun k hk _ => a.2.2.1 k hk, fun x hx => a.2.2.2 x (by omega)⟩
theorem MCo.tr {h h1 h2 : AH} {o : Nat} {fs fs1 fs2 : List Value} (a : MCo h o fs h1 fs1) (b : MCo h1 o fs1 h2 fs2) : MCo h o fs h2 fs2 := ⟨b.1, b.2.1, fun k hk hk2 => (b.2.2.1 k hk hk2).trans (a.2.2.1 k hk hk2), fun x hx => (b.2.2.2 x hx).trans (a.2.2.2 x hx)⟩
theorem rfM_no96 : ∀ j, j < 63 → rfM j ≠ 96 := by decide +kernel
theorem MCo.set {h h1 : AH} {o : Nat} {fs fs1 : List Value} {v : Value} (a : MCo h o fs h1 fs1) : MCo h o fs (uph h1 o (.inr (12, fs1.set 96 v))) (fs1.set 96 v) := by
  obtain ⟨⟨a1, a2, a3⟩, b, c, d⟩ := a
  refine ⟨⟨uph_eq, by rw [List.length_set]; exact a2, fun j hj => ?_⟩, b.obj, fun i hi hi2 => ?_, fun x hx => (uph_ne (by omega)).trans (d x hx)⟩
  · rw [get_set_ne (rfM_no96 j hj).symm]
    exact a3 j hj
  · rw [get_set_ne hi2.symm]
    exact c i hi hi2
theorem MCo.row {h h1 : AH} {o j n : Nat} {fs fs1 : List Value} {g : Nat → Int32} (a : MCo h o fs h1 fs1) (hj : 61 ≤ j ∧ j < 63) (hn : tyL.getD j (0, 0) = (0, n)) : MCo h o fs (uph h1 (o + 1 + j) (.inl (0, n, .inl g))) fs1 := by
  obtain ⟨a1, b, c, d⟩ := a
  refine ⟨a1.keep (uph_ne (by omega)), b.upd (fun i hi => ?_), c, fun x hx => (uph_ne (by omega)).trans (d x hx)⟩
  by_cases e : i = j
  · right
    rw [e, uph_eq]
    exact rowS_i (by decide) hn ⟨g, rfl⟩
  · left
    exact uph_ne (by omega)
theorem MCo.pg {h h1 : AH} {o d : Nat} {fs fs1 : List Value} {D : DD} (a : MCo h o fs h1 fs1) (hD : MPg h o d D) : MPg h1 o d D := hD.ag (fun j hj => a.2.2.2 _ (by omega))
theorem MCo.f {h h1 : AH} {o : Nat} {fs fs1 : List Value} (a : MCo h o fs h1 fs1) {k : Nat} {v : Value} (hk : fHut k = false) (hk2 : k ≠ 96) (e : fs[k]? = some v) : fs1[k]? = some v := (a.2.2.1 k hk hk2).trans e
theorem MCo.lg {h h1 : AH} {o : Nat} {fs fs1 : List Value} {L : List LE} (a : MCo h o fs h1 fs1) (hL : MLg h o fs L) : MLg h1 o fs1 L := hL.ag (a.2.2.1 91 rfl (by decide)) (fun j h1 h2 => a.2.2.2 _ (by omega))
/-- the tally of those that fit -/
def MCt (h : AH) (o : Nat) (fs : List Value) (D : DD) (S : List (Option Nat)) (h1 : AH) (fs1 : List Value) : Prop := MCo h o fs h1 fs1 ∧ fs1[96]? = some (.int (nI S.length)) ∧ ∃ g, h1 (o + 1 + 62) = some (.inl (0, 1023, .inl g)) ∧ tlOk g (fun row o => tlC D row o S)
noncomputable def tlP (D : DD) (f : Option Nat) (S : List (Option Nat)) (r row o : Nat) : Nat := if row < r then tlC D row o (f :: S) else tlC D row o S
set_option maxHeartbeats 8000000 in
theorem m_counts {l : Launch} {G : GG} {h : AH} {nx : Nat} {Post : Option Value → AH → Nat → Prop} {o d n : Nat} {D : DD} {L : List LE} {fs : List Value} (hX : XC G ∧ TX l G) (hM : MA h o fs) (hS : SHm h o) (f19 : fs[19]? = some (.int (nI d))) (hD : MPg h o d D) (hw : WD D) (hL : MLg h o fs L) (hwl : WLg L) (hn : n ≤ L.length) (hP : ∀ (h1 : AH) (fs1 : List Value), MCt h o fs D (fits D L n) h1 fs1 → Post none h1 nx) : Runs l G i_X12_counts 0 0 [.ref o, .int (nI n)] h nx Post := by
  have h40 := hwl.1
  have rows : ∀ (x : Int32) (f : Option Nat) (S : List (Option Nat)), okW D f → (∀ (h2 : AH) (fs2 : List Value), MCt h o fs D (f :: S) h2 fs2 → Go l G 12 s_X12_counts 0 0 Post 163 [(2, .int x), (0, .ref o), (1, .int (nI n))] [] h2 nx 0 0) → ∀ (m r : Nat) (h1 : AH) (fs1 : List Value) (g : Nat → Int32), r + m = 31 → MCo h o fs h1 fs1 → HB h1 o 1 (kOne D f none) → fs1[96]? = some (.int (nI S.length + 1)) → h1 (o + 1 + 62) = some (.inl (0, 1023, .inl g)) → tlOk g (tlP D f S r) → Go l G 12 s_X12_counts 0 0 Post 82 [(3, .int (nI r)), (2, .int x), (0, .ref o), (1, .int (nI n))] [] h1 nx 0 0 := by
    intro x f S hf hQ m
    have hq : WK (kOne D f none) := WK_one hw hf okW_no
    induction m with
    | zero =>
      intro r h1 fs1 g hr R hB f96 e62 hg
      have e : r = 31 := by omega
      subst e
      refine Go.of hX.2 ck_X12_counts [163] 20 ?_
      refine And.intro (fun _ => ?_) (fun cz => by first | exact absurd cz (by decide) | exact absurd (by decide) cz)
      refine go_loc (lv' := [(2, .int x), (0, .ref o), (1, .int (nI n))]) ⟨rfl, rfl, rfl, trivial⟩ ?_
      refine hQ h1 fs1 ⟨R, by rw [List.length_cons, nI_succ]; exact f96, g, e62, fun row oo a1 a2 => ?_⟩
      have : g (33 * row + oo) = nI (tlP D f S 31 row oo) := hg row oo a1 a2
      rw [this]
      unfold tlP
      rw [if_pos a1]
    | succ m ih =>
      intro r h1 fs1 g hr R hB f96 e62 hg
      have hr31 : r < 31 := by omega
      have hb := rcN_b r hr31
      have hM1 := R.1
      obtain ⟨g61, e61⟩ := R.2.1.i 61 (by decide) (by decide) (t := 0) (n := 31) rfl
      obtain ⟨o1, o2, o3⟩ := oX_out (q := kOne D f none) (n := rcN r) (r := raN r)
      have e33 : ∀ i, (33 : Int32) * nI r + nI i = nI (33 * r + i) := fun i => by rw [show (33 : Int32) = nI 33 from rfl, nI_mul, nI_add]
      have fin : ∀ (lv : LV), lk lv 4 = some (.int (outF (kOne D f none) (rcN r) (raN r))) → lk lv 3 = some (.int (nI r)) → lk lv 2 = some (.int x) → lk lv 0 = some (.ref o) → lk lv 1 = some (.int (nI n)) → Go l G 12 s_X12_counts 0 0 Post 117 lv [] h1 nx 0 0 := by
        intro lv l4 l3 l2 l0 l1
        refine go_loc (lv' := [(4, .int (outF (kOne D f none) (rcN r) (raN r))), (3, .int (nI r)), (2, .int x), (0, .ref o), (1, .int (nI n))]) ⟨l4, l3, l2, l0, l1, trivial⟩ ?_
        have fin2 : ∀ v : Int32, v = nI (rO D r f) → Go l G 12 s_X12_counts 0 0 Post 137 [(4, .int (outF (kOne D f none) (rcN r) (raN r))), (3, .int (nI r)), (2, .int x), (0, .ref o), (1, .int (nI n))] [] (uph h1 (o + 1 + 61) (.inl (0, 31, .inl (upd g61 r v)))) nx 0 0 := by
          intro v hv
          have R2 := R.row (j := 61) (n := 31) (g := upd g61 r v) (by decide) rfl
          have e62b := (show uph h1 (o + 1 + 61) (.inl (0, 31, .inl (upd g61 r v))) (o + 1 + 62) = h1 (o + 1 + 62) from uph_ne (by omega)).trans e62
          have lt : 33 * r + rO D r f < 1023 := by unfold rO; omega
          have ix : (33 : Int32) * nI r + upd g61 r v r = nI (33 * r + rO D r f) := by rw [pk_us, hv, e33]
          refine Go.of hX.2 ck_X12_counts [82] 60 ?_
          refine Exists.intro _ (And.intro R2.1.1 (Exists.intro _ (And.intro (R2.1.2.2 62 (by decide)) ?_)))
          refine Exists.intro _ (And.intro R2.1.1 (Exists.intro _ (And.intro (R2.1.2.2 61 (by decide)) ?_)))
          refine Exists.intro _ (Exists.intro _ (And.intro uph_eq (And.intro (vp_in_nI hr31 (by decide)) ?_)))
          rw [nI_clamp (show r < 2 ^ 31 by omega)]
          refine Exists.intro _ (Exists.intro _ (And.intro e62b (And.intro (by rw [ix]; exact vp_in_nI lt (by decide)) ?_)))
          refine Exists.intro _ (Exists.intro _ (And.intro e62b (And.intro (by rw [ix]; exact vp_in_nI lt (by decide)) ?_)))
          rw [ix, nI_clamp (show 33 * r + rO D r f < 2 ^ 31 by omega)]
          refine go_loc (lv' := [(3, .int (nI r + 1)), (2, .int x), (0, .ref o), (1, .int (nI n))]) ⟨rfl, rfl, rfl, rfl, trivial⟩ ?_
          rw [← nI_succ]
          have R3 := R2.row (j := 62) (n := 1023) (g := upd g (33 * r + rO D r f) (g (33 * r + rO D r f) + 1)) (by decide) rfl
          refine ih (r + 1) _ fs1 _ (by omega) R3 (hB.ag (fun j a1 a2 => by rw [uph_ne (by omega), uph_ne (by omega)])) f96 uph_eq (fun row oo a1 a2 => ?_)
          have hh : g (33 * row + oo) = nI (tlP D f S r row oo) := hg row oo a1 a2
          unfold tlP at hh ⊢
          by_cases e : row = r
          · rw [if_neg (show ¬ row < r by omega)] at hh
            rw [if_pos (show row < r + 1 by omega)]
            subst e
            show _ = nI (tlC D row oo S + (if rO D row f = oo then 1 else 0))
            by_cases e2 : oo = rO D row f
            · rw [e2] at hh
              rw [e2, pk_us, if_pos rfl, nI_succ, hh]
            · have hlt : rO D row f < 33 := o1
              rw [pk_un (by omega), if_neg (fun z => e2 z.symm), Nat.add_zero]
              exact hh
          · have hlt : rO D r f < 33 := o1
            rw [pk_un (by omega), hh]
            by_cases e2 : row < r
            · rw [if_pos e2, if_pos (show row < r + 1 by omega)]
            · rw [if_neg e2, if_neg (show ¬ row < r + 1 by omega)]
        refine Go.of hX.2 ck_X12_counts [137] 60 ?_
        refine Exists.intro _ (And.intro hM1.1 (Exists.intro _ (And.intro (hM1.2.2 61 (by decide)) ?_)))
        by_cases cr : outF (kOne D f none) (rcN r) (raN r) = -2
        · refine And.intro (fun cz => absurd cz (fun z => z cr)) (fun _ => ?_)
          refine Exists.intro _ (Exists.intro _ (And.intro e61 (And.intro (vp_in_nI hr31 (by decide)) ?_)))
          rw [nI_clamp (show r < 2 ^ 31 by omega)]
          exact fin2 32 (by rw [show rO D r f = 32 from o2 cr]; rfl)
        · refine And.intro (fun _ => ?_) (fun cz => absurd cz (cr))
          refine Exists.intro _ (Exists.intro _ (And.intro e61 (And.intro (vp_in_nI hr31 (by decide)) ?_)))
          rw [nI_clamp (show r < 2 ^ 31 by omega)]
          exact fin2 _ (o3 cr).1
      have call : ∀ (k : Nat), k = rcN r → Runs l G i_X12_showsBehind 0 0 [.ref o, .int (nI k), .int (nI (raN r))] h1 nx (fun v h2 n2 => v = some (.int (outF (kOne D f none) (rcN r) (raN r))) ∧ h2 = h1 ∧ n2 = nx) := by
        intro k hk
        rw [hk]
        exact m_showsBehind (Post := fun v h2 n2 => v = some (.int (outF (kOne D f none) (rcN r) (raN r))) ∧ h2 = h1 ∧ n2 = nx) hX hM1 (R.f rfl (by decide) f19) (R.pg hD) hq rfl hB (by omega) (by omega) ⟨rfl, rfl, rfl⟩
      have e0 : nI (rcN r) = if r = 0 then 0 else if r ≤ 5 then 1 else 2 := by
        unfold rcN
        split
        · rfl
        · split <;> rfl
      refine Go.of hX.2 ck_X12_counts [117] 60 ?_
      refine And.intro (fun cz => absurd cz (nI_ge (a := r) (b := 31) hr31 (by decide))) (fun _ => ?_)
      by_cases c0 : r = 0
      · rw [if_pos c0] at e0
        refine And.intro (fun cz => absurd (show nI r = 0 from by rw [c0]; rfl) cz) (fun _ => ?_)
        refine Exists.intro 0 (Exists.intro 0 (And.intro (Nat.le_refl _) (And.intro (Nat.le_refl _) (m_rowActs hX hr31 ?_))))
        rw [← e0]
        refine Exists.intro _ (And.intro hM1.1 (Exists.intro 0 (Exists.intro 0 (And.intro (Nat.le_refl _) (And.intro (Nat.le_refl _) (m_showsBehind hX hM1 (R.f rfl (by decide) f19) (R.pg hD) hq rfl hB (by omega) (by omega) ?_))))))
        exact fin _ rfl rfl rfl rfl rfl
      · rw [if_neg c0] at e0
        refine And.intro (fun _ => ?_) (fun cz => absurd cz (nI_ne0 (by omega) (by omega)))
        by_cases c1 : r ≤ 5
        · rw [if_pos c1] at e0
          refine And.intro (fun cz => absurd cz (nI_ge (a := r) (b := 6) (by omega) (by decide))) (fun _ => ?_)
          refine Exists.intro 0 (Exists.intro 0 (And.intro (Nat.le_refl _) (And.intro (Nat.le_refl _) (m_rowActs hX hr31 ?_))))
          rw [← e0]
          refine Exists.intro _ (And.intro hM1.1 (Exists.intro 0 (Exists.intro 0 (And.intro (Nat.le_refl _) (And.intro (Nat.le_refl _) (m_showsBehind hX hM1 (R.f rfl (by decide) f19) (R.pg hD) hq rfl hB (by omega) (by omega) ?_))))))
          exact fin _ rfl rfl rfl rfl rfl
        · rw [if_neg c1] at e0
          refine And.intro (fun _ => ?_) (fun cz => absurd (nI_le (a := 6) (b := r) (by omega) (by omega)) cz)
          refine Exists.intro 0 (Exists.intro 0 (And.intro (Nat.le_refl _) (And.intro (Nat.le_refl _) (m_rowActs hX hr31 ?_))))
          rw [← e0]
          refine Exists.intro _ (And.intro hM1.1 (Exists.intro 0 (Exists.intro 0 (And.intro (Nat.le_refl _) (And.intro (Nat.le_refl _) (m_showsBehind hX hM1 (R.f rfl (by decide) f19) (R.pg hD) hq rfl hB (by omega) (by omega) ?_))))))
          exact fin _ rfl rfl rfl rfl rfl
  have body : ∀ (x : Int32) (f : Option Nat) (S : List (Option Nat)) (h1 : AH) (fs1 : List Value), vFn (dK D) (dR D) (dow D) x = true → fOf x = f → okW D f → MCt h o fs D S h1 fs1 → (∀ (h2 : AH) (fs2 : List Value), MCt h o fs D (if fitB (kOne D f none) L n = true then f :: S else S) h2 fs2 → Go l G 12 s_X12_counts 0 0 Post 163 [(2, .int x), (0, .ref o), (1, .int (nI n))] [] h2 nx 0 0) → Go l G 12 s_X12_counts 0 0 Post 52 [(2, .int x), (0, .ref o), (1, .int (nI n))] [] h1 nx 0 0 := by
    intro x f S h1 fs1 hx hfx hf hT hQ
    obtain ⟨R, f96, g, e62, hg⟩ := hT
    refine Go.of hX.2 ck_X12_counts [82, 163] 60 ?_
    refine Exists.intro _ (And.intro R.1.1 (Exists.intro 0 (Exists.intro 0 (And.intro (Nat.le_refl _) (And.intro (Nat.le_refl _) (m_builds1 (hh := 1) hX R.1 R.2.1 (R.f rfl (by decide) f19) (R.pg hD) hw (by decide) hx vFn_1 (fun h2 fs2 y1 y2 y3 y4 => ?_)))))))
    rw [kFG_1, hfx] at y2 y3
    have R2 := R.tr y1.co
    have f96b := y1.f (k := 96) rfl f96
    have e62b := (y1.2.2.2 (o + 1 + 62) (by omega)).trans e62
    refine Exists.intro _ (And.intro R2.1.1 (Exists.intro 0 (Exists.intro 0 (And.intro (Nat.le_refl _) (And.intro (Nat.le_refl _) (m_fitsLogs hX R2.1 (R2.f rfl (by decide) f19) (R2.pg hD) y2 rfl y3 (R2.lg hL) hwl hn ?_))))))
    cases cf : fitB (kOne D f none) L n with
    | false =>
      rw [if_neg (by rw [cf]; decide)] at hQ
      refine And.intro (fun cz => by first | exact absurd cz (by decide) | exact absurd (by decide) cz) (fun _ => ?_)
      exact go_loc (lv' := [(2, .int x), (0, .ref o), (1, .int (nI n))]) ⟨rfl, rfl, rfl, trivial⟩ (hQ h2 fs2 ⟨R2, f96b, g, e62b, hg⟩)
    | true =>
      rw [if_pos cf] at hQ
      have hlen := R2.1.2.1
      refine And.intro (fun _ => ?_) (fun cz => by first | exact absurd cz (by decide) | exact absurd (by decide) cz)
      refine Exists.intro _ (And.intro R2.1.1 (Exists.intro _ (And.intro f96b ?_)))
      refine Exists.intro _ (And.intro R2.1.1 (And.intro (by omega) (And.intro rfl (And.intro rfl ?_))))
      have R3 := R2.set (v := .int (nI S.length + 1))
      refine go_loc (lv' := [(3, .int (nI 0)), (2, .int x), (0, .ref o), (1, .int (nI n))]) ⟨rfl, rfl, rfl, rfl, trivial⟩ ?_
      refine rows x f S hf hQ 31 0 _ _ g (Nat.zero_add _) R3 (y3.ag (fun j a1 a2 => uph_ne (by omega))) (List.getElem?_set_self (by omega)) ((uph_ne (by omega)).trans e62b) (fun row oo a1 a2 => ?_)
      unfold tlP
      rw [if_neg (Nat.not_lt_zero _)]
      exact hg row oo a1 a2
  have loop : ∀ (m i : Nat) (S : List (Option Nat)) (h1 : AH) (fs1 : List Value), i + m = 212 → fits D L n = acF D L n ((flF D i).map some) S → MCt h o fs D S h1 fs1 → Go l G 12 s_X12_counts 0 0 Post 29 [(2, .int (nI i)), (0, .ref o), (1, .int (nI n))] [] h1 nx 0 0 := by
    intro m
    induction m with
    | zero =>
      intro i S h1 fs1 hi hS2 hT
      have e : i = 212 := by omega
      subst e
      rw [flF_end] at hS2
      have hS3 : fits D L n = S := hS2
      refine Go.of hX.2 ck_X12_counts [29] 20 ?_
      refine And.intro (fun _ => ?_) (fun cz => by first | exact absurd cz (by decide) | exact absurd (by decide) cz)
      exact hP h1 fs1 (hS3 ▸ hT)
    | succ m ih =>
      intro i S h1 fs1 hi hS2 hT
      have R := hT.1
      rw [flF_step (by omega)] at hS2
      have nxt : ∀ (h2 : AH) (fs2 : List Value) (S2 : List (Option Nat)), fits D L n = acF D L n ((flF D (i + 1)).map some) S2 → MCt h o fs D S2 h2 fs2 → Go l G 12 s_X12_counts 0 0 Post 163 [(2, .int (nI i)), (0, .ref o), (1, .int (nI n))] [] h2 nx 0 0 := by
        intro h2 fs2 S2 z1 z2
        refine Go.of hX.2 ck_X12_counts [29] 20 ?_
        refine go_loc (lv' := [(2, .int (nI i + 1)), (0, .ref o), (1, .int (nI n))]) ⟨rfl, rfl, rfl, trivial⟩ ?_
        rw [← nI_succ]
        exact ih (i + 1) S2 h2 fs2 (by omega) z1 z2
      refine Go.of hX.2 ck_X12_counts [52, 163] 40 ?_
      refine And.intro (fun cz => absurd cz (nI_ge (a := i) (b := 212) (by omega) (by decide))) (fun _ => ?_)
      refine And.intro (fun cz => absurd cz (fun z => absurd (show nI i < 0 from z ▸ (by decide)) (nI_pos (by omega)))) (fun _ => ?_)
      refine Exists.intro _ (And.intro R.1.1 (Exists.intro 0 (Exists.intro 0 (And.intro (Nat.le_refl _) (And.intro (Nat.le_refl _) (m_isFlaw hX R.1 (R.f rfl (by decide) f19) (R.pg hD) hw ?_))))))
      rw [vFx_nI (by omega)]
      by_cases c1 : vFb (dK D) (dR D) (dow D) i = true
      · rw [if_pos c1] at hS2
        rw [c1]
        refine And.intro (fun _ => ?_) (fun cz => by first | exact absurd cz (by decide) | exact absurd (by decide) cz)
        have hv : vFx (dK D) (dR D) (dow D) (nI i) = true := by rw [vFx_nI (by omega)]; exact c1
        obtain ⟨q1, q2, q3, q4, q5⟩ := fOf_x hw hv
        rw [nI_clamp (by omega)] at q1
        have hok : okW D (some i) := q1 ▸ q3
        have hS3 : fits D L n = acF D L n ((flF D (i + 1)).map some) (if fitB (kOne D (some i) none) L n = true then some i :: S else S) := hS2
        exact go_loc (lv' := [(2, .int (nI i)), (0, .ref o), (1, .int (nI n))]) ⟨rfl, rfl, rfl, trivial⟩ (body (nI i) (some i) S h1 fs1 (by unfold vFn; rw [hv, Bool.or_true]) q1 hok hT (fun h2 fs2 z => nxt h2 fs2 _ hS3 z))
      · rw [if_neg c1] at hS2
        rw [Bool.not_eq_true] at c1
        rw [c1]
        refine And.intro (fun cz => by first | exact absurd cz (by decide) | exact absurd (by decide) cz) (fun _ => ?_)
        exact go_loc (lv' := [(2, .int (nI i)), (0, .ref o), (1, .int (nI n))]) ⟨rfl, rfl, rfl, trivial⟩ (nxt h1 fs1 S hS2 hT)
  have first : ∀ (h1 : AH) (fs1 : List Value), MCt h o fs D [] h1 fs1 → Go l G 12 s_X12_counts 0 0 Post 29 [(2, .int (-1)), (0, .ref o), (1, .int (nI n))] [] h1 nx 0 0 := by
    intro h1 fs1 hT
    refine Go.of hX.2 ck_X12_counts [52] 20 ?_
    refine And.intro (fun cz => by first | exact absurd cz (by decide) | exact absurd (by decide) cz) (fun _ => ?_)
    refine And.intro (fun _ => ?_) (fun cz => by first | exact absurd cz (by decide) | exact absurd (by decide) cz)
    refine go_loc (lv' := [(2, .int (-1)), (0, .ref o), (1, .int (nI n))]) ⟨rfl, rfl, rfl, trivial⟩ ?_
    refine body (-1) none [] h1 fs1 vFn_1 rfl okW_no hT (fun h2 fs2 z => ?_)
    refine Go.of hX.2 ck_X12_counts [29] 20 ?_
    refine go_loc (lv' := [(2, .int (nI 0)), (0, .ref o), (1, .int (nI n))]) ⟨rfl, rfl, rfl, trivial⟩ ?_
    exact loop 212 0 _ h2 fs2 rfl (by rw [flF_0]; rfl) z
  have hlen := hM.2.1
  have R0 := (MCo.rf hM hS).set (v := .int (nI 0))
  have f96 : (fs.set 96 (.int (nI 0)))[96]? = some (.int (nI 0)) := List.getElem?_set_self (by omega)
  have clr : ∀ (m i : Nat) (g : Nat → Int32), i + m = 1023 → (∀ a, a < i → g a = 0) → Go l G 12 s_X12_counts 0 0 Post 7 [(2, .int (nI i)), (0, .ref o), (1, .int (nI n))] [] (uph (uph h o (.inr (12, fs.set 96 (.int (nI 0))))) (o + 1 + 62) (.inl (0, 1023, .inl g))) nx 0 0 := by
    intro m
    induction m with
    | zero =>
      intro i g hi hz
      have R1 := R0.row (j := 62) (n := 1023) (g := g) (by decide) rfl
      have e : i = 1023 := by omega
      subst e
      refine Go.of hX.2 ck_X12_counts [29] 20 ?_
      refine And.intro (fun _ => ?_) (fun cz => by first | exact absurd cz (by decide) | exact absurd (by decide) cz)
      refine go_loc (lv' := [(2, .int (-1)), (0, .ref o), (1, .int (nI n))]) ⟨rfl, rfl, rfl, trivial⟩ ?_
      exact first _ _ ⟨R1, f96, g, uph_eq, fun row oo a1 a2 => by rw [hz _ (by omega)]; rfl⟩
    | succ m ih =>
      intro i g hi hz
      have R1 := R0.row (j := 62) (n := 1023) (g := g) (by decide) rfl
      refine Go.of hX.2 ck_X12_counts [7] 40 ?_
      refine And.intro (fun cz => absurd cz (nI_ge (a := i) (b := 1023) (by omega) (by decide))) (fun _ => ?_)
      refine Exists.intro _ (And.intro R1.1.1 (Exists.intro _ (And.intro (R1.1.2.2 62 (by decide)) ?_)))
      refine Exists.intro _ (Exists.intro _ (And.intro uph_eq (And.intro (vp_in_nI (by omega) (by decide)) ?_)))
      rw [uph_uph, nI_clamp (show i < 2 ^ 31 by omega)]
      refine go_loc (lv' := [(2, .int (nI i + 1)), (0, .ref o), (1, .int (nI n))]) ⟨rfl, rfl, rfl, trivial⟩ ?_
      rw [← nI_succ]
      refine ih (i + 1) _ (by omega) (fun a ha => ?_)
      by_cases e : a = i
      · rw [e]; exact pk_us
      · rw [pk_un e]; exact hz a (by omega)
  obtain ⟨g62, e62⟩ := hS.i 62 (by decide) (by decide) (t := 0) (n := 1023) rfl
  refine en_X12_counts hX [7] 40 rfl ?_
  refine Exists.intro _ (And.intro hM.1 (And.intro (by omega) (And.intro rfl (And.intro rfl ?_))))
  have := clr 1023 0 g62 (Nat.zero_add _) (fun a ha => absurd ha (Nat.not_lt_zero a))
  rw [uph_self ((uph_ne (by omega)).trans e62)] at this
  exact go_loc (lv' := [(2, .int (nI 0)), (0, .ref o), (1, .int (nI n))]) ⟨rfl, rfl, rfl, trivial⟩ (this)
set_option maxHeartbeats 8000000 in
theorem m_suspects {l : Launch} {G : GG} {h : AH} {nx : Nat} {Post : Option Value → AH → Nat → Prop} {o d : Nat} {n : Int32} {D : DD} {L : List LE} {fs : List Value} (hX : XC G ∧ TX l G) (hM : MA h o fs) (hS : SHm h o) (f19 : fs[19]? = some (.int (nI d))) (hD : MPg h o d D) (hw : WD D) (hL : MLg h o fs L) (hwl : WLg L) (hP : ∀ (h1 : AH) (fs1 : List Value), MCo h o fs h1 fs1 → Post (some (.int (aSuspects D L n))) h1 nx) : Runs l G i_X12_suspects 0 0 [.ref o, .int n] h nx Post := by
  have hd := hD.2.2.2.2.2.2.2
  unfold aSuspects at hP
  refine en_X12_suspects hX [] 60 rfl ?_
  refine Exists.intro _ (And.intro hM.1 (Exists.intro _ (And.intro f19 ?_)))
  refine And.intro (fun cz => absurd cz ((nI_n2 (show d < 64 by omega)).2.2)) (fun _ => ?_)
  refine Exists.intro _ (And.intro hM.1 (Exists.intro 0 (Exists.intro 0 (And.intro (Nat.le_refl _) (And.intro (Nat.le_refl _) (m_isKnown hX hM hL ?_))))))
  cases c2 : knB L n with
  | false =>
    refine And.intro (fun cz => by first | exact absurd cz (by decide) | exact absurd (by decide) cz) (fun _ => ?_)
    rw [if_neg (by rw [c2]; decide)] at hP
    exact And.intro rfl ((hP h fs (MCo.rf hM hS)))
  | true =>
    refine And.intro (fun _ => ?_) (fun cz => by first | exact absurd cz (by decide) | exact absurd (by decide) cz)
    obtain ⟨m, hm, em, ec⟩ := knB_c hwl.1 c2
    rw [if_pos c2, ec] at hP
    rw [em]
    refine Exists.intro _ (And.intro hM.1 (Exists.intro 0 (Exists.intro 0 (And.intro (Nat.le_refl _) (And.intro (Nat.le_refl _) (m_counts hX hM hS f19 hD hw hL hwl hm (fun h1 fs1 y => ?_)))))))
    refine Exists.intro _ (And.intro y.1.1.1 (Exists.intro _ (And.intro y.2.1 ?_)))
    exact And.intro rfl ((hP h1 fs1 y.1))
set_option maxHeartbeats 8000000 in
theorem m_next {l : Launch} {G : GG} {h : AH} {nx : Nat} {Post : Option Value → AH → Nat → Prop} {o d : Nat} {n : Int32} {D : DD} {L : List LE} {fs : List Value} (hX : XC G ∧ TX l G) (hM : MA h o fs) (hS : SHm h o) (f19 : fs[19]? = some (.int (nI d))) (hD : MPg h o d D) (hw : WD D) (hL : MLg h o fs L) (hwl : WLg L) (hP : ∀ (h1 : AH) (fs1 : List Value), MCo h o fs h1 fs1 → Post (some (.int (aNext D L n))) h1 nx) : Runs l G i_X12_next 0 0 [.ref o, .int n] h nx Post := by
  have hd := hD.2.2.2.2.2.2.2
  unfold aNext at hP
  refine en_X12_next hX [41] 60 rfl ?_
  refine Exists.intro _ (And.intro hM.1 (Exists.intro _ (And.intro f19 ?_)))
  refine And.intro (fun cz => absurd cz ((nI_n2 (show d < 64 by omega)).2.2)) (fun _ => ?_)
  refine Exists.intro _ (And.intro hM.1 (Exists.intro 0 (Exists.intro 0 (And.intro (Nat.le_refl _) (And.intro (Nat.le_refl _) (m_isKnown hX hM hL ?_))))))
  cases c2 : knB L n with
  | false =>
    refine And.intro (fun cz => by first | exact absurd cz (by decide) | exact absurd (by decide) cz) (fun _ => ?_)
    rw [if_neg (by rw [c2]; decide)] at hP
    exact And.intro rfl ((hP h fs (MCo.rf hM hS)))
  | true =>
    refine And.intro (fun _ => ?_) (fun cz => by first | exact absurd cz (by decide) | exact absurd (by decide) cz)
    obtain ⟨mm, hm, em, ec⟩ := knB_c hwl.1 c2
    rw [if_pos c2, ec] at hP
    have hfl := fits_len (L := L) (n := mm) hw
    rw [em]
    refine Exists.intro _ (And.intro hM.1 (Exists.intro 0 (Exists.intro 0 (And.intro (Nat.le_refl _) (And.intro (Nat.le_refl _) (m_counts hX hM hS f19 hD hw hL hwl hm (fun h1 fs1 y => ?_)))))))
    obtain ⟨R, f96, g, e62, hg⟩ := y
    have hP := hP h1 fs1 R
    unfold aBest at hP
    have hD1 := R.pg hD
    have f19b := R.f rfl (by decide) f19
    refine Exists.intro _ (And.intro R.1.1 (Exists.intro _ (And.intro f96 ?_)))
    by_cases cs : (fits D L mm).length < 2
    · rw [if_pos cs] at hP
      refine And.intro (fun cz => absurd cz (nI_ge (a := (fits D L mm).length) (b := 2) cs (by decide))) (fun _ => ?_)
      exact And.intro rfl (hP)
    · rw [if_neg cs] at hP
      refine And.intro (fun _ => ?_) (fun cz => absurd (nI_le (a := 2) (b := (fits D L mm).length) (by omega) (by omega)) cz)
      have hT : ∀ row oo, tlC D row oo (fits D L mm) ≤ 133 := fun row oo => by have := tlC_le (D := D) (row := row) (o := oo) (fits D L mm); omega
      have hMb : ∀ row k, mxG (fun oo => tlC D row oo (fits D L mm)) k ≤ 133 := fun row k => mxG_le (fun oo _ => hT row oo)
      have inner : ∀ (row : Nat) (bst few : Int32), row < 31 → Go l G 12 s_X12_next 0 0 Post 112 [(5, .int (nI (mxG (fun oo => tlC D row oo (fits D L mm)) 33))), (4, .int (nI row)), (3, .int few), (2, .int bst), (0, .ref o), (1, .int (nI mm))] [] h1 nx 0 0 → ∀ (m i : Nat), i + m = 33 → Go l G 12 s_X12_next 0 0 Post 66 [(6, .int (nI i)), (5, .int (nI (mxG (fun oo => tlC D row oo (fits D L mm)) i))), (4, .int (nI row)), (3, .int few), (2, .int bst), (0, .ref o), (1, .int (nI mm))] [] h1 nx 0 0 := by
        intro row bst few hr hQ m
        induction m with
        | zero =>
          intro i hi
          have e : i = 33 := by omega
          subst e
          refine Go.of hX.2 ck_X12_next [112] 20 ?_
          refine And.intro (fun _ => ?_) (fun cz => by first | exact absurd cz (by decide) | exact absurd (by decide) cz)
          exact go_loc (lv' := [(5, .int (nI (mxG (fun oo => tlC D row oo (fits D L mm)) 33))), (4, .int (nI row)), (3, .int few), (2, .int bst), (0, .ref o), (1, .int (nI mm))]) ⟨rfl, rfl, rfl, rfl, rfl, rfl, trivial⟩ (hQ)
        | succ m ih =>
          intro i hi
          have e33 : (33 : Int32) * nI row + nI i = nI (33 * row + i) := by rw [show (33 : Int32) = nI 33 from rfl, nI_mul, nI_add]
          have hgi : g (33 * row + i) = nI (tlC D row i (fits D L mm)) := hg row i hr (by omega)
          have t1 := hT row i
          have t2 := hMb row i
          refine Go.of hX.2 ck_X12_next [66] 60 ?_
          refine And.intro (fun cz => absurd cz (nI_ge (a := i) (b := 33) (by omega) (by decide))) (fun _ => ?_)
          refine Exists.intro _ (And.intro R.1.1 (Exists.intro _ (And.intro (R.1.2.2 62 (by decide)) ?_)))
          refine Exists.intro _ (Exists.intro _ (And.intro e62 (And.intro (by rw [e33]; exact vp_in_nI (by omega) (by decide)) ?_)))
          have e9 : mxG (fun oo => tlC D row oo (fits D L mm)) (i + 1) = max (mxG (fun oo => tlC D row oo (fits D L mm)) i) (tlC D row i (fits D L mm)) := rfl
          have ev : g ((33 : Int32) * nI row + nI i).toNatClampNeg = nI (tlC D row i (fits D L mm)) := by rw [e33, nI_clamp (by omega)]; exact hgi
          have ih2 := ih (i + 1) (by omega)
          rw [e9, nI_succ] at ih2
          by_cases cm : tlC D row i (fits D L mm) ≤ mxG (fun oo => tlC D row oo (fits D L mm)) i
          · rw [Nat.max_eq_left cm] at ih2
            refine And.intro (fun _ => ?_) (fun cz => absurd (show g ((33 : Int32) * nI row + nI i).toNatClampNeg ≤ nI (mxG (fun oo => tlC D row oo (fits D L mm)) i) from by rw [ev]; exact nI_le cm (by omega)) cz)
            exact go_loc (lv' := [(6, .int (nI i + 1)), (5, .int (nI (mxG (fun oo => tlC D row oo (fits D L mm)) i))), (4, .int (nI row)), (3, .int few), (2, .int bst), (0, .ref o), (1, .int (nI mm))]) ⟨rfl, rfl, rfl, rfl, rfl, rfl, rfl, trivial⟩ (ih2)
          · rw [Nat.max_eq_right (by omega)] at ih2
            refine And.intro (fun cz => absurd cz (show ¬ g ((33 : Int32) * nI row + nI i).toNatClampNeg ≤ nI (mxG (fun oo => tlC D row oo (fits D L mm)) i) from by rw [ev]; exact nI_ge (by omega) (by omega))) (fun _ => ?_)
            refine Exists.intro _ (And.intro R.1.1 (Exists.intro _ (And.intro (R.1.2.2 62 (by decide)) ?_)))
            refine Exists.intro _ (Exists.intro _ (And.intro e62 (And.intro (by rw [e33]; exact vp_in_nI (by omega) (by decide)) ?_)))
            rw [ev]
            exact go_loc (lv' := [(6, .int (nI i + 1)), (5, .int (nI (tlC D row i (fits D L mm)))), (4, .int (nI row)), (3, .int few), (2, .int bst), (0, .ref o), (1, .int (nI mm))]) ⟨rfl, rfl, rfl, rfl, rfl, rfl, rfl, trivial⟩ (ih2)
      have loop : ∀ (m r : Nat), r + m = 30 → Go l G 12 s_X12_next 0 0 Post 41 [(4, .int (nI (r + 1))), (3, .int (nI (mxG (fun oo => tlC D (bsF (rowB D) (fun row => mxG (fun oo => tlC D row oo (fits D L mm)) 33) r) oo (fits D L mm)) 33))), (2, .int (nI (bsF (rowB D) (fun row => mxG (fun oo => tlC D row oo (fits D L mm)) 33) r))), (0, .ref o), (1, .int (nI mm))] [] h1 nx 0 0 := by
        intro m
        induction m with
        | zero =>
          intro r hr
          have e : r = 30 := by omega
          subst e
          obtain ⟨b1, b2⟩ := bsF_le (ok := rowB D) (M := fun row => mxG (fun oo => tlC D row oo (fits D L mm)) 33) 30
          have hP2 : Post (some (.int (nI (25 * rcN (bsF (rowB D) (fun row => mxG (fun oo => tlC D row oo (fits D L mm)) 33) 30) + raN (bsF (rowB D) (fun row => mxG (fun oo => tlC D row oo (fits D L mm)) 33) 30))))) h1 nx := hP
          generalize hb : bsF (rowB D) (fun row => mxG (fun oo => tlC D row oo (fits D L mm)) 33) 30 = b at b1 hP2 ⊢
          have hb31 : b < 31 := by omega
          have fin : ∀ k : Int32, k = nI (rcN b) → Post (some (.int (25 * k + nI (raN b)))) h1 nx := fun k hk => by
            rw [hk, show (25 : Int32) = nI 25 from rfl, nI_mul, nI_add]
            exact hP2
          refine Go.of hX.2 ck_X12_next [41] 60 ?_
          refine And.intro (fun _ => ?_) (fun cz => by first | exact absurd cz (by decide) | exact absurd (by decide) cz)
          unfold rcN at fin
          by_cases c0 : b = 0
          · rw [if_pos c0] at fin
            refine And.intro (fun cz => absurd (show nI b = 0 from by rw [c0]; rfl) cz) (fun _ => ?_)
            refine Exists.intro 0 (Exists.intro 0 (And.intro (Nat.le_refl _) (And.intro (Nat.le_refl _) (m_rowActs hX hb31 ?_))))
            exact And.intro rfl ((fin _ rfl))
          · rw [if_neg c0] at fin
            refine And.intro (fun _ => ?_) (fun cz => absurd cz (nI_ne0 (by omega) (by omega)))
            by_cases c1 : b ≤ 5
            · rw [if_pos c1] at fin
              refine And.intro (fun cz => absurd cz (nI_ge (a := b) (b := 6) (by omega) (by decide))) (fun _ => ?_)
              refine Exists.intro 0 (Exists.intro 0 (And.intro (Nat.le_refl _) (And.intro (Nat.le_refl _) (m_rowActs hX hb31 ?_))))
              exact And.intro rfl ((fin _ rfl))
            · rw [if_neg c1] at fin
              refine And.intro (fun _ => ?_) (fun cz => absurd (nI_le (a := 6) (b := b) (by omega) (by omega)) cz)
              refine Exists.intro 0 (Exists.intro 0 (And.intro (Nat.le_refl _) (And.intro (Nat.le_refl _) (m_rowActs hX hb31 ?_))))
              exact And.intro rfl ((fin _ rfl))
        | succ m ih =>
          intro r hr
          obtain ⟨b1, b2⟩ := bsF_le (ok := rowB D) (M := fun row => mxG (fun oo => tlC D row oo (fits D L mm)) 33) r
          have ih2 := ih (r + 1) (by omega)
          have e9 : bsF (rowB D) (fun row => mxG (fun oo => tlC D row oo (fits D L mm)) 33) (r + 1) = if rowB D (r + 1) = true ∧ mxG (fun oo => tlC D (r + 1) oo (fits D L mm)) 33 < mxG (fun oo => tlC D (bsF (rowB D) (fun row => mxG (fun oo => tlC D row oo (fits D L mm)) 33) r) oo (fits D L mm)) 33 then r + 1 else bsF (rowB D) (fun row => mxG (fun oo => tlC D row oo (fits D L mm)) 33) r := rfl
          rw [e9, nI_succ] at ih2
          have m1 := hMb (r + 1) 33
          have m2 := hMb (bsF (rowB D) (fun row => mxG (fun oo => tlC D row oo (fits D L mm)) 33) r) 33
          generalize hb : bsF (rowB D) (fun row => mxG (fun oo => tlC D row oo (fits D L mm)) 33) r = b at b1 ih2 m2 ⊢
          refine Go.of hX.2 ck_X12_next [41, 66] 60 ?_
          refine And.intro (fun cz => absurd cz (nI_ge (a := r + 1) (b := 31) (by omega) (by decide))) (fun _ => ?_)
          refine Exists.intro _ (And.intro R.1.1 (Exists.intro 0 (Exists.intro 0 (And.intro (Nat.le_refl _) (And.intro (Nat.le_refl _) (m_isRow hX R.1 f19b hD1 hw (by omega) ?_))))))
          cases cb : rowB D (r + 1) with
          | false =>
            rw [if_neg (fun z => by rw [cb] at z; exact absurd z.1 (by decide))] at ih2
            refine And.intro (fun cz => by first | exact absurd cz (by decide) | exact absurd (by decide) cz) (fun _ => ?_)
            exact go_loc (lv' := [(4, .int (nI (r + 1) + 1)), (3, .int (nI (mxG (fun oo => tlC D b oo (fits D L mm)) 33))), (2, .int (nI b)), (0, .ref o), (1, .int (nI mm))]) ⟨rfl, rfl, rfl, rfl, rfl, trivial⟩ (ih2)
          | true =>
            refine And.intro (fun _ => ?_) (fun cz => by first | exact absurd cz (by decide) | exact absurd (by decide) cz)
            refine go_loc (lv' := [(6, .int (nI 0)), (5, .int (nI (mxG (fun oo => tlC D (r + 1) oo (fits D L mm)) 0))), (4, .int (nI (r + 1))), (3, .int (nI (mxG (fun oo => tlC D b oo (fits D L mm)) 33))), (2, .int (nI b)), (0, .ref o), (1, .int (nI mm))]) ⟨rfl, rfl, rfl, rfl, rfl, rfl, rfl, trivial⟩ ?_
            refine inner (r + 1) _ _ (by omega) ?_ 33 0 (Nat.zero_add _)
            refine Go.of hX.2 ck_X12_next [41] 60 ?_
            refine And.intro (fun cz => absurd cz (fun z => absurd (show nI b < 0 from z ▸ (by decide)) (nI_pos (by omega)))) (fun _ => ?_)
            by_cases cl : mxG (fun oo => tlC D (r + 1) oo (fits D L mm)) 33 < mxG (fun oo => tlC D b oo (fits D L mm)) 33
            · rw [if_pos ⟨cb, cl⟩] at ih2
              refine And.intro (fun _ => ?_) (fun cz => absurd (nI_lt cl (by omega)) cz)
              exact go_loc (lv' := [(4, .int (nI (r + 1) + 1)), (3, .int (nI (mxG (fun oo => tlC D (r + 1) oo (fits D L mm)) 33))), (2, .int (nI (r + 1))), (0, .ref o), (1, .int (nI mm))]) ⟨rfl, rfl, rfl, rfl, rfl, trivial⟩ (ih2)
            · rw [if_neg (fun z => cl z.2)] at ih2
              refine And.intro (fun cz => absurd cz (nI_nlt (by omega) (by omega))) (fun _ => ?_)
              exact go_loc (lv' := [(4, .int (nI (r + 1) + 1)), (3, .int (nI (mxG (fun oo => tlC D b oo (fits D L mm)) 33))), (2, .int (nI b)), (0, .ref o), (1, .int (nI mm))]) ⟨rfl, rfl, rfl, rfl, rfl, trivial⟩ (ih2)
      have start : Go l G 12 s_X12_next 0 0 Post 41 [(4, .int (nI 0)), (3, .int 0), (2, .int (-1)), (0, .ref o), (1, .int (nI mm))] [] h1 nx 0 0 := by
        refine Go.of hX.2 ck_X12_next [66] 60 ?_
        refine And.intro (fun cz => by first | exact absurd cz (by decide) | exact absurd (by decide) cz) (fun _ => ?_)
        refine Exists.intro _ (And.intro R.1.1 (Exists.intro 0 (Exists.intro 0 (And.intro (Nat.le_refl _) (And.intro (Nat.le_refl _) (m_isRow (row := 0) hX R.1 f19b hD1 hw (by decide) ?_))))))
        rw [show rowB D 0 = true from rfl]
        refine And.intro (fun _ => ?_) (fun cz => by first | exact absurd cz (by decide) | exact absurd (by decide) cz)
        refine go_loc (lv' := [(6, .int (nI 0)), (5, .int (nI (mxG (fun oo => tlC D 0 oo (fits D L mm)) 0))), (4, .int (nI 0)), (3, .int 0), (2, .int (-1)), (0, .ref o), (1, .int (nI mm))]) ⟨rfl, rfl, rfl, rfl, rfl, rfl, rfl, trivial⟩ ?_
        refine inner 0 _ _ (by decide) ?_ 33 0 (Nat.zero_add _)
        refine Go.of hX.2 ck_X12_next [41] 60 ?_
        refine And.intro (fun _ => ?_) (fun cz => by first | exact absurd cz (by decide) | exact absurd (by decide) cz)
        exact go_loc (lv' := [(4, .int (nI (0 + 1))), (3, .int (nI (mxG (fun oo => tlC D 0 oo (fits D L mm)) 33))), (2, .int (nI 0)), (0, .ref o), (1, .int (nI mm))]) ⟨rfl, rfl, rfl, rfl, rfl, trivial⟩ (loop 30 0 (Nat.zero_add _))
      exact go_loc (lv' := [(4, .int (nI 0)), (3, .int 0), (2, .int (-1)), (0, .ref o), (1, .int (nI mm))]) ⟨rfl, rfl, rfl, rfl, rfl, trivial⟩ (start)
