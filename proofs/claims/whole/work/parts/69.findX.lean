/-! which flaws are bad: x's findings -/
noncomputable def bdB (D : DD) (f g : Option Nat) : Bool := decide (kWa (kOne D f g) ≠ -1)
noncomputable def bd1 (D : DD) (n : Nat) : Bool := bdB D (some n) none
noncomputable def pbB (D : DD) (m n : Nat) : Bool := decide (n ≠ m) && (!bd1 D m && (!bd1 D n && bdB D (some m) (some n)))
theorem kWa_sw (D : DD) (f g : Option Nat) : kWa (kOne D f g) = kWa (kOne D g f) := by
  have e1 : wl2 f g = wl2 g f := by funext k; unfold wl2; rw [Bool.or_comm]
  have e2 : br2 f g = br2 g f := by funext k; unfold br2; rw [Bool.or_comm]
  have e3 : cr2 f g = cr2 g f := by funext k; unfold cr2; rw [Bool.or_comm]
  have a1 : kSh (kOne D f g) = kSh (kOne D g f) := by
    funext on up
    show shM _ _ _ _ _ _ _ _ _ (wl2 f g) (br2 f g) (cr2 f g) _ _ on up = shM _ _ _ _ _ _ _ _ _ (wl2 g f) (br2 g f) (cr2 g f) _ _ on up
    rw [e1, e2, e3]
    rfl
  have a2 : kSt (kOne D f g) = kSt (kOne D g f) := Nat.or_comm _ _
  have a3 : kSu (kOne D f g) = kSu (kOne D g f) := Nat.or_comm _ _
  have a4 : kNx (kOne D f g) = kNx (kOne D g f) := by
    funext on v
    show mvF (dR D) (dsl D) (kSh (kOne D f g) on v) (kSt (kOne D f g)) v = mvF (dR D) (dsl D) (kSh (kOne D g f) on v) (kSt (kOne D g f)) v
    rw [a1, a2]
  have a5 : kSe (kOne D f g) = kSe (kOne D g f) := by
    funext on v
    show stF (kNx (kOne D f g) on) (dR D) v = stF (kNx (kOne D g f) on) (dR D) v
    rw [a4]
  have a6 : kNb (kOne D f g) = kNb (kOne D g f) := by
    show nbF (dR D) (kNx (kOne D f g)) = nbF (dR D) (kNx (kOne D g f))
    rw [a4]
  have a7 : kFn (kOne D f g) = kFn (kOne D g f) := by
    unfold kFn
    rw [a3, a5, a6]
    rfl
  have a8 : kW (kOne D f g) = kW (kOne D g f) := by
    funext x
    show wrB (kSh (kOne D f g)) (dgr D) (dL D) (dV D) (dlp D) (dNV D) x = wrB (kSh (kOne D g f)) (dgr D) (dL D) (dV D) (dlp D) (dNV D) x
    rw [a1]
  unfold kWa
  rw [a7, a8]
theorem pbB_sw (D : DD) (m n : Nat) : pbB D m n = pbB D n m := by
  unfold pbB bdB
  rw [kWa_sw D (some m) (some n)]
  by_cases e : m = n
  · rw [e]
  · rw [decide_eq_true (show n ≠ m from fun z => e z.symm), decide_eq_true (show m ≠ n from e)]
    cases bd1 D m <;> cases bd1 D n <;> rfl
theorem SVok.wa {q : HKy} {S : BS} {wa cm A : Int32} {go : Nat → Int32} (k : SVok q S wa cm go) (z : cm = 1 ∨ (A ≠ 0 ∧ 0 ≤ wa) ∨ ((0 : Int32) ≠ 0 ∧ 0 < nI S.2.2.2)) : wa = kWa q := by
  rcases k.2.2.2.2.1 with ⟨_, _, _, x3⟩ | ⟨x1, x2⟩
  · exact x3
  · rcases x2 with x2 | ⟨x2, _⟩
    · exact x2.2
    · rcases z with z | z | z
      · rw [x1] at z; exact absurd z (by decide)
      · rw [x2] at z; exact absurd z.2 (by decide)
      · exact absurd rfl z.1
theorem SVok.neg {q : HKy} {S : BS} {wa cm : Int32} {go : Nat → Int32} (k : SVok q S wa cm go) : wa < 0 ↔ wa = -1 := by
  rcases k.2.2.2.2.2 with e | ⟨j, h1, h2⟩
  · rw [e]; decide
  · have h3 : j < 2 ^ 31 := by have := k.1; have := k.2.1; omega
    rw [h2]
    exact ⟨fun z => absurd z (nI_pos h3), fun z => absurd (show nI j < 0 from z ▸ (by decide)) (nI_pos h3)⟩
/-- the object of the findings, and its rows -/
def FO (h : AH) (d : Nat) (sc : Int32) : Prop := h (d + 20) = some (.inr (1, [.ref (d + 21), .ref (d + 22), .ref (d + 23), .ref (d + 24), .ref (d + 25), .ref (d + 26), .int sc]))
noncomputable def FA (h : AH) (d : Nat) (D : DD) : Prop := ∃ g : Nat → Int32, h (d + 21) = some (.inl (2, 132, .inl g)) ∧ ∀ i, i < (flL D).length → g i = 0 ∨ g i = nI (if bd1 D ((flL D).getD i 0) then 2 else 1)
noncomputable def FP (h : AH) (d : Nat) (D : DD) : Prop := ∃ (g : Nat → Int32) (p : Nat → Int64), h (d + 22) = some (.inl (2, 132, .inl g)) ∧ h (d + 23) = some (.inl (1, 396, .inr (.inl p))) ∧ ∀ i, i < (flL D).length → (g i = 0 ∧ ∀ j, j < 192 → bl (p (3 * i + j / 64)) (j % 64) = false) ∨ (g i = 1 ∧ ∀ j, j < 192 → bl (p (3 * i + j / 64)) (j % 64) = (decide (j < (flL D).length) && pbB D ((flL D).getD i 0) ((flL D).getD j 0)))
theorem FO.ag {h h' : AH} {d : Nat} {sc : Int32} (hF : FO h d sc) (hs : h' (d + 20) = h (d + 20)) : FO h' d sc := hs.trans hF
theorem FA.ag {h h' : AH} {d : Nat} {D : DD} (hF : FA h d D) (hs : h' (d + 21) = h (d + 21)) : FA h' d D := by
  obtain ⟨g, a, b⟩ := hF
  exact ⟨g, hs.trans a, b⟩
theorem FP.ag {h h' : AH} {d : Nat} {D : DD} (hF : FP h d D) (hs : ∀ x, d + 22 ≤ x → x < d + 24 → h' x = h x) : FP h' d D := by
  obtain ⟨g, p, a, b, c⟩ := hF
  exact ⟨g, p, (hs _ (by omega) (by omega)).trans a, (hs _ (by omega) (by omega)).trans b, c⟩
/-- what is changed lies in the middle, or in one drawing's findings -/
theorem XA.fn {h h' : AH} {o w tl c t : Nat} {fp ah : Int32} {da : Nat → Nat} {dd : Nat → DD} (hA : XA h o w tl fp c ah da dd) (ht : t < c) (hs : ∀ x, (x < w + 31 ∨ w + 137 ≤ x) → (x < da t + 20 ∨ da t + 27 ≤ x) → h' x = h x) : XA h' o w tl fp c ah da dd := by
  have h8 := hA.2.2.2.2.2.2
  have h6 := hA.2.2.2.2.1
  have h7 := hA.2.2.2.2.2.1
  have h9 := (h6 t ht).2.2
  refine hA.ag (fun x hx => ?_)
  rcases hx with z | z | z | ⟨i, hi, z⟩
  · exact hs x (by omega) (by omega)
  · exact hs x (by omega) (by omega)
  · exact hs x (by omega) (by omega)
  · have h10 := (h6 i hi).2.2
    by_cases e : i = t
    · subst e
      exact hs x (by omega) (by omega)
    · rcases Nat.lt_or_gt_of_ne e with z2 | z2
      · have := h7 i t z2 ht
        exact hs x (by omega) (by omega)
      · have := h7 t i z2 hi
        exact hs x (by omega) (by omega)
theorem take_succ_count {P : Nat → Bool} {L : List Nat} {i : Nat} (hi : i < L.length) : (L.take (i + 1)).countP P = (L.take i).countP P + (if P (L.getD i 0) = true then 1 else 0) := by
  rw [List.take_succ_eq_append_getElem hi, List.countP_append, gD hi, List.countP_singleton]
set_option maxHeartbeats 8000000 in
theorem x_countBad {l : Launch} {G : GG} {h : AH} {nx : Nat} {Post : Option Value → AH → Nat → Prop} {o w tl c t vb : Nat} {fp ah sc : Int32} {da : Nat → Nat} {dd : Nat → DD} (hX : XC G ∧ TX l G) (hA : XA h o w tl fp c ah da dd) (hH : XH h w c da dd vb) (ht : t < c) (hv : vb + 200 < 2 ^ 31) (hO : FO h (da t) sc) (hF : FA h (da t) (dd t)) (hP : ∀ h1 : AH, (∀ x, (x < w + 43 ∨ w + 52 ≤ x) → x ≠ da t + 21 → h1 x = h x) → XH h1 w c da dd (vb + 132) → (∃ g : Nat → Int32, h1 (da t + 21) = some (.inl (2, 132, .inl g)) ∧ ∀ i, i < (flL (dd t)).length → g i = nI (if bd1 (dd t) ((flL (dd t)).getD i 0) then 2 else 1)) → Post (some (.int (nI ((flL (dd t)).countP (bd1 (dd t)))))) h1 nx) : Runs l G i_X7_countBad 0 0 [.ref (w + 48), .ref (da t)] h nx Post := by
  have hdt : isDr w c da dd (da t) (dd t) := Or.inr ⟨t, ht, rfl, rfl⟩
  have hlo : w + 137 ≤ da t := (hA.2.2.2.2.1 t ht).2.2
  have hw := (hdt.xd hA).2.1
  have hl := flL_len hw
  have fin : ∀ (h1 : AH), (∀ x, (x < w + 43 ∨ w + 52 ≤ x) → x ≠ da t + 21 → h1 x = h x) → XA h1 o w tl fp c ah da dd := fun h1 hs => hA.fn ht (fun x z1 z2 => hs x (by omega) (by omega))
  have loop : ∀ (k i b : Nat) (h1 : AH) (g : Nat → Int32), i + k = (flL (dd t)).length → (∀ x, (x < w + 43 ∨ w + 52 ≤ x) → x ≠ da t + 21 → h1 x = h x) → XH h1 w c da dd (vb + i) → h1 (da t + 21) = some (.inl (2, 132, .inl g)) → (∀ j, j < (flL (dd t)).length → (g j = 0 ∧ i ≤ j) ∨ g j = nI (if bd1 (dd t) ((flL (dd t)).getD j 0) then 2 else 1)) → b = ((flL (dd t)).take i).countP (bd1 (dd t)) → Go l G 7 s_X7_countBad 0 0 Post 13 [(4, .int (nI i)), (3, .int (nI b)), (2, .ref (da t + 21)), (0, .ref (w + 48)), (1, .ref (da t))] [] h1 nx 0 0 := by
    intro k
    induction k with
    | zero =>
      intro i b h1 g hi hs hH1 hg hgv hb
      have hA1 := fin h1 hs
      obtain ⟨hD, _, _⟩ := hdt.xd hA1
      obtain ⟨cc, g2, g3, g4, g5, g10, g13, g14, g16, g17, g18, g19, g27, g28, g1, g11, g12, d0, _⟩ := id hD
      refine Go.of hX.2 ck_X7_countBad [13] 30 ?_
      refine Exists.intro _ (And.intro d0 (Exists.intro _ (And.intro rfl ?_)))
      refine And.intro (fun _ => ?_) (fun cz => absurd (nI_le (a := (flL (dd t)).length) (b := i) (by omega) (by omega)) cz)
      rw [List.take_of_length_le (by omega)] at hb
      rw [hb]
      exact And.intro rfl (hP h1 hs (hH1.le (by omega)) ⟨g, hg, fun j hj => (hgv j hj).resolve_left (fun z => by omega)⟩)
    | succ k ih =>
      intro i b h1 g hi hs hH1 hg hgv hb
      have hA1 := fin h1 hs
      obtain ⟨hD, _, _⟩ := hdt.xd hA1
      obtain ⟨cc, g2, g3, g4, g5, g10, g13, g14, g16, g17, g18, g19, g27, g28, g1, g11, g12, d0, _⟩ := id hD
      have hin : i < (flL (dd t)).length := by omega
      refine Go.of hX.2 ck_X7_countBad [13] 90 ?_
      refine Exists.intro _ (And.intro d0 (Exists.intro _ (And.intro rfl ?_)))
      refine And.intro (fun cz => absurd cz (nI_ge (a := i) (b := (flL (dd t)).length) hin (by omega))) (fun _ => ?_)
      refine Exists.intro _ (Exists.intro _ (And.intro hg (And.intro (by decide) ?_)))
      refine And.intro (fun cz => absurd cz (nI_ge (a := i) (b := 132) (by omega) (by decide))) (fun _ => ?_)
      refine Exists.intro 2 (Exists.intro _ (Exists.intro _ (And.intro hg (And.intro (Or.inl rfl) (And.intro (vp_in_nI (by omega) (by decide)) ?_)))))
      rw [nI_clamp (show i < 2 ^ 31 by omega)]
      have back : ∀ (h2 : AH) (g2 : Nat → Int32), (∀ x, (x < w + 43 ∨ w + 52 ≤ x) → x ≠ da t + 21 → h2 x = h x) → XH h2 w c da dd (vb + (i + 1)) → h2 (da t + 21) = some (.inl (2, 132, .inl g2)) → (∀ j, j < (flL (dd t)).length → (g2 j = 0 ∧ i + 1 ≤ j) ∨ g2 j = nI (if bd1 (dd t) ((flL (dd t)).getD j 0) then 2 else 1)) → Go l G 7 s_X7_countBad 0 0 Post 13 [(4, .int (nI i + 1)), (3, .int (nI b + (if bd1 (dd t) ((flL (dd t)).getD i 0) then 1 else 0))), (2, .ref (da t + 21)), (0, .ref (w + 48)), (1, .ref (da t))] [] h2 nx 0 0 := by
        intro h2 g2 s2 H2 e2 v2
        rw [← nI_succ, show nI b + (if bd1 (dd t) ((flL (dd t)).getD i 0) then 1 else 0) = nI (b + (if bd1 (dd t) ((flL (dd t)).getD i 0) = true then 1 else 0)) from by split <;> first | exact (nI_succ b).symm | exact Int32.add_zero _]
        exact ih (i + 1) _ h2 g2 (by omega) s2 H2 e2 v2 (by rw [take_succ_count hin, hb])
      rcases hgv i hin with ⟨g0, _⟩ | gk
      · rw [g0]
        refine And.intro (fun cz => by first | exact absurd cz (by decide) | exact absurd (by decide) cz) (fun _ => ?_)
        obtain ⟨_, _, _, _, _, _, _, _, ⟨_, _, _, _, _, ⟨_, _, _, s0, _, sf0, _⟩, _⟩, _⟩ := id hH1
        refine Exists.intro _ (And.intro s0 (Exists.intro _ (And.intro sf0 ?_)))
        obtain ⟨q, a, b2, ver, x1, _⟩ := id hH1
        obtain ⟨fs, gm, gw, gl, ge, u0, _⟩ := x1
        refine Exists.intro _ (And.intro d0 (Exists.intro 0 (Exists.intro 0 (And.intro (Nat.le_refl _) (And.intro (Nat.le_refl _) (x_flawAt hX hD hw ?_))))))
        rw [show aFlaw (dd t) (nI i) = flI (some ((flL (dd t)).getD i 0)) from by unfold aFlaw; rw [if_pos ⟨nI_pos' (by omega), nI_lt hin (by omega)⟩, nI_clamp (by omega)]; rfl]
        refine Exists.intro _ (And.intro u0 (Exists.intro 0 (Exists.intro 0 (And.intro (Nat.le_refl _) (And.intro (Nat.le_refl _) (x_prepDr (g := none) hX hA1 hH1 ht (flL_ok hw hin) okW_no (by omega) (fun h2 ver2 y1 y2 y3 y4 => ?_)))))))
        have hA2 : XA h2 o w tl fp c ah da dd := hA1.mid (fun x hx => y1 x (by omega))
        obtain ⟨hD2, _, _⟩ := hdt.xd hA2
        have hq2 : WK (kOne (dd t) (some ((flL (dd t)).getD i 0)) none) := WK_one hw (flL_ok hw hin) okW_no
        obtain ⟨_, _, _, _, _, ⟨_, _, _, s02, _⟩, _⟩ := id y3
        refine Exists.intro _ (And.intro s02 (Exists.intro 0 (Exists.intro 0 (And.intro (Nat.le_refl _) (And.intro (Nat.le_refl _) (x_explore (A := 1) (B := 0) hX y2 hq2 hD2 hD2 (by unfold awy; omega) (by unfold awy; omega) y3 rfl (by omega) (by omega) (fun h3 S wa cm go z1 z2 z3 z4 z5 => ?_)))))))
        have hwa := z4.wa z5
        have hng := z4.neg
        have g3e : h3 (da t + 21) = some (.inl (2, 132, .inl g)) := (z1 _ (by omega)).trans ((y1 _ (by omega)).trans hg)
        have hXH3 : XH h3 w c da dd (vb + (i + 1)) := z2.xh hq2 hdt hdt (z3.sx z4) (by omega)
        have hs3 : ∀ x, (x < w + 43 ∨ w + 52 ≤ x) → x ≠ da t + 21 → h3 x = h x := fun x a1 a2 => (z1 x (by omega)).trans ((y1 x (by omega)).trans (hs x a1 a2))
        obtain ⟨fs7, gq7, gs7, c0, cl, cf0, cf1, cf2, cf3, cf4, cf5, cf6, _⟩ := id z3
        refine Exists.intro _ (And.intro c0 (Exists.intro _ (And.intro cf6 ?_)))
        have hbd : bd1 (dd t) ((flL (dd t)).getD i 0) = decide (wa ≠ -1) := by rw [hwa]; rfl
        have stor : ∀ v : Int32, vp_nar (TY 2) v = v → v = nI (if bd1 (dd t) ((flL (dd t)).getD i 0) then 2 else 1) → ∀ j, j < (flL (dd t)).length → (upd g i (vp_nar (TY 2) v) j = 0 ∧ i + 1 ≤ j) ∨ upd g i (vp_nar (TY 2) v) j = nI (if bd1 (dd t) ((flL (dd t)).getD j 0) then 2 else 1) := by
          intro v hn hv2 j hj
          by_cases e : j = i
          · right
            rw [e, pk_us, hn, hv2]
          · rw [pk_un e]
            rcases hgv j hj with ⟨k1, k2⟩ | k1
            · exact Or.inl ⟨k1, by omega⟩
            · exact Or.inr k1
        by_cases c1 : wa < 0
        · refine And.intro (fun _ => ?_) (fun cz => absurd (c1) cz)
          have hb0 : bd1 (dd t) ((flL (dd t)).getD i 0) = false := by rw [hbd]; exact decide_eq_false (fun z => z (hng.mp c1))
          rw [hb0] at back stor
          refine Exists.intro 2 (Exists.intro _ (Exists.intro _ (And.intro g3e (And.intro (Or.inl rfl) (And.intro (vp_in_nI (by omega) (by decide)) ?_)))))
          rw [nI_clamp (show i < 2 ^ 31 by omega)]
          refine Exists.intro 2 (Exists.intro _ (Exists.intro _ (And.intro uph_eq (And.intro (Or.inl rfl) (And.intro (vp_in_nI (by omega) (by decide)) ?_)))))
          rw [nI_clamp (show i < 2 ^ 31 by omega), pk_us]
          refine And.intro (fun _ => ?_) (fun cz => by first | exact absurd cz (by decide) | exact absurd (by decide) cz)
          refine go_loc (lv' := [(4, .int (nI i + 1)), (3, .int (nI b + 0)), (2, .ref (da t + 21)), (0, .ref (w + 48)), (1, .ref (da t))]) ⟨rfl, rfl, rfl, rfl, rfl, trivial⟩ ?_
          exact back _ _ (fun x a1 a2 => by rw [uph_ne a2]; exact hs3 x a1 a2) (hXH3.ag (fun x _ _ => uph_ne (by omega))) uph_eq (stor _ rfl rfl)
        · refine And.intro (fun cz => absurd cz (c1)) (fun _ => ?_)
          have hb0 : bd1 (dd t) ((flL (dd t)).getD i 0) = true := by rw [hbd]; exact decide_eq_true (fun z => c1 (hng.mpr z))
          rw [hb0] at back stor
          refine Exists.intro 2 (Exists.intro _ (Exists.intro _ (And.intro g3e (And.intro (Or.inl rfl) (And.intro (vp_in_nI (by omega) (by decide)) ?_)))))
          rw [nI_clamp (show i < 2 ^ 31 by omega)]
          refine Exists.intro 2 (Exists.intro _ (Exists.intro _ (And.intro uph_eq (And.intro (Or.inl rfl) (And.intro (vp_in_nI (by omega) (by decide)) ?_)))))
          rw [nI_clamp (show i < 2 ^ 31 by omega), pk_us]
          refine And.intro (fun cz => by first | exact absurd cz (by decide) | exact absurd (by decide) cz) (fun _ => ?_)
          refine go_loc (lv' := [(4, .int (nI i + 1)), (3, .int (nI b + 1)), (2, .ref (da t + 21)), (0, .ref (w + 48)), (1, .ref (da t))]) ⟨rfl, rfl, rfl, rfl, rfl, trivial⟩ ?_
          exact back _ _ (fun x a1 a2 => by rw [uph_ne a2]; exact hs3 x a1 a2) (hXH3.ag (fun x _ _ => uph_ne (by omega))) uph_eq (stor _ rfl rfl)
      · have keep : ∀ j, j < (flL (dd t)).length → (g j = 0 ∧ i + 1 ≤ j) ∨ g j = nI (if bd1 (dd t) ((flL (dd t)).getD j 0) then 2 else 1) := by
          intro j hj
          by_cases e : j = i
          · rw [e]; exact Or.inr gk
          · rcases hgv j hj with ⟨k1, k2⟩ | k1
            · exact Or.inl ⟨k1, by omega⟩
            · exact Or.inr k1
        have back2 := back h1 g hs (hH1.le (by omega)) hg keep
        rw [gk]
        cases hb0 : bd1 (dd t) ((flL (dd t)).getD i 0) with
        | false =>
          rw [hb0] at back2 gk
          refine And.intro (fun _ => ?_) (fun cz => by first | exact absurd cz (by decide) | exact absurd (by decide) cz)
          refine Exists.intro 2 (Exists.intro _ (Exists.intro _ (And.intro hg (And.intro (Or.inl rfl) (And.intro (vp_in_nI (by omega) (by decide)) ?_)))))
          rw [nI_clamp (show i < 2 ^ 31 by omega), gk]
          refine And.intro (fun _ => ?_) (fun cz => by first | exact absurd cz (by decide) | exact absurd (by decide) cz)
          refine go_loc (lv' := [(4, .int (nI i + 1)), (3, .int (nI b + 0)), (2, .ref (da t + 21)), (0, .ref (w + 48)), (1, .ref (da t))]) ⟨rfl, rfl, rfl, rfl, rfl, trivial⟩ ?_
          exact back2
        | true =>
          rw [hb0] at back2 gk
          refine And.intro (fun _ => ?_) (fun cz => by first | exact absurd cz (by decide) | exact absurd (by decide) cz)
          refine Exists.intro 2 (Exists.intro _ (Exists.intro _ (And.intro hg (And.intro (Or.inl rfl) (And.intro (vp_in_nI (by omega) (by decide)) ?_)))))
          rw [nI_clamp (show i < 2 ^ 31 by omega), gk]
          refine And.intro (fun cz => by first | exact absurd cz (by decide) | exact absurd (by decide) cz) (fun _ => ?_)
          refine go_loc (lv' := [(4, .int (nI i + 1)), (3, .int (nI b + 1)), (2, .ref (da t + 21)), (0, .ref (w + 48)), (1, .ref (da t))]) ⟨rfl, rfl, rfl, rfl, rfl, trivial⟩ ?_
          exact back2
  obtain ⟨hD, _, _⟩ := hdt.xd hA
  obtain ⟨cc, g2, g3, g4, g5, g10, g13, g14, g16, g17, g18, g19, g27, g28, g1, g11, g12, d0, _⟩ := id hD
  obtain ⟨g, hg, hgv⟩ := hF
  refine en_X7_countBad hX [13] 40 rfl ?_
  refine Exists.intro _ (And.intro d0 (Exists.intro _ (And.intro rfl ?_)))
  refine Exists.intro _ (And.intro hO (Exists.intro _ (And.intro rfl ?_)))
  refine go_loc (lv' := [(4, .int (nI 0)), (3, .int (nI 0)), (2, .ref (da t + 21)), (0, .ref (w + 48)), (1, .ref (da t))]) ⟨rfl, rfl, rfl, rfl, rfl, trivial⟩ ?_
  exact loop (flL (dd t)).length 0 0 h g (Nat.zero_add _) (fun _ _ _ => rfl) hH hg (fun j hj => (hgv j hj).imp (fun z => ⟨z, Nat.zero_le _⟩) id) rfl
