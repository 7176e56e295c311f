/-! logs, x: how many fit, and the next log -/
def rcN (row : Nat) : Nat := if row = 0 then 0 else if row ≤ 5 then 1 else 2
def raN (row : Nat) : Nat := if row ≤ 5 then row - 1 else (row - 6) / 5 + 5 * ((row - 6) % 5)
theorem rcN_b : ∀ row, row < 31 → rcN row ≤ 2 ∧ raN row < 25 := by decide
def rowB (D : DD) (row : Nat) : Bool := okA (dI D) (rcN row) (raN row)
def oX (v : Int32) : Nat := if v = -2 then 32 else v.toNatClampNeg
noncomputable def rO (D : DD) (row : Nat) (f : Option Nat) : Nat := oX (outF (kOne D f none) (rcN row) (raN row))
noncomputable def tlC (D : DD) (row o : Nat) : List (Option Nat) → Nat
  | [] => 0
  | f :: S => tlC D row o S + (if rO D row f = o then 1 else 0)
noncomputable def ftL (D : DD) (L : List LE) (n : Nat) : List (Option Nat) → List (Option Nat)
  | [] => []
  | f :: r => if fitB (kOne D f none) L n = true then f :: ftL D L n r else ftL D L n r
theorem ftL_cons {D : DD} {L : List LE} {n : Nat} {f : Option Nat} {r : List (Option Nat)} : ftL D L n (f :: r) = if fitB (kOne D f none) L n = true then f :: ftL D L n r else ftL D L n r := rfl
def cds (D : DD) : List (Option Nat) := none :: (flL D).map some
def mxG (T : Nat → Nat) : Nat → Nat
  | 0 => 0
  | m + 1 => max (mxG T m) (T m)
theorem mxG_le {T : Nat → Nat} {b : Nat} : ∀ {m : Nat}, (∀ o, o < m → T o ≤ b) → mxG T m ≤ b
  | 0, _ => Nat.zero_le _
  | m + 1, h => Nat.max_le.mpr ⟨mxG_le (fun o ho => h o (by omega)), h m (by omega)⟩
/-- the row of the smallest greatest group among the rows there are -/
def bsF (ok : Nat → Bool) (M : Nat → Nat) : Nat → Nat
  | 0 => 0
  | m + 1 => if ok (m + 1) = true ∧ M (m + 1) < M (bsF ok M m) then m + 1 else bsF ok M m
theorem bsF_le {ok : Nat → Bool} {M : Nat → Nat} : ∀ m, bsF ok M m ≤ m ∧ (bsF ok M m = 0 ∨ ok (bsF ok M m) = true)
  | 0 => ⟨Nat.le_refl _, Or.inl rfl⟩
  | m + 1 => by
    unfold bsF
    split
    · rename_i h
      exact ⟨Nat.le_refl _, Or.inr h.1⟩
    · have := bsF_le (ok := ok) (M := M) m
      exact ⟨by omega, this.2⟩
noncomputable def bsR (D : DD) (S : List (Option Nat)) : Nat := bsF (rowB D) (fun row => mxG (fun o => tlC D row o S) 33) 30
theorem tlC_le {D : DD} {row o : Nat} : ∀ S : List (Option Nat), tlC D row o S ≤ S.length
  | [] => Nat.le_refl _
  | f :: S => by
    unfold tlC
    have := tlC_le (D := D) (row := row) (o := o) S
    rw [List.length_cons]
    split <;> omega
theorem ftL_len {D : DD} {L : List LE} {n : Nat} : ∀ r : List (Option Nat), (ftL D L n r).length ≤ r.length
  | [] => Nat.le_refl _
  | f :: r => by
    unfold ftL
    have := ftL_len (D := D) (L := L) (n := n) r
    split
    · rw [List.length_cons, List.length_cons]; omega
    · rw [List.length_cons]; omega
/-- x's place among the candidates -/
def ats (D : DD) : Int32 → List (Option Nat) → Prop
  | x, [] => x = nI (flL D).length
  | x, f :: r => x < nI (flL D).length ∧ aFlaw D x = flI f ∧ okW D f ∧ ats D (x + 1) r
theorem ats_cds {D : DD} (hw : WD D) : ats D (-1) (cds D) := by
  have hl := flL_len hw
  have go : ∀ (m i : Nat), i + m = (flL D).length → ats D (nI i) (((flL D).drop i).map some) := by
    intro m
    induction m with
    | zero =>
      intro i hi
      rw [List.drop_eq_nil_of_le (by omega)]
      show nI i = _
      rw [show i = (flL D).length by omega]
    | succ m ih =>
      intro i hi
      have hi2 : i < (flL D).length := by omega
      rw [List.drop_eq_getElem_cons hi2, ← gD hi2]
      refine ⟨nI_lt hi2 (by omega), ?_, flL_ok hw hi2, by rw [← nI_succ]; exact ih (i + 1) (by omega)⟩
      unfold aFlaw
      rw [if_pos ⟨nI_pos' (by omega), nI_lt hi2 (by omega)⟩, nI_clamp (by omega)]
      rfl
  refine ⟨?_, ?_, okW_no, ?_⟩
  · exact Int32.lt_of_lt_of_le (b := 0) (by decide) (nI_pos' (by omega))
  · unfold aFlaw
    rw [if_neg (fun z => absurd z.1 (by decide))]
    rfl
  · exact go (flL D).length 0 (Nat.zero_add _)
theorem cds_len {D : DD} (hw : WD D) : (cds D).length ≤ 133 := by
  have hl := flL_len hw
  unfold cds
  rw [List.length_cons, List.length_map]
  omega
set_option maxHeartbeats 8000000 in
theorem x_countFitting {l : Launch} {G : GG} {h : AH} {nx : Nat} {Post : Option Value → AH → Nat → Prop} {o w tl c t vb n : Nat} {fp ah : Int32} {da : Nat → Nat} {dd : Nat → DD} {L : List LE} (hX : XC G ∧ TX l G) (hA : XA h o w tl fp c ah da dd) (hH : XH h w c da dd vb) (ht : t < c) (hv : vb + 400 < 2 ^ 31) (hL : XLg h w L) (hw : WLg L) (hn : n ≤ L.length) (hP : ∀ h1 : AH, (∀ x, x < w + 43 ∨ w + 52 ≤ x → h1 x = h x) → XH h1 w c da dd (vb + 133) → Post (some (.int (nI (ftL (dd t) L n (cds (dd t))).length))) h1 nx) : Runs l G i_X4_countFitting 0 0 [.ref (w + 64), .ref (da t), .int (nI n)] h nx Post := by
  have hdt : isDr w c da dd (da t) (dd t) := Or.inr ⟨t, ht, rfl, rfl⟩
  have hwd := (hdt.xd hA).2.1
  have hcl := cds_len hwd
  have loop : ∀ (r : List (Option Nat)) (x : Int32) (k vc : Nat) (h1 : AH), ats (dd t) x r → k + (ftL (dd t) L n r).length = (ftL (dd t) L n (cds (dd t))).length → vc + r.length ≤ vb + 133 → (∀ y, y < w + 43 ∨ w + 52 ≤ y → h1 y = h y) → XH h1 w c da dd vc → Go l G 4 s_X4_countFitting 0 0 Post 5 [(4, .int x), (3, .int (nI k)), (0, .ref (w + 64)), (1, .ref (da t)), (2, .int (nI n))] [] h1 nx 0 0 := by
    intro r
    induction r with
    | nil =>
      intro x k vc h1 hx hk hvc hs H1
      have hA1 : XA h1 o w tl fp c ah da dd := hA.mid (fun y hy => hs y (by omega))
      obtain ⟨hD, _, _⟩ := hdt.xd hA1
      obtain ⟨cc, g2, g3, g4, g5, g10, g13, g14, g16, g17, g18, g19, g27, g28, g1, g11, g12, d0, _⟩ := id hD
      have ex : x = nI (flL (dd t)).length := hx
      have hl := flL_len hwd
      refine Go.of hX.2 ck_X4_countFitting [5] 20 ?_
      refine Exists.intro _ (And.intro d0 (Exists.intro _ (And.intro rfl ?_)))
      refine And.intro (fun _ => ?_) (fun cz => absurd (show nI (flL (dd t)).length ≤ x from ex ▸ Int32.le_refl _) cz)
      rw [show k = (ftL (dd t) L n (cds (dd t))).length from hk]
      exact And.intro rfl ((hP h1 hs (H1.le (by simp only [List.length_nil] at hvc; omega))))
    | cons f r ih =>
      intro x k vc h1 hx hk hvc hs H1
      obtain ⟨q1, q2, q3, q4⟩ := hx
      rw [List.length_cons] at hvc
      have hA1 : XA h1 o w tl fp c ah da dd := hA.mid (fun y hy => hs y (by omega))
      have L1 : XLg h1 w L := hL.ag (fun y _ _ => hs y (by omega))
      obtain ⟨hD, _, _⟩ := hdt.xd hA1
      obtain ⟨cc, g2, g3, g4, g5, g10, g13, g14, g16, g17, g18, g19, g27, g28, g1, g11, g12, d0, _⟩ := id hD
      obtain ⟨_, _, _, _, _, e0, _⟩ := id L1
      refine Go.of hX.2 ck_X4_countFitting [5] 40 ?_
      refine Exists.intro _ (And.intro d0 (Exists.intro _ (And.intro rfl ?_)))
      refine And.intro (fun cz => absurd cz (Int32.not_le.mpr q1)) (fun _ => ?_)
      refine Exists.intro _ (And.intro d0 (Exists.intro 0 (Exists.intro 0 (And.intro (Nat.le_refl _) (And.intro (Nat.le_refl _) (x_flawAt hX hD hwd ?_))))))
      rw [q2]
      refine Exists.intro _ (And.intro e0 (Exists.intro 0 (Exists.intro 0 (And.intro (Nat.le_refl _) (And.intro (Nat.le_refl _) (x_isFitting hX hA1 H1 ht q3 (by omega) L1 hw hn (fun h2 ver y1 y2 y3 y4 => ?_)))))))
      have H2 : XH h2 w c da dd (vc + 1) := HTx.xh y2 (WK_one hwd q3 okW_no) hdt hdt y3 y4
      have hs2 : ∀ y, y < w + 43 ∨ w + 52 ≤ y → h2 y = h y := fun y hy => (y1 y hy).trans (hs y hy)
      rw [ftL_cons] at hk
      cases cf : fitB (kOne (dd t) f none) L n with
      | true =>
        rw [if_pos cf, List.length_cons] at hk
        refine And.intro (fun cz => by first | exact absurd cz (by decide) | exact absurd (by decide) cz) (fun _ => ?_)
        refine go_loc (lv' := [(4, .int (x + 1)), (3, .int (nI k + 1)), (0, .ref (w + 64)), (1, .ref (da t)), (2, .int (nI n))]) ⟨rfl, rfl, rfl, rfl, rfl, trivial⟩ ?_
        rw [← nI_succ]
        exact ih (x + 1) (k + 1) (vc + 1) h2 q4 (by omega) (by omega) hs2 H2
      | false =>
        rw [if_neg (by rw [cf]; decide)] at hk
        refine And.intro (fun _ => ?_) (fun cz => by first | exact absurd cz (by decide) | exact absurd (by decide) cz)
        refine go_loc (lv' := [(4, .int (x + 1)), (3, .int (nI k + 0)), (0, .ref (w + 64)), (1, .ref (da t)), (2, .int (nI n))]) ⟨rfl, rfl, rfl, rfl, rfl, trivial⟩ ?_
        rw [Int32.add_zero]
        exact ih (x + 1) k (vc + 1) h2 q4 (by omega) (by omega) hs2 H2
  refine en_X4_countFitting hX [5] 20 rfl ?_
  exact go_loc (lv' := [(4, .int (-1)), (3, .int (nI 0)), (0, .ref (w + 64)), (1, .ref (da t)), (2, .int (nI n))]) ⟨rfl, rfl, rfl, rfl, rfl, trivial⟩ (loop (cds (dd t)) (-1) 0 vb h (ats_cds hwd) (Nat.zero_add _) (by omega) (fun _ _ => rfl) hH)
set_option maxHeartbeats 8000000 in
theorem x_rowCount {l : Launch} {G : GG} {h : AH} {nx : Nat} {Post : Option Value → AH → Nat → Prop} {row : Nat} (hX : XC G ∧ TX l G) (hr : row < 31) (hP : Post (some (.int (nI (rcN row)))) h nx) : Runs l G i_X4_rowCount 0 0 [.int (nI row)] h nx Post := by
  refine en_X4_rowCount hX [] 20 rfl ?_
  unfold rcN at hP
  by_cases c1 : row = 0
  · rw [if_pos c1] at hP
    refine And.intro (fun cz => absurd (show nI row = 0 from by rw [c1]; rfl) cz) (fun _ => ?_)
    exact And.intro rfl (hP)
  · rw [if_neg c1] at hP
    refine And.intro (fun _ => ?_) (fun cz => absurd cz (nI_ne0 (by omega) (by omega)))
    by_cases c2 : row ≤ 5
    · rw [if_pos c2] at hP
      refine And.intro (fun cz => absurd cz (Int32.not_lt.mpr (nI_le (b := 5) c2 (by decide)))) (fun _ => ?_)
      exact And.intro rfl (hP)
    · rw [if_neg c2] at hP
      refine And.intro (fun _ => ?_) (fun cz => absurd (nI_lt (a := 5) (b := row) (by omega) (by omega)) cz)
      exact And.intro rfl (hP)
theorem mx_nI {a b : Nat} (ha : a < 2 ^ 31) (hb : b < 2 ^ 31) : (if nI a < nI b then nI b else nI a) = nI (max a b) := by
  by_cases c : a < b
  · rw [if_pos (nI_lt c hb), Nat.max_eq_right (by omega)]
  · rw [if_neg (nI_nlt (by omega) ha), Nat.max_eq_left (by omega)]
set_option maxHeartbeats 8000000 in
theorem x_rowActs {l : Launch} {G : GG} {h : AH} {nx : Nat} {Post : Option Value → AH → Nat → Prop} {row : Nat} (hX : XC G ∧ TX l G) (hr : row < 31) (hP : Post (some (.int (nI (raN row)))) h nx) : Runs l G i_X4_rowActs 0 0 [.int (nI row)] h nx Post := by
  refine en_X4_rowActs hX [] 40 rfl ?_
  unfold raN at hP
  by_cases c2 : row ≤ 5
  · rw [if_pos c2] at hP
    refine And.intro (fun cz => absurd cz (Int32.not_lt.mpr (nI_le (b := 5) c2 (by decide)))) (fun _ => ?_)
    refine And.intro rfl ?_
    refine And.intro rfl ?_
    have e : ∀ r, r ≤ 5 → (if (0 : Int32) < nI r - 1 then nI r - 1 else 0) = nI (r - 1) := by decide
    show Post (some (.int (if (0 : Int32) < nI row - 1 then nI row - 1 else 0))) h nx
    rw [e row c2]
    exact hP
  · rw [if_neg c2] at hP
    refine And.intro (fun _ => ?_) (fun cz => absurd (nI_lt (a := 5) (b := row) (by omega) (by omega)) cz)
    refine And.intro (by decide) ?_
    refine And.intro (by decide) ?_
    refine And.intro rfl ?_
    have e : ∀ r, r < 31 → ¬ r ≤ 5 → (nI r - 1 - 5) / 5 + 5 * ((nI r - 1 - 5) - (nI r - 1 - 5) / 5 * 5) = nI ((r - 6) / 5 + 5 * ((r - 6) % 5)) := by decide
    show Post (some (.int ((nI row - 1 - 5) / 5 + 5 * ((nI row - 1 - 5) - (nI row - 1 - 5) / 5 * 5)))) h nx
    rw [e row hr c2]
    exact hP
theorem nar_bb (b : Bool) : narrow .boolean (.int (nI b.toNat)) = .int (nI b.toNat) := by cases b <;> rfl
set_option maxHeartbeats 8000000 in
theorem x_isRow {l : Launch} {G : GG} {h : AH} {nx : Nat} {Post : Option Value → AH → Nat → Prop} {d row : Nat} {D : DD} (hX : XC G ∧ TX l G) (hD : XD h d D) (hw : WD D) (hr : row < 31) (hP : Post (some (.int (nI (rowB D row).toNat))) h nx) : Runs l G i_X4_isRow 0 0 [.ref d, .int (nI row)] h nx Post := by
  obtain ⟨cc, g2, g3, g4, g5, g10, g13, g14, g16, g17, g18, g19, g27, g28, g1, g11, g12, d0, _⟩ := id hD
  have hi := hw.i
  have hb := rcN_b row hr
  refine en_X4_isRow hX [] 20 rfl ?_
  refine Exists.intro 0 (Exists.intro 0 (And.intro (Nat.le_refl _) (And.intro (Nat.le_refl _) (x_rowCount hX hr ?_))))
  refine Exists.intro 0 (Exists.intro 0 (And.intro (Nat.le_refl _) (And.intro (Nat.le_refl _) (x_rowActs hX hr ?_))))
  refine Exists.intro 0 (Exists.intro 0 (And.intro (Nat.le_refl _) (And.intro (Nat.le_refl _) (c_areActs hX d0 rfl hi (show rcN row ≤ 6 by omega) (show raN row < 2 ^ 31 by omega) ?_))))
  exact And.intro (nar_bb (rowB D row)) hP
set_option maxHeartbeats 8000000 in
theorem x_greatestGroup {l : Launch} {G : GG} {h : AH} {nx : Nat} {Post : Option Value → AH → Nat → Prop} {w row : Nat} {L : List LE} {T : Nat → Nat} {g : Nat → Int32} (hX : XC G ∧ TX l G) (hL : XLg h w L) (h69 : h (w + 69) = some (.inl (0, 1023, .inl g))) (hr : row < 31) (hT : ∀ o, o < 33 → g (33 * row + o) = nI (T o) ∧ T o < 2 ^ 31) (hP : Post (some (.int (nI (mxG T 33)))) h nx) : Runs l G i_X4_greatestGroup 0 0 [.ref (w + 64), .int (nI row)] h nx Post := by
  obtain ⟨_, _, _, _, _, e0, _⟩ := id hL
  have loop : ∀ (m i : Nat), i + m = 33 → Go l G 4 s_X4_greatestGroup 0 0 Post 4 [(3, .int (nI i)), (2, .int (nI (mxG T i))), (0, .ref (w + 64)), (1, .int (nI row))] [] h nx 0 0 := by
    intro m
    induction m with
    | zero =>
      intro i hi
      have e : i = 33 := by omega
      subst e
      refine Go.of hX.2 ck_X4_greatestGroup [4] 20 ?_
      refine And.intro (fun _ => ?_) (fun cz => by first | exact absurd cz (by decide) | exact absurd (by decide) cz)
      exact And.intro rfl (hP)
    | succ m ih =>
      intro i hi
      obtain ⟨t1, t2⟩ := hT i (by omega)
      have hm : mxG T i < 2 ^ 31 := by
        have := mxG_le (T := T) (b := 2 ^ 31 - 1) (m := i) (fun o ho => by have := (hT o (by omega)).2; omega)
        omega
      have ei : nI row * 33 + nI i = nI (33 * row + i) := by rw [show (33 : Int32) = nI 33 from rfl, nI_mul, nI_add, Nat.mul_comm]
      refine Go.of hX.2 ck_X4_greatestGroup [4] 40 ?_
      refine And.intro (fun cz => absurd cz (nI_ge (a := i) (b := 33) (by omega) (by decide))) (fun _ => ?_)
      refine Exists.intro _ (And.intro e0 (Exists.intro _ (And.intro rfl ?_)))
      refine Exists.intro _ (Exists.intro _ (And.intro h69 (And.intro (by rw [ei]; exact vp_in_nI (by omega) (by decide)) ?_)))
      refine And.intro rfl ?_
      have ev : (if nI (mxG T i) < g (nI row * 33 + nI i).toNatClampNeg then g (nI row * 33 + nI i).toNatClampNeg else nI (mxG T i)) = nI (mxG T (i + 1)) := by
        rw [ei, nI_clamp (by omega), t1, mx_nI hm t2]
        rfl
      rw [ev]
      refine go_loc (lv' := [(3, .int (nI i + 1)), (2, .int (nI (mxG T (i + 1)))), (0, .ref (w + 64)), (1, .int (nI row))]) ⟨rfl, rfl, rfl, rfl, trivial⟩ ?_
      rw [← nI_succ]
      exact ih (i + 1) (by omega)
  refine en_X4_greatestGroup hX [4] 20 rfl ?_
  exact go_loc (lv' := [(3, .int (nI 0)), (2, .int (nI 0)), (0, .ref (w + 64)), (1, .int (nI row))]) ⟨rfl, rfl, rfl, rfl, trivial⟩ (loop 33 0 (Nat.zero_add _))
/-- what the tally of x holds -/
noncomputable def tlX (D : DD) (S : List (Option Nat)) (row o : Nat) : Nat := if rowB D row = true then tlC D row o S else 0
def tlOk (g : Nat → Int32) (T : Nat → Nat → Nat) : Prop := ∀ row o, row < 31 → o < 33 → g (33 * row + o) = nI (T row o)
theorem oX_out {q : HKy} {n r : Nat} : oX (outF q n r) < 33 ∧ (outF q n r = -2 → oX (outF q n r) = 32) ∧ (outF q n r ≠ -2 → outF q n r = nI (oX (outF q n r)) ∧ oX (outF q n r) < 32) := by
  rcases oW_c (q := q) n r 0 (kSe q 0 (kSu q)) with e | ⟨v, hv, e⟩
  · have e2 : outF q n r = -2 := e
    rw [e2]
    exact ⟨by decide, fun _ => rfl, fun z => absurd rfl z⟩
  · have e2 : outF q n r = nI v := e
    rw [e2]
    have e3 : oX (nI v) = v := by
      unfold oX
      rw [if_neg (nI_n2 (show v < 64 by omega)).1, nI_clamp (by omega)]
    rw [e3]
    exact ⟨by omega, fun z => absurd z (nI_n2 (show v < 64 by omega)).1, fun _ => ⟨rfl, hv⟩⟩
theorem and31 : ∀ v, v < 32 → nI v &&& 31 = nI v := by decide
theorem XLg.tal {h : AH} {w : Nat} {L : List LE} (hL : XLg h w L) : ∃ g6, h (w + 69) = some (.inl (0, 1023, .inl g6)) := by
  obtain ⟨_, _, _, _, g6, _, _, _, _, _, e6, _⟩ := hL
  exact ⟨g6, e6⟩
theorem XLg.put {h : AH} {w : Nat} {L : List LE} {g : Nat → Int32} (hL : XLg h w L) : XLg (uph h (w + 69) (.inl (0, 1023, .inl g))) w L := by
  obtain ⟨g1, g2, g3, g4, g6, e0, e1, e2, e3, e4, e6, r⟩ := hL
  exact ⟨g1, g2, g3, g4, g, by rw [uph_ne (by omega)]; exact e0, by rw [uph_ne (by omega)]; exact e1, by rw [uph_ne (by omega)]; exact e2, by rw [uph_ne (by omega)]; exact e3, by rw [uph_ne (by omega)]; exact e4, uph_eq, r⟩
theorem HTx.fr {h h' : AH} {w a ver : Nat} {q : HKy} (hH : HTx h (w + 43) a a q ver) (hs : ∀ x, w + 43 ≤ x → x < w + 48 → h' x = h x) : HTx h' (w + 43) a a q ver := hH.ag (fun x h1 h2 => hs x (by omega) (by omega))
set_option maxHeartbeats 8000000 in
theorem x_addToGroups {l : Launch} {G : GG} {h : AH} {nx : Nat} {Post : Option Value → AH → Nat → Prop} {w a ver : Nat} {D : DD} {f : Option Nat} {S : List (Option Nat)} {L : List LE} {g : Nat → Int32} (hX : XC G ∧ TX l G) (hL : XLg h w L) (h69 : h (w + 69) = some (.inl (0, 1023, .inl g))) (hT : tlOk g (tlX D S)) (hH : HTx h (w + 43) a a (kOne D f none) ver) (hq : WK (kOne D f none)) (hD : XD h a D) (hw : WD D) (ha : w + 137 ≤ a) (hP : ∀ (h1 : AH) (g1 : Nat → Int32), (∀ x, x ≤ w + 43 ∨ (w + 48 ≤ x ∧ x ≠ w + 69) → h1 x = h x) → HTx h1 (w + 43) a a (kOne D f none) ver → h1 (w + 69) = some (.inl (0, 1023, .inl g1)) → tlOk g1 (tlX D (f :: S)) → Post none h1 nx) : Runs l G i_X4_addToGroups 0 0 [.ref (w + 64), .ref a] h nx Post := by
  have loop : ∀ (m r : Nat) (h1 : AH) (g1 : Nat → Int32), r + m = 31 → (∀ x, x ≤ w + 43 ∨ (w + 48 ≤ x ∧ x ≠ w + 69) → h1 x = h x) → HTx h1 (w + 43) a a (kOne D f none) ver → h1 (w + 69) = some (.inl (0, 1023, .inl g1)) → tlOk g1 (fun row o => if row < r then tlX D (f :: S) row o else tlX D S row o) → Go l G 4 s_X4_addToGroups 0 0 Post 2 [(2, .int (nI r)), (0, .ref (w + 64)), (1, .ref a)] [] h1 nx 0 0 := by
    intro m
    induction m with
    | zero =>
      intro r h1 g1 hr hs H1 h9 hg
      have e : r = 31 := by omega
      subst e
      refine Go.of hX.2 ck_X4_addToGroups [2] 20 ?_
      refine And.intro (fun _ => ?_) (fun cz => by first | exact absurd cz (by decide) | exact absurd (by decide) cz)
      exact hP h1 g1 hs H1 h9 (fun row o a1 a2 => by have := hg row o a1 a2; simp only [if_pos a1] at this; exact this)
    | succ m ih =>
      intro r h1 g1 hr hs H1 h9 hg
      have hr31 : r < 31 := by omega
      have hD1 : XD h1 a D := hD.ag (fun x hx => hs x (by omega))
      have L1 : XLg h1 w L := by
        obtain ⟨q1, q2, q3, q4, q6, e0, e1, e2, e3, e4, e6, rr⟩ := id hL
        exact ⟨q1, q2, q3, q4, g1, (hs _ (by omega)).trans e0, (hs _ (by omega)).trans e1, (hs _ (by omega)).trans e2, (hs _ (by omega)).trans e3, (hs _ (by omega)).trans e4, h9, rr⟩
      obtain ⟨_, _, _, _, _, e0, _⟩ := id L1
      have hb := rcN_b r hr31
      refine Go.of hX.2 ck_X4_addToGroups [2] 60 ?_
      refine And.intro (fun cz => absurd cz (nI_ge (a := r) (b := 31) hr31 (by decide))) (fun _ => ?_)
      refine Exists.intro 0 (Exists.intro 0 (And.intro (Nat.le_refl _) (And.intro (Nat.le_refl _) (x_isRow hX hD1 hw hr31 ?_))))
      cases cb : rowB D r with
      | false =>
        refine And.intro (fun _ => ?_) (fun cz => by first | exact absurd cz (by decide) | exact absurd (by decide) cz)
        refine go_loc (lv' := [(2, .int (nI r + 1)), (0, .ref (w + 64)), (1, .ref a)]) ⟨rfl, rfl, rfl, trivial⟩ ?_
        rw [← nI_succ]
        refine ih (r + 1) h1 g1 (by omega) hs H1 h9 (fun row o a1 a2 => ?_)
        have this : g1 (33 * row + o) = nI (if row < r then tlX D (f :: S) row o else tlX D S row o) := hg row o a1 a2
        show g1 (33 * row + o) = nI (if row < r + 1 then tlX D (f :: S) row o else tlX D S row o)
        by_cases e : row = r
        · rw [e, if_neg (Nat.lt_irrefl r)] at this
          rw [e, if_pos (Nat.lt_succ_self r), this]
          unfold tlX
          rw [cb]
          rfl
        · by_cases e2 : row < r
          · rw [if_pos e2] at this
            rw [if_pos (by omega), this]
          · rw [if_neg e2] at this
            rw [if_neg (by omega), this]
      | true =>
        refine And.intro (fun cz => by first | exact absurd cz (by decide) | exact absurd (by decide) cz) (fun _ => ?_)
        refine Exists.intro 0 (Exists.intro 0 (And.intro (Nat.le_refl _) (And.intro (Nat.le_refl _) (x_rowCount hX hr31 ?_))))
        refine Exists.intro 0 (Exists.intro 0 (And.intro (Nat.le_refl _) (And.intro (Nat.le_refl _) (x_rowActs hX hr31 ?_))))
        refine Exists.intro _ (And.intro e0 (Exists.intro 0 (Exists.intro 0 (And.intro (Nat.le_refl _) (And.intro (Nat.le_refl _) (x_outcome hX L1 H1 hq hD1 rfl ha (by omega) (by omega) (fun h2 y1 y2 => ?_)))))))
        have h92 : h2 (w + 69) = some (.inl (0, 1023, .inl g1)) := (y1 _ (by omega)).trans h9
        have e02 := (y1 (w + 64) (by omega)).trans e0
        obtain ⟨o1, o2, o3⟩ := oX_out (q := kOne D f none) (n := rcN r) (r := raN r)
        have e33 : ∀ i, nI r * 33 + nI i = nI (33 * r + i) := fun i => by rw [show (33 : Int32) = nI 33 from rfl, nI_mul, nI_add, Nat.mul_comm]
        have fin : ∀ o : Nat, o < 33 → o = rO D r f → Go l G 4 s_X4_addToGroups 0 0 Post 2 [(2, .int (nI r + 1)), (0, .ref (w + 64)), (1, .ref a)] [] (uph h2 (w + 69) (.inl (0, 1023, .inl (upd g1 (33 * r + o) (g1 (33 * r + o) + 1))))) nx 0 0 := by
          intro o ho eo
          rw [← nI_succ]
          refine ih (r + 1) _ _ (by omega) (fun x hx => by rw [uph_ne (by omega)]; exact (y1 x (by omega)).trans (hs x hx)) (y2.fr (fun x z1 z2 => uph_ne (by omega))) uph_eq (fun row o' a1 a2 => ?_)
          have hh : g1 (33 * row + o') = nI (if row < r then tlX D (f :: S) row o' else tlX D S row o') := hg row o' a1 a2
          show upd g1 (33 * r + o) (g1 (33 * r + o) + 1) (33 * row + o') = nI (if row < r + 1 then tlX D (f :: S) row o' else tlX D S row o')
          by_cases e : row = r
          · rw [if_neg (show ¬ row < r by omega)] at hh
            rw [if_pos (show row < r + 1 by omega)]
            subst e
            unfold tlX at hh ⊢
            rw [if_pos cb] at hh
            rw [if_pos cb]
            unfold tlC
            by_cases e2 : o' = o
            · rw [e2] at hh
              rw [e2, pk_us, if_pos eo.symm, nI_succ, hh]
            · rw [pk_un (by omega), if_neg (fun z => e2 (z.symm.trans eo.symm)), Nat.add_zero]
              exact hh
          · rw [pk_un (by omega), hh]
            by_cases e2 : row < r
            · rw [if_pos e2, if_pos (show row < r + 1 by omega)]
            · rw [if_neg e2, if_neg (show ¬ row < r + 1 by omega)]
        refine Exists.intro _ (And.intro e02 (Exists.intro _ (And.intro rfl ?_)))
        by_cases cr : outF (kOne D f none) (rcN r) (raN r) = -2
        · refine And.intro (fun cz => absurd cz (show ¬ (0 : Int32) ≤ outF (kOne D f none) (rcN r) (raN r) from by rw [cr]; decide)) (fun _ => ?_)
          refine Exists.intro _ (Exists.intro _ (And.intro h92 (And.intro (by rw [show (32 : Int32) = nI 32 from rfl, e33]; exact vp_in_nI (by omega) (by decide)) ?_)))
          refine Exists.intro _ (Exists.intro _ (And.intro h92 (And.intro (by rw [show (32 : Int32) = nI 32 from rfl, e33]; exact vp_in_nI (by omega) (by decide)) ?_)))
          rw [show (32 : Int32) = nI 32 from rfl, e33, nI_clamp (by omega)]
          exact go_loc (lv' := [(2, .int (nI r + 1)), (0, .ref (w + 64)), (1, .ref a)]) ⟨rfl, rfl, rfl, trivial⟩ (fin 32 (by decide) (o2 cr).symm)
        · obtain ⟨o4, o5⟩ := o3 cr
          refine And.intro (fun _ => ?_) (fun cz => absurd (show (0 : Int32) ≤ outF (kOne D f none) (rcN r) (raN r) from by rw [o4]; exact nI_pos' (by omega)) cz)
          have ea : outF (kOne D f none) (rcN r) (raN r) &&& 31 = nI (rO D r f) := by
            rw [o4, and31 _ o5]
            rfl
          refine Exists.intro _ (Exists.intro _ (And.intro h92 (And.intro (by rw [ea, e33]; exact vp_in_nI (show 33 * r + rO D r f < 1023 by unfold rO; omega) (by decide)) ?_)))
          refine Exists.intro _ (Exists.intro _ (And.intro h92 (And.intro (by rw [ea, e33]; exact vp_in_nI (show 33 * r + rO D r f < 1023 by unfold rO; omega) (by decide)) ?_)))
          rw [ea, e33, nI_clamp (by unfold rO; omega)]
          exact go_loc (lv' := [(2, .int (nI r + 1)), (0, .ref (w + 64)), (1, .ref a)]) ⟨rfl, rfl, rfl, trivial⟩ (fin (rO D r f) o1 rfl)
  refine en_X4_addToGroups hX [2] 20 rfl ?_
  exact go_loc (lv' := [(2, .int (nI 0)), (0, .ref (w + 64)), (1, .ref a)]) ⟨rfl, rfl, rfl, trivial⟩ (loop 31 0 h g (Nat.zero_add _) (fun _ _ => rfl) hH h69 (fun row o a1 a2 => by simp only [if_neg (Nat.not_lt_zero _)]; exact hT row o a1 a2))
noncomputable def acF (D : DD) (L : List LE) (n : Nat) : List (Option Nat) → List (Option Nat) → List (Option Nat)
  | [], S => S
  | f :: r, S => acF D L n r (if fitB (kOne D f none) L n = true then f :: S else S)
theorem acF_len {D : DD} {L : List LE} {n : Nat} : ∀ (r S : List (Option Nat)), (acF D L n r S).length = S.length + (ftL D L n r).length
  | [], S => rfl
  | f :: r, S => by
    unfold acF
    rw [acF_len r, ftL_cons]
    split
    · rw [List.length_cons, List.length_cons]; omega
    · rfl
noncomputable def fits (D : DD) (L : List LE) (n : Nat) : List (Option Nat) := acF D L n (cds D) []
noncomputable def aBest (D : DD) (S : List (Option Nat)) : Int32 := if S.length < 2 then -2 else nI (25 * rcN (bsR D S) + raN (bsR D S))
theorem fits_len {D : DD} {L : List LE} {n : Nat} (hw : WD D) : (fits D L n).length ≤ 133 := by
  have h1 := ftL_len (D := D) (L := L) (n := n) (cds D)
  have h2 := cds_len hw
  unfold fits
  rw [acF_len]
  simp only [List.length_nil]
  omega
theorem XH_log {h h' : AH} {w c vb : Nat} {da : Nat → Nat} {dd : Nat → DD} (hH : XH h w c da dd vb) (hs : ∀ x, w + 43 ≤ x → x < w + 52 → h' x = h x) : XH h' w c da dd vb := hH.ag hs
set_option maxHeartbeats 8000000 in
theorem x_bestRow {l : Launch} {G : GG} {h : AH} {nx : Nat} {Post : Option Value → AH → Nat → Prop} {o w tl c t vb n : Nat} {fp ah : Int32} {da : Nat → Nat} {dd : Nat → DD} {L : List LE} (hX : XC G ∧ TX l G) (hA : XA h o w tl fp c ah da dd) (hH : XH h w c da dd vb) (ht : t < c) (hv : vb + 400 < 2 ^ 31) (hL : XLg h w L) (hw : WLg L) (hn : n ≤ L.length) (hP : ∀ h1 : AH, (∀ x, x < w + 43 ∨ (w + 52 ≤ x ∧ x ≠ w + 69) → h1 x = h x) → XH h1 w c da dd (vb + 133) → XLg h1 w L → Post (some (.int (aBest (dd t) (fits (dd t) L n)))) h1 nx) : Runs l G i_X4_bestRow 0 0 [.ref (w + 64), .ref (da t), .int (nI n)] h nx Post := by
  have hdt : isDr w c da dd (da t) (dd t) := Or.inr ⟨t, ht, rfl, rfl⟩
  have hwd := (hdt.xd hA).2.1
  have hlo : w + 137 ≤ da t := (hA.2.2.2.2.1 t ht).2.2
  have hcl := cds_len hwd
  have hfl := fits_len (L := L) (n := n) hwd
  have lgx : ∀ {h1 : AH} {g1 : Nat → Int32}, (∀ y, y < w + 43 ∨ (w + 52 ≤ y ∧ y ≠ w + 69) → h1 y = h y) → h1 (w + 69) = some (.inl (0, 1023, .inl g1)) → XLg h1 w L := fun {h1 g1} hs h9 => by
    obtain ⟨q1, q2, q3, q4, q6, e0, e1, e2, e3, e4, e6, rr⟩ := id hL
    exact ⟨q1, q2, q3, q4, g1, (hs _ (by omega)).trans e0, (hs _ (by omega)).trans e1, (hs _ (by omega)).trans e2, (hs _ (by omega)).trans e3, (hs _ (by omega)).trans e4, h9, rr⟩
  have tail : ∀ (S : List (Option Nat)) (h1 : AH) (g1 : Nat → Int32), S.length ≤ 133 → fits (dd t) L n = S → ¬ S.length < 2 → (∀ y, y < w + 43 ∨ (w + 52 ≤ y ∧ y ≠ w + 69) → h1 y = h y) → XH h1 w c da dd (vb + 133) → h1 (w + 69) = some (.inl (0, 1023, .inl g1)) → tlOk g1 (tlX (dd t) S) → ∀ (m r : Nat), r + m = 30 → Go l G 4 s_X4_bestRow 0 0 Post 65 [(5, .int (nI (r + 1))), (4, .int (nI (bsF (rowB (dd t)) (fun row => mxG (fun o => tlC (dd t) row o S) 33) r))), (0, .ref (w + 64)), (1, .ref (da t))] [] h1 nx 0 0 := by
    intro S h1 g1 hSl hS h2 hs H1 h9 hg m
    have hA1 : XA h1 o w tl fp c ah da dd := hA.mid (fun y hy => hs y (by omega))
    obtain ⟨hD, _, _⟩ := hdt.xd hA1
    have L1 := lgx hs h9
    obtain ⟨_, _, _, _, _, e0, _⟩ := id L1
    have hM : ∀ row, row < 31 → rowB (dd t) row = true → ∀ o, o < 33 → g1 (33 * row + o) = nI (tlC (dd t) row o S) ∧ tlC (dd t) row o S < 2 ^ 31 := by
      intro row a1 a3 o a2
      refine ⟨?_, by have := tlC_le (D := dd t) (row := row) (o := o) S; omega⟩
      rw [hg row o a1 a2]
      unfold tlX
      rw [if_pos a3]
    have r0 : rowB (dd t) 0 = true := rfl
    have hMb : ∀ row, mxG (fun o => tlC (dd t) row o S) 33 ≤ 133 := fun row => mxG_le (fun o _ => by have := tlC_le (D := dd t) (row := row) (o := o) S; omega)
    induction m with
    | zero =>
      intro r hr
      have e : r = 30 := by omega
      subst e
      obtain ⟨b1, b2⟩ := bsF_le (ok := rowB (dd t)) (M := fun row => mxG (fun o => tlC (dd t) row o S) 33) 30
      have hb := rcN_b _ (show bsF (rowB (dd t)) (fun row => mxG (fun o => tlC (dd t) row o S) 33) 30 < 31 by omega)
      have hP := hP h1 hs H1 L1
      rw [hS] at hP
      unfold aBest at hP
      rw [if_neg h2] at hP
      refine Go.of hX.2 ck_X4_bestRow [65] 60 ?_
      refine And.intro (fun _ => ?_) (fun cz => by first | exact absurd cz (by decide) | exact absurd (by decide) cz)
      refine Exists.intro 0 (Exists.intro 0 (And.intro (Nat.le_refl _) (And.intro (Nat.le_refl _) (x_rowCount hX (by omega) ?_))))
      refine Exists.intro 0 (Exists.intro 0 (And.intro (Nat.le_refl _) (And.intro (Nat.le_refl _) (x_rowActs hX (by omega) ?_))))
      refine And.intro rfl ?_
      show Post (some (.int ((25 : Int32) * nI (rcN _) + nI (raN _)))) h1 nx
      rw [show (25 : Int32) = nI 25 from rfl, nI_mul, nI_add]
      exact hP
    | succ m ih =>
      intro r hr
      obtain ⟨b1, b2⟩ := bsF_le (ok := rowB (dd t)) (M := fun row => mxG (fun o => tlC (dd t) row o S) 33) r
      have bok : rowB (dd t) (bsF (rowB (dd t)) (fun row => mxG (fun o => tlC (dd t) row o S) 33) r) = true := by
        rcases b2 with z | z
        · rw [z]; exact r0
        · exact z
      have nxt : ∀ b : Nat, b = bsF (rowB (dd t)) (fun row => mxG (fun o => tlC (dd t) row o S) 33) (r + 1) → Go l G 4 s_X4_bestRow 0 0 Post 65 [(5, .int (nI (r + 1) + 1)), (4, .int (nI b)), (0, .ref (w + 64)), (1, .ref (da t))] [] h1 nx 0 0 := by
        intro b eb
        rw [← nI_succ, eb]
        exact ih (r + 1) (by omega)
      refine Go.of hX.2 ck_X4_bestRow [65] 60 ?_
      refine And.intro (fun cz => absurd cz (nI_ge (a := r + 1) (b := 31) (by omega) (by decide))) (fun _ => ?_)
      refine Exists.intro 0 (Exists.intro 0 (And.intro (Nat.le_refl _) (And.intro (Nat.le_refl _) (x_isRow hX hD hwd (by omega) ?_))))
      cases cb : rowB (dd t) (r + 1) with
      | false =>
        refine And.intro (fun _ => ?_) (fun cz => by first | exact absurd cz (by decide) | exact absurd (by decide) cz)
        exact go_loc (lv' := [(5, .int (nI (r + 1) + 1)), (4, .int (nI (bsF (rowB (dd t)) (fun row => mxG (fun o => tlC (dd t) row o S) 33) r))), (0, .ref (w + 64)), (1, .ref (da t))]) ⟨rfl, rfl, rfl, rfl, trivial⟩ (nxt _ (by show _ = ite _ _ _; rw [if_neg (fun z => by rw [cb] at z; exact absurd z.1 (by decide))]))
      | true =>
        refine And.intro (fun cz => by first | exact absurd cz (by decide) | exact absurd (by decide) cz) (fun _ => ?_)
        refine Exists.intro _ (And.intro e0 (Exists.intro 0 (Exists.intro 0 (And.intro (Nat.le_refl _) (And.intro (Nat.le_refl _) (x_greatestGroup (T := fun o => tlC (dd t) (r + 1) o S) hX L1 h9 (by omega) (fun o ho => hM _ (by omega) cb o ho) ?_))))))
        refine Exists.intro _ (And.intro e0 (Exists.intro 0 (Exists.intro 0 (And.intro (Nat.le_refl _) (And.intro (Nat.le_refl _) (x_greatestGroup (T := fun o => tlC (dd t) (bsF (rowB (dd t)) (fun row => mxG (fun o => tlC (dd t) row o S) 33) r) o S) hX L1 h9 (by omega) (fun o ho => hM _ (by omega) bok o ho) ?_))))))
        have m1 := hMb (r + 1)
        have m2 := hMb (bsF (rowB (dd t)) (fun row => mxG (fun o => tlC (dd t) row o S) 33) r)
        by_cases cl : mxG (fun o => tlC (dd t) (r + 1) o S) 33 < mxG (fun o => tlC (dd t) (bsF (rowB (dd t)) (fun row => mxG (fun o => tlC (dd t) row o S) 33) r) o S) 33
        · refine And.intro (fun cz => absurd cz (nI_ge cl (by omega))) (fun _ => ?_)
          exact go_loc (lv' := [(5, .int (nI (r + 1) + 1)), (4, .int (nI (r + 1))), (0, .ref (w + 64)), (1, .ref (da t))]) ⟨rfl, rfl, rfl, rfl, trivial⟩ (nxt _ (by show _ = ite _ _ _; rw [if_pos ⟨cb, cl⟩]))
        · refine And.intro (fun _ => ?_) (fun cz => absurd (nI_le (Nat.not_lt.mp cl) (by omega)) cz)
          exact go_loc (lv' := [(5, .int (nI (r + 1) + 1)), (4, .int (nI (bsF (rowB (dd t)) (fun row => mxG (fun o => tlC (dd t) row o S) 33) r))), (0, .ref (w + 64)), (1, .ref (da t))]) ⟨rfl, rfl, rfl, rfl, trivial⟩ (nxt _ (by show _ = ite _ _ _; rw [if_neg (fun z => cl z.2)]))
  have loop : ∀ (r S : List (Option Nat)) (x : Int32) (vc : Nat) (h1 : AH) (g1 : Nat → Int32), ats (dd t) x r → fits (dd t) L n = acF (dd t) L n r S → vc + r.length ≤ vb + 133 → (∀ y, y < w + 43 ∨ (w + 52 ≤ y ∧ y ≠ w + 69) → h1 y = h y) → XH h1 w c da dd vc → h1 (w + 69) = some (.inl (0, 1023, .inl g1)) → tlOk g1 (tlX (dd t) S) → Go l G 4 s_X4_bestRow 0 0 Post 13 [(4, .int x), (3, .int (nI S.length)), (0, .ref (w + 64)), (1, .ref (da t)), (2, .int (nI n))] [] h1 nx 0 0 := by
    intro r
    induction r with
    | nil =>
      intro S x vc h1 g1 hx hS hvc hs H1 h9 hg
      have hA1 : XA h1 o w tl fp c ah da dd := hA.mid (fun y hy => hs y (by omega))
      obtain ⟨hD, _, _⟩ := hdt.xd hA1
      obtain ⟨cc, g2, g3, g4, g5, g10, g13, g14, g16, g17, g18, g19, g27, g28, q1, q11, q12, d0, _⟩ := id hD
      have ex : x = nI (flL (dd t)).length := hx
      have hl := flL_len hwd
      have hS : fits (dd t) L n = S := hS
      have hSl : S.length ≤ 133 := by rw [← hS]; exact hfl
      have H2 := H1.le (show vc ≤ vb + 133 by simp only [List.length_nil] at hvc; omega)
      refine Go.of hX.2 ck_X4_bestRow [13, 65] 60 ?_
      refine Exists.intro _ (And.intro d0 (Exists.intro _ (And.intro rfl ?_)))
      refine And.intro (fun _ => ?_) (fun cz => absurd (show nI (flL (dd t)).length ≤ x from ex ▸ Int32.le_refl _) cz)
      by_cases c2 : S.length < 2
      · refine And.intro (fun cz => absurd cz (nI_ge (a := S.length) (b := 2) c2 (by decide))) (fun _ => ?_)
        have hP := hP h1 hs H2 (lgx hs h9)
        rw [hS] at hP
        unfold aBest at hP
        rw [if_pos c2] at hP
        exact And.intro rfl (hP)
      · refine And.intro (fun _ => ?_) (fun cz => absurd (nI_le (a := 2) (b := S.length) (by omega) (by omega)) cz)
        exact go_loc (lv' := [(5, .int (nI (0 + 1))), (4, .int (nI 0)), (0, .ref (w + 64)), (1, .ref (da t))]) ⟨rfl, rfl, rfl, rfl, trivial⟩ (tail S h1 g1 hSl hS c2 hs H2 h9 hg 30 0 (Nat.zero_add _))
    | cons f r ih =>
      intro S x vc h1 g1 hx hS hvc hs H1 h9 hg
      obtain ⟨q1, q2, q3, q4⟩ := hx
      rw [List.length_cons] at hvc
      have hA1 : XA h1 o w tl fp c ah da dd := hA.mid (fun y hy => hs y (by omega))
      have L1 := lgx hs h9
      obtain ⟨hD, _, _⟩ := hdt.xd hA1
      obtain ⟨cc, g2, g3, g4, g5, g10, g13, g14, g16, g17, g18, g19, g27, g28, j1, j11, j12, d0, _⟩ := id hD
      obtain ⟨_, _, _, _, _, e0, _⟩ := id L1
      have hq : WK (kOne (dd t) f none) := WK_one hwd q3 okW_no
      refine Go.of hX.2 ck_X4_bestRow [13] 60 ?_
      refine Exists.intro _ (And.intro d0 (Exists.intro _ (And.intro rfl ?_)))
      refine And.intro (fun cz => absurd cz (Int32.not_le.mpr q1)) (fun _ => ?_)
      refine Exists.intro _ (And.intro d0 (Exists.intro 0 (Exists.intro 0 (And.intro (Nat.le_refl _) (And.intro (Nat.le_refl _) (x_flawAt hX hD hwd ?_))))))
      rw [q2]
      refine Exists.intro _ (And.intro e0 (Exists.intro 0 (Exists.intro 0 (And.intro (Nat.le_refl _) (And.intro (Nat.le_refl _) (x_isFitting hX hA1 H1 ht q3 (by omega) L1 hw hn (fun h2 ver y1 y2 y3 y4 => ?_)))))))
      have H2 : XH h2 w c da dd (vc + 1) := HTx.xh y2 hq hdt hdt y3 y4
      have hs2 : ∀ y, y < w + 43 ∨ (w + 52 ≤ y ∧ y ≠ w + 69) → h2 y = h y := fun y hy => (y1 y (by omega)).trans (hs y hy)
      have h92 := (y1 (w + 69) (by omega)).trans h9
      have hS2 : fits (dd t) L n = acF (dd t) L n r (if fitB (kOne (dd t) f none) L n = true then f :: S else S) := hS
      cases cf : fitB (kOne (dd t) f none) L n with
      | true =>
        rw [if_pos cf] at hS2
        refine And.intro (fun cz => by first | exact absurd cz (by decide) | exact absurd (by decide) cz) (fun _ => ?_)
        have L2 := lgx hs2 h92
        have hD2 := (hdt.xd (hA.mid (fun y hy => hs2 y (by omega)) : XA h2 o w tl fp c ah da dd)).1
        refine Exists.intro _ (And.intro ((y1 (w + 64) (by omega)).trans e0) (Exists.intro 0 (Exists.intro 0 (And.intro (Nat.le_refl _) (And.intro (Nat.le_refl _) (x_addToGroups hX L2 h92 hg y2 hq hD2 hwd hlo (fun h3 g3 z1 z2 z3 z4 => ?_)))))))
        refine go_loc (lv' := [(4, .int (x + 1)), (3, .int (nI S.length + 1)), (0, .ref (w + 64)), (1, .ref (da t)), (2, .int (nI n))]) ⟨rfl, rfl, rfl, rfl, rfl, trivial⟩ ?_
        rw [← nI_succ]
        exact ih (f :: S) (x + 1) (vc + 1) h3 g3 q4 hS2 (by omega) (fun y hy => (z1 y (by omega)).trans (hs2 y hy)) (HTx.xh z2 hq hdt hdt (y3.ag (fun y _ _ => z1 y (by omega))) y4) z3 z4
      | false =>
        rw [if_neg (by rw [cf]; decide)] at hS2
        refine And.intro (fun _ => ?_) (fun cz => by first | exact absurd cz (by decide) | exact absurd (by decide) cz)
        refine go_loc (lv' := [(4, .int (x + 1)), (3, .int (nI S.length)), (0, .ref (w + 64)), (1, .ref (da t)), (2, .int (nI n))]) ⟨rfl, rfl, rfl, rfl, rfl, trivial⟩ ?_
        exact ih S (x + 1) (vc + 1) h2 g1 q4 hS2 (by omega) hs2 H2 h92 hg
  obtain ⟨_, _, _, _, g6, e0, _, _, _, _, e6, _⟩ := id hL
  refine en_X4_bestRow hX [13] 20 rfl ?_
  refine Exists.intro _ (And.intro e0 (Exists.intro _ (And.intro rfl ?_)))
  refine Exists.intro 0 (Exists.intro 0 (And.intro (Nat.le_refl _) (And.intro (Nat.le_refl _) (c_fillI hX e6 (by decide) (fun g0 hg0 => ?_)))))
  refine go_loc (lv' := [(4, .int (-1)), (3, .int (nI 0)), (0, .ref (w + 64)), (1, .ref (da t)), (2, .int (nI n))]) ⟨rfl, rfl, rfl, rfl, rfl, trivial⟩ ?_
  exact loop (cds (dd t)) [] (-1) vb _ g0 (ats_cds hwd) rfl (by omega) (fun y hy => uph_ne (by omega)) (hH.ag (fun y _ _ => uph_ne (by omega))) uph_eq (fun row o a1 a2 => by rw [hg0 _ (by omega)]; unfold tlX tlC; split <;> rfl)
noncomputable def aSuspects (D : DD) (L : List LE) (n : Int32) : Int32 := if knB L n = true then nI (fits D L n.toNatClampNeg).length else -1
noncomputable def aNext (D : DD) (L : List LE) (n : Int32) : Int32 := if knB L n = true then aBest D (fits D L n.toNatClampNeg) else -1
set_option maxHeartbeats 8000000 in
theorem x_suspects {l : Launch} {G : GG} {h : AH} {nx : Nat} {Post : Option Value → AH → Nat → Prop} {o w tl c t vb : Nat} {fp n : Int32} {da : Nat → Nat} {dd : Nat → DD} {L : List LE} (hX : XC G ∧ TX l G) (hA : XA h o w tl fp c (nI t) da dd) (hH : XH h w c da dd vb) (ht : t < c) (hv : vb + 400 < 2 ^ 31) (hL : XLg h w L) (hw : WLg L) (hP : ∀ h1 : AH, (∀ x, x < w + 43 ∨ w + 52 ≤ x → h1 x = h x) → XH h1 w c da dd (vb + 133) → Post (some (.int (aSuspects (dd t) L n))) h1 nx) : Runs l G i_X11_suspects 0 0 [.ref o, .int n] h nx Post := by
  obtain ⟨_, _, _, _, _, e0, _⟩ := id hL
  have hc := hA.2.2.1
  unfold aSuspects at hP
  refine en_X11_suspects hX [] 60 rfl ?_
  refine Exists.intro _ (And.intro hA.1 (Exists.intro _ (And.intro rfl ?_)))
  refine And.intro (fun cz => absurd cz ((nI_n2 (show t < 64 by omega)).2.2)) (fun _ => ?_)
  refine Exists.intro _ (And.intro hA.1 (Exists.intro _ (And.intro rfl ?_)))
  refine Exists.intro _ (And.intro e0 (Exists.intro 0 (Exists.intro 0 (And.intro (Nat.le_refl _) (And.intro (Nat.le_refl _) (x_isKnown hX hL ?_))))))
  cases c2 : knB L n with
  | false =>
    refine And.intro (fun cz => by first | exact absurd cz (by decide) | exact absurd (by decide) cz) (fun _ => ?_)
    rw [if_neg (by rw [c2]; decide)] at hP
    exact And.intro rfl ((hP h (fun _ _ => rfl) (hH.le (by omega))))
  | true =>
    refine And.intro (fun _ => ?_) (fun cz => by first | exact absurd cz (by decide) | exact absurd (by decide) cz)
    obtain ⟨m, hm, em, ec⟩ := knB_c hw.1 c2
    rw [if_pos c2, ec] at hP
    refine Exists.intro _ (And.intro hA.1 (Exists.intro _ (And.intro rfl ?_)))
    refine Exists.intro _ (And.intro hA.1 (Exists.intro 0 (Exists.intro 0 (And.intro (Nat.le_refl _) (And.intro (Nat.le_refl _) (x_current hX hA ht ?_))))))
    rw [em]
    refine Exists.intro _ (And.intro e0 (Exists.intro 0 (Exists.intro 0 (And.intro (Nat.le_refl _) (And.intro (Nat.le_refl _) (x_countFitting hX hA hH ht hv hL hw hm (fun h1 y1 y2 => ?_)))))))
    have hP := hP h1 y1 y2
    unfold fits at hP
    rw [acF_len, List.length_nil, Nat.zero_add] at hP
    exact And.intro rfl (hP)
set_option maxHeartbeats 8000000 in
theorem x_next {l : Launch} {G : GG} {h : AH} {nx : Nat} {Post : Option Value → AH → Nat → Prop} {o w tl c t vb : Nat} {fp n : Int32} {da : Nat → Nat} {dd : Nat → DD} {L : List LE} (hX : XC G ∧ TX l G) (hA : XA h o w tl fp c (nI t) da dd) (hH : XH h w c da dd vb) (ht : t < c) (hv : vb + 400 < 2 ^ 31) (hL : XLg h w L) (hw : WLg L) (hP : ∀ h1 : AH, (∀ x, x < w + 43 ∨ (w + 52 ≤ x ∧ x ≠ w + 69) → h1 x = h x) → XH h1 w c da dd (vb + 133) → XLg h1 w L → Post (some (.int (aNext (dd t) L n))) h1 nx) : Runs l G i_X11_next 0 0 [.ref o, .int n] h nx Post := by
  obtain ⟨_, _, _, _, _, e0, _⟩ := id hL
  have hc := hA.2.2.1
  unfold aNext at hP
  refine en_X11_next hX [] 60 rfl ?_
  refine Exists.intro _ (And.intro hA.1 (Exists.intro _ (And.intro rfl ?_)))
  refine And.intro (fun cz => absurd cz ((nI_n2 (show t < 64 by omega)).2.2)) (fun _ => ?_)
  refine Exists.intro _ (And.intro hA.1 (Exists.intro _ (And.intro rfl ?_)))
  refine Exists.intro _ (And.intro e0 (Exists.intro 0 (Exists.intro 0 (And.intro (Nat.le_refl _) (And.intro (Nat.le_refl _) (x_isKnown hX hL ?_))))))
  cases c2 : knB L n with
  | false =>
    refine And.intro (fun cz => by first | exact absurd cz (by decide) | exact absurd (by decide) cz) (fun _ => ?_)
    rw [if_neg (by rw [c2]; decide)] at hP
    exact And.intro rfl ((hP h (fun _ _ => rfl) (hH.le (by omega)) hL))
  | true =>
    refine And.intro (fun _ => ?_) (fun cz => by first | exact absurd cz (by decide) | exact absurd (by decide) cz)
    obtain ⟨m, hm, em, ec⟩ := knB_c hw.1 c2
    rw [if_pos c2, ec] at hP
    refine Exists.intro _ (And.intro hA.1 (Exists.intro _ (And.intro rfl ?_)))
    refine Exists.intro _ (And.intro hA.1 (Exists.intro 0 (Exists.intro 0 (And.intro (Nat.le_refl _) (And.intro (Nat.le_refl _) (x_current hX hA ht ?_))))))
    rw [em]
    refine Exists.intro _ (And.intro e0 (Exists.intro 0 (Exists.intro 0 (And.intro (Nat.le_refl _) (And.intro (Nat.le_refl _) (x_bestRow hX hA hH ht hv hL hw hm (fun h1 y1 y2 y3 => ?_)))))))
    exact And.intro rfl ((hP h1 y1 y2 y3))
