/-! logs: what they are; x's side -/
/-- an entry: of (-1: a log; else the log that it voids), how many acts, these, the lamps -/
abbrev LE : Type := Int32 × Nat × Nat × Nat
def gE (L : List LE) (k : Nat) : LE := L.getD k (0, 0, 0, 0)
theorem gED {L : List LE} {k : Nat} (hk : k < L.length) : gE L k = L[k] := by unfold gE; rw [List.getD_eq_getElem?_getD, List.getElem?_eq_getElem hk]; rfl
theorem gE_l {L : List LE} {e : LE} {k : Nat} (hk : k < L.length) : gE (L ++ [e]) k = gE L k := by unfold gE; rw [List.getD_eq_getElem?_getD, List.getD_eq_getElem?_getD, List.getElem?_append_left hk]
theorem gE_r {L : List LE} {e : LE} : gE (L ++ [e]) L.length = e := by
  unfold gE
  rw [List.getD_eq_getElem?_getD, List.getElem?_append_right (Nat.le_refl _), Nat.sub_self]
  rfl
def WLg (L : List LE) : Prop := L.length ≤ 40 ∧ ∀ k, k < L.length → ((gE L k).1 = -1 ∧ (gE L k).2.1 ≤ 6 ∧ (gE L k).2.2.1 < 2 ^ 31 ∧ (gE L k).2.2.2 < 32) ∨ ∃ j, j < k ∧ (gE L k).1 = nI j
def vdB (L : List LE) (k n : Nat) : Bool := (List.range n).any (fun j => decide ((gE L j).1 = nI k))
/-- where so many acts lead, and what shows there -/
noncomputable def oW (q : HKy) : Nat → Nat → Nat → Int32 → Int32
  | 0, _, on, up => if up = -2 then -2 else nI (kSh q on up.toNatClampNeg >>> 6)
  | m + 1, r, on, up => if up = -2 then -2 else if r % 5 < dI (kD q) then oW q m (r / 5) (on ^^^ 2 ^ (r % 5)) (kSe q (on ^^^ 2 ^ (r % 5)) up.toNatClampNeg) else oW q m (r / 5) on up
noncomputable def outF (q : HKy) (n r : Nat) : Int32 := oW q n r 0 (kSe q 0 (kSu q))
noncomputable def fitL (q : HKy) (L : List LE) (n i : Nat) : Bool := !(decide ((gE L i).1 = -1) && !vdB L i n) || (decide (outF q (gE L i).2.1 (gE L i).2.2.1 = -2) || decide (outF q (gE L i).2.1 (gE L i).2.2.1 = nI (gE L i).2.2.2))
noncomputable def fitB (q : HKy) (L : List LE) (n : Nat) : Bool := (List.range n).all (fitL q L n)
theorem oW_c {q : HKy} : ∀ (m r on : Nat) (up : Int32), oW q m r on up = -2 ∨ ∃ v, v < 32 ∧ oW q m r on up = nI v
  | 0, r, on, up => by
    unfold oW
    split
    · exact Or.inl rfl
    · exact Or.inr ⟨_, by have := kSh_lt q on up.toNatClampNeg; rw [Nat.shiftRight_eq_div_pow]; omega, rfl⟩
  | m + 1, r, on, up => by
    unfold oW
    split
    · exact Or.inl rfl
    · split
      · exact oW_c m _ _ _
      · exact oW_c m _ _ _
/-- x's logs -/
def XLg (h : AH) (w : Nat) (L : List LE) : Prop := ∃ g1 g2 g3 g4 g6 : Nat → Int32, h (w + 64) = some (.inr (4, [.ref (w + 43), .ref (w + 65), .ref (w + 66), .ref (w + 67), .ref (w + 68), .int (nI L.length), .ref (w + 69)])) ∧ h (w + 65) = some (.inl (0, 40, .inl g1)) ∧ h (w + 66) = some (.inl (0, 40, .inl g2)) ∧ h (w + 67) = some (.inl (0, 40, .inl g3)) ∧ h (w + 68) = some (.inl (0, 40, .inl g4)) ∧ h (w + 69) = some (.inl (0, 1023, .inl g6)) ∧ ∀ k, k < L.length → g4 k = (gE L k).1 ∧ ((gE L k).1 = -1 → g1 k = nI (gE L k).2.1 ∧ g2 k = nI (gE L k).2.2.1 ∧ g3 k = nI (gE L k).2.2.2)
theorem XLg.ag {h h' : AH} {w : Nat} {L : List LE} (hX : XLg h w L) (hs : ∀ x, w + 64 ≤ x → x < w + 70 → h' x = h x) : XLg h' w L := by
  obtain ⟨g1, g2, g3, g4, g6, a, b, c, d, e, f, r⟩ := hX
  exact ⟨g1, g2, g3, g4, g6, (hs _ (by omega) (by omega)).trans a, (hs _ (by omega) (by omega)).trans b, (hs _ (by omega) (by omega)).trans c, (hs _ (by omega) (by omega)).trans d, (hs _ (by omega) (by omega)).trans e, (hs _ (by omega) (by omega)).trans f, r⟩
set_option maxHeartbeats 8000000 in
theorem x_addEntry {l : Launch} {G : GG} {h : AH} {nx : Nat} {Post : Option Value → AH → Nat → Prop} {w n1 n2 n3 : Nat} {a b c e : Int32} {L : List LE} (hX : XC G ∧ TX l G) (hL : XLg h w L) (hl : L.length < 40) (hw : WLg L) (he : e = -1 → a = nI n1 ∧ b = nI n2 ∧ c = nI n3) (hP : ∀ h1 : AH, (∀ x, x < w + 64 ∨ w + 70 ≤ x → h1 x = h x) → XLg h1 w (L ++ [(e, n1, n2, n3)]) → Post (some (.int (nI L.length))) h1 nx) : Runs l G i_X4_addEntry 0 0 [.ref (w + 64), .int a, .int b, .int c, .int e] h nx Post := by
  obtain ⟨g1, g2, g3, g4, g6, e0, e1, e2, e3, e4, e6, r⟩ := hL
  refine en_X4_addEntry hX [] 60 rfl ?_
  refine Exists.intro _ (And.intro e0 (Exists.intro _ (And.intro rfl ?_)))
  refine Exists.intro _ (And.intro e0 (Exists.intro _ (And.intro rfl ?_)))
  refine Exists.intro _ (Exists.intro _ (And.intro e1 (And.intro (vp_in_nI hl (by decide)) ?_)))
  rw [nI_clamp (show L.length < 2 ^ 31 by omega)]
  refine Exists.intro _ (And.intro ((uph_ne (by omega)).trans e0) (Exists.intro _ (And.intro rfl ?_)))
  refine Exists.intro _ (And.intro ((uph_ne (by omega)).trans e0) (Exists.intro _ (And.intro rfl ?_)))
  refine Exists.intro _ (Exists.intro _ (And.intro ((uph_ne (by omega)).trans e2) (And.intro (vp_in_nI hl (by decide)) ?_)))
  rw [nI_clamp (show L.length < 2 ^ 31 by omega)]
  refine Exists.intro _ (And.intro ((uph_ne (by omega)).trans ((uph_ne (by omega)).trans e0)) (Exists.intro _ (And.intro rfl ?_)))
  refine Exists.intro _ (And.intro ((uph_ne (by omega)).trans ((uph_ne (by omega)).trans e0)) (Exists.intro _ (And.intro rfl ?_)))
  refine Exists.intro _ (Exists.intro _ (And.intro ((uph_ne (by omega)).trans ((uph_ne (by omega)).trans e3)) (And.intro (vp_in_nI hl (by decide)) ?_)))
  rw [nI_clamp (show L.length < 2 ^ 31 by omega)]
  refine Exists.intro _ (And.intro ((uph_ne (by omega)).trans ((uph_ne (by omega)).trans ((uph_ne (by omega)).trans e0))) (Exists.intro _ (And.intro rfl ?_)))
  refine Exists.intro _ (And.intro ((uph_ne (by omega)).trans ((uph_ne (by omega)).trans ((uph_ne (by omega)).trans e0))) (Exists.intro _ (And.intro rfl ?_)))
  refine Exists.intro _ (Exists.intro _ (And.intro ((uph_ne (by omega)).trans ((uph_ne (by omega)).trans ((uph_ne (by omega)).trans e4))) (And.intro (vp_in_nI hl (by decide)) ?_)))
  rw [nI_clamp (show L.length < 2 ^ 31 by omega)]
  refine Exists.intro _ (And.intro ((uph_ne (by omega)).trans ((uph_ne (by omega)).trans ((uph_ne (by omega)).trans ((uph_ne (by omega)).trans e0)))) (Exists.intro _ (And.intro rfl ?_)))
  refine Exists.intro _ (And.intro ((uph_ne (by omega)).trans ((uph_ne (by omega)).trans ((uph_ne (by omega)).trans ((uph_ne (by omega)).trans e0)))) (And.intro (Nat.le_of_ble_eq_true rfl) (And.intro rfl (And.intro rfl ?_))))
  refine Exists.intro _ (And.intro uph_eq (Exists.intro _ (And.intro rfl ?_)))
  have hP2 := hP (uph (uph (uph (uph (uph h (w + 65) (.inl (0, 40, .inl (upd g1 L.length a)))) (w + 66) (.inl (0, 40, .inl (upd g2 L.length b)))) (w + 67) (.inl (0, 40, .inl (upd g3 L.length c)))) (w + 68) (.inl (0, 40, .inl (upd g4 L.length e)))) (w + 64) (.inr (4, [.ref (w + 43), .ref (w + 65), .ref (w + 66), .ref (w + 67), .ref (w + 68), .int (nI L.length + 1), .ref (w + 69)]))) (fun x hx => by rw [uph_ne (by omega), uph_ne (by omega), uph_ne (by omega), uph_ne (by omega), uph_ne (by omega)]) ⟨_, _, _, _, g6, by rw [List.length_append, List.length_singleton, nI_succ]; exact uph_eq, by rw [uph_ne (by omega), uph_ne (by omega), uph_ne (by omega), uph_ne (by omega)]; exact uph_eq, by rw [uph_ne (by omega), uph_ne (by omega), uph_ne (by omega)]; exact uph_eq, by rw [uph_ne (by omega), uph_ne (by omega)]; exact uph_eq, by rw [uph_ne (by omega)]; exact uph_eq, by rw [uph_ne (by omega), uph_ne (by omega), uph_ne (by omega), uph_ne (by omega), uph_ne (by omega)]; exact e6, fun k hk => by
    rw [List.length_append, List.length_singleton] at hk
    by_cases ek : k = L.length
    · rw [ek, gE_r, pk_us, pk_us, pk_us, pk_us]
      exact ⟨rfl, he⟩
    · rw [gE_l (by omega), pk_un ek, pk_un ek, pk_un ek, pk_un ek]
      exact r k (by omega)⟩
  have e9 : nI L.length + 1 - 1 = nI L.length := by rw [← nI_succ, nI_pred]
  refine And.intro rfl ?_
  show Post (some (.int (nI L.length + 1 - 1))) _ nx
  rw [e9]
  exact hP2
def knB (L : List LE) (n : Int32) : Bool := decide (0 ≤ n) && decide (n ≤ nI L.length)
set_option maxHeartbeats 8000000 in
theorem x_isKnown {l : Launch} {G : GG} {h : AH} {nx : Nat} {Post : Option Value → AH → Nat → Prop} {w : Nat} {n : Int32} {L : List LE} (hX : XC G ∧ TX l G) (hL : XLg h w L) (hP : Post (some (.int (nI (knB L n).toNat))) h nx) : Runs l G i_X4_isKnown 0 0 [.ref (w + 64), .int n] h nx Post := by
  obtain ⟨g1, g2, g3, g4, g6, e0, _⟩ := hL
  refine en_X4_isKnown hX [] 20 rfl ?_
  unfold knB at hP
  by_cases c1 : n < 0
  · refine And.intro (fun _ => ?_) (fun cz => absurd (c1) cz)
    rw [decide_eq_false (Int32.not_le.mpr c1), Bool.false_and] at hP
    exact And.intro rfl (hP)
  · refine And.intro (fun cz => absurd cz (c1)) (fun _ => ?_)
    rw [decide_eq_true (Int32.not_lt.mp c1), Bool.true_and] at hP
    refine Exists.intro _ (And.intro e0 (Exists.intro _ (And.intro rfl ?_)))
    by_cases c2 : n ≤ nI L.length
    · refine And.intro (fun cz => absurd cz (Int32.not_lt.mpr c2)) (fun _ => ?_)
      rw [decide_eq_true c2] at hP
      exact And.intro rfl (hP)
    · refine And.intro (fun _ => ?_) (fun cz => absurd (Int32.not_le.mp c2) cz)
      rw [decide_eq_false c2] at hP
      exact And.intro rfl (hP)
set_option maxHeartbeats 8000000 in
theorem x_isVoid {l : Launch} {G : GG} {h : AH} {nx : Nat} {Post : Option Value → AH → Nat → Prop} {w k n : Nat} {L : List LE} (hX : XC G ∧ TX l G) (hL : XLg h w L) (hw : WLg L) (hn : n ≤ L.length) (hP : Post (some (.int (nI (vdB L k n).toNat))) h nx) : Runs l G i_X4_isVoid 0 0 [.ref (w + 64), .int (nI k), .int (nI n)] h nx Post := by
  have h40 := hw.1
  obtain ⟨g1, g2, g3, g4, g6, e0, e1, e2, e3, e4, e6, r⟩ := hL
  have loop : ∀ (m i : Nat), i + m = n → (∀ j, j < i → (gE L j).1 ≠ nI k) → Go l G 4 s_X4_isVoid 0 0 Post 2 [(3, .int (nI i)), (0, .ref (w + 64)), (1, .int (nI k)), (2, .int (nI n))] [] h nx 0 0 := by
    intro m
    induction m with
    | zero =>
      intro i hi hno
      have e : i = n := by omega
      subst e
      refine Go.of hX.2 ck_X4_isVoid [2] 20 ?_
      refine And.intro (fun _ => ?_) (fun cz => absurd (nI_le (Nat.le_refl _) (by omega)) cz)
      have ev : vdB L k i = false := by
        unfold vdB
        rw [List.any_eq_false]
        intro j hj
        rw [decide_eq_false (hno j (List.mem_range.mp hj))]
        decide
      rw [ev] at hP
      exact And.intro rfl (hP)
    | succ m ih =>
      intro i hi hno
      have hil : i < L.length := by omega
      refine Go.of hX.2 ck_X4_isVoid [2] 40 ?_
      refine And.intro (fun cz => absurd cz (nI_ge (a := i) (b := n) (by omega) (by omega))) (fun _ => ?_)
      refine Exists.intro _ (And.intro e0 (Exists.intro _ (And.intro rfl ?_)))
      refine And.intro (fun cz => absurd cz (nI_ge (a := i) (b := L.length) hil (by omega))) (fun _ => ?_)
      refine And.intro (fun cz => absurd cz (nI_ge (a := i) (b := 40) (by omega) (by decide))) (fun _ => ?_)
      refine Exists.intro _ (And.intro e0 (Exists.intro _ (And.intro rfl ?_)))
      refine Exists.intro _ (Exists.intro _ (And.intro e4 (And.intro (vp_in_nI (by omega) (by decide)) ?_)))
      rw [nI_clamp (show i < 2 ^ 31 by omega), (r i hil).1]
      by_cases c : (gE L i).1 = nI k
      · refine And.intro (fun cz => absurd (c) cz) (fun _ => ?_)
        have ev : vdB L k n = true := by
          unfold vdB
          rw [List.any_eq_true]
          exact ⟨i, List.mem_range.mpr (by omega), decide_eq_true c⟩
        rw [ev] at hP
        exact And.intro rfl (hP)
      · refine And.intro (fun _ => ?_) (fun cz => absurd cz (c))
        refine go_loc (lv' := [(3, .int (nI i + 1)), (0, .ref (w + 64)), (1, .int (nI k)), (2, .int (nI n))]) ⟨rfl, rfl, rfl, rfl, trivial⟩ ?_
        rw [← nI_succ]
        exact ih (i + 1) (by omega) (fun j hj => by
          by_cases e : j = i
          · rw [e]; exact c
          · exact hno j (by omega))
  refine en_X4_isVoid hX [2] 20 rfl ?_
  exact go_loc (lv' := [(3, .int (nI 0)), (0, .ref (w + 64)), (1, .int (nI k)), (2, .int (nI n))]) ⟨rfl, rfl, rfl, rfl, trivial⟩ (loop n 0 (Nat.zero_add _) (fun j hj => absurd hj (Nat.not_lt_zero j)))
set_option maxHeartbeats 8000000 in
theorem x_outcome {l : Launch} {G : GG} {h : AH} {nx : Nat} {Post : Option Value → AH → Nat → Prop} {w a ver n r : Nat} {q : HKy} {L : List LE} (hX : XC G ∧ TX l G) (hL : XLg h w L) (hH : HTx h (w + 43) a a q ver) (hq : WK q) (hD : XD h a (kD q)) (hE : kE q = kD q) (ha : w + 137 ≤ a) (hn : n < 2 ^ 31) (hr : r < 2 ^ 31) (hP : ∀ h1 : AH, (∀ x, x ≤ w + 43 ∨ w + 48 ≤ x → h1 x = h x) → HTx h1 (w + 43) a a q ver → Post (some (.int (outF q n r))) h1 nx) : Runs l G i_X4_outcome 0 0 [.ref (w + 64), .int (nI n), .int (nI r)] h nx Post := by
  have hpr := hq.1.pr
  have hpi := hq.1.pi
  have hi5 := hq.1.i
  have start : ∀ (h1 : AH) (on s : Nat) {Q : Option Value → AH → Nat → Prop}, HTx h1 (w + 43) a a q ver → XD h1 a (kD q) → on < 2 ^ dI (kD q) → s < 2 ^ dR (kD q) → (∀ h2 : AH, (∀ x, x ≤ w + 43 ∨ w + 48 ≤ x → h2 x = h1 x) → HTx h2 (w + 43) a a q ver → Q (some (.int (kSe q on (kPl q s)))) h2 nx) → Runs l G i_X3_settle 0 0 [.ref (w + 43), .int (nI on), .int (nI s)] h1 nx Q := by
    intro h1 on s Q H1 D1 hon hs hQ
    refine x_settle (bb := s) hX H1 hq D1 (by rw [hE]; exact D1) (by unfold awy; omega) (by unfold awy; omega) hon (by omega) (by rw [Nat.mod_eq_of_lt (by omega)]; exact hs) (fun h2 y1 y2 => ?_)
    rw [Nat.mod_eq_of_lt (show s < 64 by omega)]
    exact hQ h2 (fun x hx => y1 x (by omega)) y2
  have fld : ∀ {h1 : AH}, (∀ x, x ≤ w + 43 ∨ w + 48 ≤ x → h1 x = h x) → XLg h1 w L ∧ XD h1 a (kD q) := fun hs => ⟨hL.ag (fun x _ _ => hs x (by omega)), hD.ag (fun x _ => hs x (by omega))⟩
  have loop : ∀ (m i on r2 : Nat) (up : Int32) (h1 : AH), i + m = n → on < 2 ^ dI (kD q) → (up = -2 ∨ ∃ s, s < 2 ^ dR (kD q) ∧ up = nI s ∧ kOk q s) → r2 < 2 ^ 31 → (∀ x, x ≤ w + 43 ∨ w + 48 ≤ x → h1 x = h x) → HTx h1 (w + 43) a a q ver → outF q n r = oW q m r2 on up → Go l G 4 s_X4_outcome 0 0 Post 19 [(6, .int (nI i)), (5, .int (nI r2)), (4, .int up), (3, .int (nI on)), (0, .ref (w + 64)), (1, .int (nI n))] [] h1 nx 0 0 := by
    intro m
    have tail : ∀ (on : Nat) (up : Int32) (h1 : AH) (lv : LV), on < 2 ^ dI (kD q) → (up = -2 ∨ ∃ s, s < 2 ^ dR (kD q) ∧ up = nI s ∧ kOk q s) → (∀ x, x ≤ w + 43 ∨ w + 48 ≤ x → h1 x = h x) → HTx h1 (w + 43) a a q ver → outF q n r = (if up = -2 then -2 else nI (kSh q on up.toNatClampNeg >>> 6)) → lk lv 4 = some (.int up) → lk lv 3 = some (.int (nI on)) → lk lv 0 = some (.ref (w + 64)) → Go l G 4 s_X4_outcome 0 0 Post 79 lv [] h1 nx 0 0 := by
      intro on up h1 lv hon hup hs H1 ho l4 l3 l0
      have hP := hP h1 hs H1
      rw [ho] at hP
      refine go_loc (lv' := [(4, .int up), (3, .int (nI on)), (0, .ref (w + 64))]) ⟨l4, l3, l0, trivial⟩ ?_
      refine Go.of hX.2 ck_X4_outcome [] 30 ?_
      rcases hup with rfl | ⟨s, hs1, rfl, hk⟩
      · refine And.intro (fun cz => absurd cz (show ¬ (0 : Int32) ≤ -2 from by decide)) (fun _ => ?_)
        rw [if_pos rfl] at hP
        exact And.intro rfl (hP)
      · refine And.intro (fun _ => ?_) (fun cz => absurd (nI_pos' (by omega)) cz)
        obtain ⟨L1, D1⟩ := fld hs
        obtain ⟨_, _, _, _, _, e0, _⟩ := L1
        obtain ⟨_, _, _, _, _, u0, _⟩ := id H1
        rw [if_neg (nI_n2 (show s < 64 by omega)).1, nI_clamp (by omega)] at hP
        refine Exists.intro _ (And.intro e0 (Exists.intro _ (And.intro rfl ?_)))
        refine Exists.intro _ (And.intro u0 (Exists.intro 0 (Exists.intro 0 (And.intro (Nat.le_refl _) (And.intro (Nat.le_refl _) (x_lampsAt hX H1 hq D1 (by rw [hE]; exact D1) hon (by omega) ?_))))))
        exact And.intro rfl (hP)
    induction m with
    | zero =>
      intro i on r2 up h1 hi hon hup hr2 hs H1 ho
      refine Go.of hX.2 ck_X4_outcome [79] 20 ?_
      refine And.intro (fun _ => ?_) (fun cz => absurd (nI_le (a := n) (b := i) (by omega) (by omega)) cz)
      exact tail on up h1 _ hon hup hs H1 ho rfl rfl rfl
    | succ m ih =>
      intro i on r2 up h1 hi hon hup hr2 hs H1 ho
      unfold oW at ho
      refine Go.of hX.2 ck_X4_outcome [19, 79] 60 ?_
      refine And.intro (fun cz => absurd cz (nI_ge (a := i) (b := n) (by omega) (by omega))) (fun _ => ?_)
      rcases hup with rfl | ⟨s, hs1, rfl, hk⟩
      · refine And.intro (fun _ => ?_) (fun cz => by first | exact absurd cz (by decide) | exact absurd (by decide) cz)
        exact tail on (-2) h1 _ hon (Or.inl rfl) hs H1 (by rw [ho]; rfl) rfl rfl rfl
      · refine And.intro (fun cz => absurd cz (nI_pos (by omega))) (fun _ => ?_)
        rw [if_neg (nI_n2 (show s < 64 by omega)).1, nI_clamp (by omega)] at ho
        have er : nI r2 - nI r2 / 5 * 5 = nI (r2 % 5) := pk_rem (d := 5) hr2 (by decide) (by decide)
        have ed : nI r2 / 5 = nI (r2 / 5) := pk_div (d := 5) hr2 (by decide) (by decide)
        obtain ⟨L1, D1⟩ := fld hs
        obtain ⟨_, _, _, _, _, e0, _⟩ := L1
        obtain ⟨_, _, _, _, _, u0, _⟩ := id H1
        refine And.intro (by decide) ?_
        refine And.intro (by decide) ?_
        refine Exists.intro _ (And.intro e0 (Exists.intro _ (And.intro rfl ?_)))
        refine Exists.intro _ (And.intro u0 (Exists.intro 0 (Exists.intro 0 (And.intro (Nat.le_refl _) (And.intro (Nat.le_refl _) (x_inputCount hX H1 D1 ?_))))))
        by_cases c1 : r2 % 5 < dI (kD q)
        · rw [if_pos c1] at ho
          refine And.intro (fun cz => absurd cz (show ¬ nI (dI (kD q)) ≤ nI r2 - nI r2 / 5 * 5 from by rw [er]; exact nI_ge c1 (by omega))) (fun _ => ?_)
          have hon2 := xor_pow_lt hon c1
          have e1 : nI on ^^^ ((1 : Int32) <<< ((nI r2 - nI r2 / 5 * 5) &&& 31)) = nI (on ^^^ 2 ^ (r2 % 5)) := by rw [er, nx_pow (by omega), nx_xor]
          refine Exists.intro _ (And.intro e0 (Exists.intro _ (And.intro rfl ?_)))
          refine Exists.intro _ (And.intro u0 (Exists.intro 0 (Exists.intro 0 (And.intro (Nat.le_refl _) (And.intro (Nat.le_refl _) ?_)))))
          rw [e1]
          refine start h1 _ s H1 D1 hon2 hs1 (fun h2 y1 y2 => ?_)
          rw [kPl_id hk]
          refine go_loc (lv' := [(6, .int (nI i + 1)), (5, .int (nI r2 / 5)), (4, .int (kSe q (on ^^^ 2 ^ (r2 % 5)) s)), (3, .int (nI (on ^^^ 2 ^ (r2 % 5)))), (0, .ref (w + 64)), (1, .int (nI n))]) ⟨rfl, rfl, rfl, rfl, rfl, rfl, trivial⟩ ?_
          rw [ed, ← nI_succ]
          refine ih (i + 1) _ _ _ h2 (by omega) hon2 ?_ (by omega) (fun x hx => (y1 x hx).trans (hs x hx)) y2 ho
          rcases kSe_c hq (on := on ^^^ 2 ^ (r2 % 5)) hs1 with e | ⟨t, a1, e, cc⟩
          · exact Or.inl e
          · exact Or.inr ⟨t, a1, e, cc hk⟩
        · rw [if_neg c1] at ho
          refine And.intro (fun _ => ?_) (fun cz => absurd (show nI (dI (kD q)) ≤ nI r2 - nI r2 / 5 * 5 from by rw [er]; exact nI_le (by omega) (by omega)) cz)
          refine go_loc (lv' := [(6, .int (nI i + 1)), (5, .int (nI r2 / 5)), (4, .int (nI s)), (3, .int (nI on)), (0, .ref (w + 64)), (1, .int (nI n))]) ⟨rfl, rfl, rfl, rfl, rfl, rfl, trivial⟩ ?_
          rw [ed, ← nI_succ]
          exact ih (i + 1) on _ _ h1 (by omega) hon (Or.inr ⟨s, hs1, rfl, hk⟩) (by omega) hs H1 ho
  obtain ⟨_, _, _, _, _, e0, _⟩ := id hL
  obtain ⟨_, _, _, _, _, u0, _⟩ := id hH
  refine en_X4_outcome hX [19] 40 rfl ?_
  refine Exists.intro _ (And.intro e0 (Exists.intro _ (And.intro rfl ?_)))
  refine Exists.intro _ (And.intro u0 (Exists.intro 0 (Exists.intro 0 (And.intro (Nat.le_refl _) (And.intro (Nat.le_refl _) (start h 0 0 hH hD (Nat.two_pow_pos _) (Nat.two_pow_pos _) (fun h2 y1 y2 => ?_)))))))
  rw [show kPl q 0 = kSu q from plc_0]
  refine go_loc (lv' := [(6, .int (nI 0)), (5, .int (nI r)), (4, .int (kSe q 0 (kSu q))), (3, .int (nI 0)), (0, .ref (w + 64)), (1, .int (nI n))]) ⟨rfl, rfl, rfl, rfl, rfl, rfl, trivial⟩ ?_
  refine loop n 0 0 r _ h2 (Nat.zero_add _) (Nat.two_pow_pos _) ?_ hr y1 y2 rfl
  rcases kSe_c hq (on := 0) (kSt_up hq).2 with e | ⟨t, a1, e, cc⟩
  · exact Or.inl e
  · exact Or.inr ⟨t, a1, e, cc kOk_su⟩
set_option maxHeartbeats 8000000 in
theorem x_isFitting {l : Launch} {G : GG} {h : AH} {nx : Nat} {Post : Option Value → AH → Nat → Prop} {o w tl c t vb n : Nat} {fp ah : Int32} {da : Nat → Nat} {dd : Nat → DD} {f : Option Nat} {L : List LE} (hX : XC G ∧ TX l G) (hA : XA h o w tl fp c ah da dd) (hH : XH h w c da dd vb) (ht : t < c) (hf : okW (dd t) f) (hv : vb + 1 < 2 ^ 31) (hL : XLg h w L) (hw : WLg L) (hn : n ≤ L.length) (hP : ∀ (h1 : AH) (ver : Nat), (∀ x, x < w + 43 ∨ w + 52 ≤ x → h1 x = h x) → HTx h1 (w + 43) (da t) (da t) (kOne (dd t) f none) ver → SVx h1 (w + 48) (w + 43) (kOne (dd t) f none) ver → ver ≤ vb + 1 → Post (some (.int (nI (fitB (kOne (dd t) f none) L n).toNat))) h1 nx) : Runs l G i_X4_isFitting 0 0 [.ref (w + 64), .ref (da t), .int (flI f), .int (nI n)] h nx Post := by
  have h40 := hw.1
  have hdt : isDr w c da dd (da t) (dd t) := Or.inr ⟨t, ht, rfl, rfl⟩
  have hlo : w + 137 ≤ da t := (hA.2.2.2.2.1 t ht).2.2
  have hwd := (hdt.xd hA).2.1
  have hq : WK (kOne (dd t) f none) := WK_one hwd hf okW_no
  refine en_X4_isFitting hX [13] 40 rfl ?_
  obtain ⟨_, _, _, _, _, e0, _⟩ := id hL
  obtain ⟨_, _, _, _, ⟨_, _, _, _, _, u0, _⟩, _⟩ := id hH
  refine Exists.intro _ (And.intro e0 (Exists.intro _ (And.intro rfl ?_)))
  refine Exists.intro _ (And.intro u0 (Exists.intro 0 (Exists.intro 0 (And.intro (Nat.le_refl _) (And.intro (Nat.le_refl _) (x_prepDr (f := f) (g := none) hX hA hH ht hf okW_no hv (fun h1 ver y1 y2 y3 y4 => ?_)))))))
  have loop : ∀ (m i : Nat) (h2 : AH), i + m = n → (∀ x, x < w + 43 ∨ (w + 48 ≤ x) → h2 x = h1 x) → HTx h2 (w + 43) (da t) (da t) (kOne (dd t) f none) ver → (∀ j, j < i → fitL (kOne (dd t) f none) L n j = true) → Go l G 4 s_X4_isFitting 0 0 Post 13 [(4, .int (nI i)), (0, .ref (w + 64)), (1, .ref (da t)), (3, .int (nI n))] [] h2 nx 0 0 := by
    intro m
    induction m with
    | zero =>
      intro i h2 hi hs H2 hall
      have e : i = n := by omega
      subst e
      refine Go.of hX.2 ck_X4_isFitting [13] 20 ?_
      refine And.intro (fun _ => ?_) (fun cz => absurd (nI_le (Nat.le_refl _) (by omega)) cz)
      have hP := hP h2 ver (fun x hx => (hs x (by omega)).trans (y1 x (by omega))) H2 (y3.ag (fun x _ _ => hs x (by omega))) y4
      rw [show fitB (kOne (dd t) f none) L i = true from by unfold fitB; rw [List.all_eq_true]; exact fun j hj => hall j (List.mem_range.mp hj)] at hP
      exact And.intro rfl (hP)
    | succ m ih =>
      intro i h2 hi hs H2 hall
      have hil : i < L.length := by omega
      have L2 : XLg h2 w L := hL.ag (fun x _ _ => (hs x (by omega)).trans (y1 x (by omega)))
      have D2 : XD h2 (da t) (dd t) := (hdt.xd hA).1.ag (fun x _ => (hs x (by omega)).trans (y1 x (by omega)))
      obtain ⟨g1, g2, g3, g4, g6, e0, e1, e2, e3, e4, e6, r⟩ := id L2
      have next : fitL (kOne (dd t) f none) L n i = true → ∀ (h3 : AH) (lv : LV), (∀ x, x < w + 43 ∨ (w + 48 ≤ x) → h3 x = h1 x) → HTx h3 (w + 43) (da t) (da t) (kOne (dd t) f none) ver → lk lv 4 = some (.int (nI i)) → lk lv 0 = some (.ref (w + 64)) → lk lv 1 = some (.ref (da t)) → lk lv 3 = some (.int (nI n)) → Go l G 4 s_X4_isFitting 0 0 Post 97 lv [] h3 nx 0 0 := by
        intro hfi h3 lv s3 H3 l4 l0 l1 l3
        refine go_loc (lv' := [(4, .int (nI i)), (0, .ref (w + 64)), (1, .ref (da t)), (3, .int (nI n))]) ⟨l4, l0, l1, l3, trivial⟩ ?_
        refine Go.of hX.2 ck_X4_isFitting [13] 20 ?_
        refine go_loc (lv' := [(4, .int (nI i + 1)), (0, .ref (w + 64)), (1, .ref (da t)), (3, .int (nI n))]) ⟨rfl, rfl, rfl, rfl, trivial⟩ ?_
        rw [← nI_succ]
        exact ih (i + 1) h3 (by omega) s3 H3 (fun j hj => by
          by_cases e : j = i
          · rw [e]; exact hfi
          · exact hall j (by omega))
      refine Go.of hX.2 ck_X4_isFitting [13, 97] 60 ?_
      refine And.intro (fun cz => absurd cz (nI_ge (a := i) (b := n) (by omega) (by omega))) (fun _ => ?_)
      refine Exists.intro _ (And.intro e0 (Exists.intro _ (And.intro rfl ?_)))
      refine And.intro (fun cz => absurd cz (nI_ge (a := i) (b := L.length) hil (by omega))) (fun _ => ?_)
      refine And.intro (fun cz => absurd cz (nI_ge (a := i) (b := 40) (by omega) (by decide))) (fun _ => ?_)
      refine Exists.intro _ (And.intro e0 (Exists.intro _ (And.intro rfl ?_)))
      refine Exists.intro _ (Exists.intro _ (And.intro e4 (And.intro (vp_in_nI (by omega) (by decide)) ?_)))
      rw [nI_clamp (show i < 2 ^ 31 by omega), (r i hil).1]
      by_cases c1 : (gE L i).1 = -1
      · refine And.intro (fun cz => absurd (c1) cz) (fun _ => ?_)
        refine Exists.intro _ (And.intro e0 (Exists.intro 0 (Exists.intro 0 (And.intro (Nat.le_refl _) (And.intro (Nat.le_refl _) (x_isVoid hX L2 hw hn ?_))))))
        cases cv : vdB L i n with
        | true =>
          refine And.intro (fun _ => ?_) (fun cz => by first | exact absurd cz (by decide) | exact absurd (by decide) cz)
          exact next (by unfold fitL; rw [cv]; simp) h2 _ hs H2 rfl rfl rfl rfl
        | false =>
          refine And.intro (fun cz => by first | exact absurd cz (by decide) | exact absurd (by decide) cz) (fun _ => ?_)
          obtain ⟨r1, r2, r3⟩ := (r i hil).2 c1
          have hwi := (hw.2 i hil).resolve_right (fun ⟨j, hj, ej⟩ => by
            rw [c1] at ej
            exact absurd (show nI j < 0 from ej ▸ (by decide)) (nI_pos (by omega)))
          refine Exists.intro _ (And.intro e0 (Exists.intro _ (And.intro rfl ?_)))
          refine Exists.intro _ (Exists.intro _ (And.intro e1 (And.intro (vp_in_nI (by omega) (by decide)) ?_)))
          rw [nI_clamp (show i < 2 ^ 31 by omega), r1]
          refine Exists.intro _ (And.intro e0 (Exists.intro _ (And.intro rfl ?_)))
          refine Exists.intro _ (Exists.intro _ (And.intro e2 (And.intro (vp_in_nI (by omega) (by decide)) ?_)))
          rw [nI_clamp (show i < 2 ^ 31 by omega), r2]
          refine Exists.intro _ (And.intro e0 (Exists.intro 0 (Exists.intro 0 (And.intro (Nat.le_refl _) (And.intro (Nat.le_refl _) (x_outcome hX L2 H2 hq D2 rfl hlo (by omega) hwi.2.2.1 (fun h3 z1 z2 => ?_)))))))
          have s3 : ∀ x, x < w + 43 ∨ (w + 48 ≤ x) → h3 x = h1 x := fun x hx => (z1 x (by omega)).trans (hs x hx)
          have ho := oW_c (q := kOne (dd t) f none) (gE L i).2.1 (gE L i).2.2.1 0 (kSe (kOne (dd t) f none) 0 (kSu (kOne (dd t) f none)))
          by_cases c2 : outF (kOne (dd t) f none) (gE L i).2.1 (gE L i).2.2.1 = -2
          · refine And.intro (fun _ => ?_) (fun cz => absurd (c2) cz)
            exact next (by unfold fitL; rw [decide_eq_true c2]; simp) h3 _ s3 z2 rfl rfl rfl rfl
          · refine And.intro (fun cz => absurd cz (c2)) (fun _ => ?_)
            refine Exists.intro _ (And.intro ((z1 (w + 64) (by omega)).trans e0) (Exists.intro _ (And.intro rfl ?_)))
            refine Exists.intro _ (Exists.intro _ (And.intro ((z1 (w + 67) (by omega)).trans e3) (And.intro (vp_in_nI (by omega) (by decide)) ?_)))
            rw [nI_clamp (show i < 2 ^ 31 by omega), r3]
            by_cases c3 : outF (kOne (dd t) f none) (gE L i).2.1 (gE L i).2.2.1 = nI (gE L i).2.2.2
            · refine And.intro (fun _ => ?_) (fun cz => absurd (c3) cz)
              exact next (by unfold fitL; rw [decide_eq_true c3]; simp) h3 _ s3 z2 rfl rfl rfl rfl
            · refine And.intro (fun cz => absurd cz (c3)) (fun _ => ?_)
              have hP := hP h3 ver (fun x hx => (s3 x (by omega)).trans (y1 x (by omega))) z2 (y3.ag (fun x _ _ => s3 x (by omega))) y4
              have hno : fitL (kOne (dd t) f none) L n i = false := by
                unfold fitL
                rw [decide_eq_true c1, cv, decide_eq_false c2, decide_eq_false c3]
                rfl
              rw [show fitB (kOne (dd t) f none) L n = false from by
                unfold fitB
                rw [List.all_eq_false]
                exact ⟨i, List.mem_range.mpr (by omega), by rw [hno]; decide⟩] at hP
              exact And.intro rfl (hP)
      · refine And.intro (fun _ => ?_) (fun cz => absurd cz (c1))
        exact next (by unfold fitL; rw [decide_eq_false c1]; rfl) h2 _ hs H2 rfl rfl rfl rfl
  refine go_loc (lv' := [(4, .int (nI 0)), (0, .ref (w + 64)), (1, .ref (da t)), (3, .int (nI n))]) ⟨rfl, rfl, rfl, rfl, trivial⟩ ?_
  exact loop n 0 h1 (Nat.zero_add _) (fun _ _ => rfl) y2 (fun j hj => absurd hj (Nat.not_lt_zero j))
