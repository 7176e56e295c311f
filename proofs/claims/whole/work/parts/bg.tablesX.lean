/-! x's tables of a drawing; its nevers -/
theorem i2b_c : ∀ m, m < 32 → (nI m).toInt8.toInt32 = nI m ∧ vp_nar (TY 2) (nI m) = nI m := by decide +kernel
set_option maxHeartbeats 8000000 in
theorem x_fillTables {l : Launch} {G : GG} {h : AH} {nx : Nat} {Post : Option Value → AH → Nat → Prop} {w b K : Nat} {vr : Nat → Nat} {iv : Nat → Bool} {gv gb gi wc wo gc go ge : Nat → Int32} (hX : XC G ∧ TX l G) (hw : h w = some (.inr (10, wiF b 40))) (hR : wiR h b 40 gv gb gi wc wo gc go ge) (hi : h (b + 4) = some (.inl (1, 32, .inr (.inl (fun _ => 0))))) (hr : h (b + 5) = some (.inl (1, 64, .inr (.inl (fun _ => 0))))) (hK : K ≤ 40) (hv : ∀ k, k < K → gv k = nI (vr k) ∧ vr k < 11 ∧ gi k = nI (iv k).toNat) (hwb : w < b ∨ b + 11 ≤ w) (hP : ∀ (h1 : AH) (gI gR : Nat → Int64), (∀ x, x ≠ b + 4 → x ≠ b + 5 → h1 x = h x) → h1 (b + 4) = some (.inl (1, 32, .inr (.inl gI))) → h1 (b + 5) = some (.inl (1, 64, .inr (.inl gR))) → (∀ x j, x < 32 → j < 64 → bl (gI x) j = (decide (j < K) && (decide (6 ≤ vr j) && ((64 * x).testBit (vr j) ^^ iv j)))) → (∀ x j, x < 64 → j < 64 → bl (gR x) j = (decide (j < K) && (decide (vr j < 6) && (x.testBit (vr j) ^^ iv j)))) → Post none h1 nx) : Runs l G i_X10_fillTables 0 0 [.ref w, .int (nI K)] h nx Post := by
  have inner : ∀ (k T M : Nat) (fl : Bool) (h0 : AH) (g0 : Nat → Int64), k < K → (T = b + 4 ∨ T = b + 5) → M < 100 → (∀ x, x ≠ b + 4 → x ≠ b + 5 → h0 x = h x) → h0 T = some (.inl (1, M, .inr (.inl g0))) → (∀ x, x < M → bl (g0 x) k = false) → (fl = decide (vr k < 6)) → (∀ (h1 : AH) (g : Nat → Int64), (∀ x, x ≠ T → h1 x = h0 x) → h1 T = some (.inl (1, M, .inr (.inl g))) → (∀ x j, x < M → j < 64 → bl (g x) j = if j = k then ((if fl = true then x else 64 * x).testBit (vr k) ^^ iv k) else bl (g0 x) j) → Go l G 10 s_X10_fillTables 0 0 Post 99 [(2, .int (nI k)), (0, .ref w), (1, .int (nI K))] [] h1 nx 0 0) → ∀ (r i : Nat) (h1 : AH) (g : Nat → Int64), i + r = M → (∀ x, x ≠ T → h1 x = h0 x) → h1 T = some (.inl (1, M, .inr (.inl g))) → (∀ x j, x < M → j < 64 → bl (g x) j = if j = k then (decide (x < i) && ((if fl = true then x else 64 * x).testBit (vr k) ^^ iv k)) else bl (g0 x) j) → Go l G 10 s_X10_fillTables 0 0 Post 52 [(5, .int (nI i)), (4, .ref T), (3, .int (nI fl.toNat)), (2, .int (nI k)), (0, .ref w), (1, .int (nI K))] [] h1 nx 0 0 := by
    intro k T M fl h0 g0 hk hT hM f0 e0 z0 hfl hQ r
    induction r with
    | zero =>
      intro i h1 g hi2 f1 e1 p1
      have ei : i = M := by omega
      subst ei
      refine Go.of hX.2 ck_X10_fillTables [99] 20 ?_
      refine Exists.intro _ (Exists.intro _ (And.intro e1 (And.intro (by decide) ?_)))
      refine And.intro (fun _ => ?_) (fun cz => absurd ((show nI i ≤ nI i from Int32.le_refl _)) cz)
      refine go_loc (lv' := [(2, .int (nI k)), (0, .ref w), (1, .int (nI K))]) ⟨rfl, rfl, rfl, trivial⟩ ?_
      refine hQ h1 g f1 e1 (fun x j hx hj => ?_)
      rw [p1 x j hx hj, decide_eq_true hx, Bool.true_and]
    | succ r ih =>
      intro i h1 g hi2 f1 e1 p1
      have hall : ∀ x, x < b + 4 ∨ b + 6 ≤ x → h1 x = h x := fun x hx => (f1 x (by omega)).trans (f0 x (by omega) (by omega))
      have hw1 := (hall w (by omega)).trans hw
      have hR1 : wiR h1 b 40 gv gb gi wc wo gc go ge := by
        obtain ⟨r6, r7, r8, r9, r10, r0, r1, r2⟩ := hR
        exact ⟨(hall _ (by omega)).trans r6, (hall _ (by omega)).trans r7, (hall _ (by omega)).trans r8, (hall _ (by omega)).trans r9, (hall _ (by omega)).trans r10, (hall _ (by omega)).trans r0, (hall _ (by omega)).trans r1, (hall _ (by omega)).trans r2⟩
      obtain ⟨v1, v2, v3⟩ := hv k hk
      have wdl : (if fl = true then i else 64 * i) < 2 ^ 30 := by split <;> omega
      have nxt : ∀ (h2 : AH) (g' : Nat → Int64), (∀ x, x ≠ T → h2 x = h0 x) → h2 T = some (.inl (1, M, .inr (.inl g'))) → (∀ x j, x < M → j < 64 → bl (g' x) j = if j = k then (decide (x < i + 1) && ((if fl = true then x else 64 * x).testBit (vr k) ^^ iv k)) else bl (g0 x) j) → Go l G 10 s_X10_fillTables 0 0 Post 93 [(5, .int (nI i)), (4, .ref T), (3, .int (nI fl.toNat)), (2, .int (nI k)), (0, .ref w), (1, .int (nI K))] [] h2 nx 0 0 := by
        intro h2 g' y1 y2 y3
        have := ih (i + 1) h2 g' (by omega) y1 y2 y3
        rw [nI_succ] at this
        refine Go.of hX.2 ck_X10_fillTables [52] 5 ?_
        exact go_loc (lv' := [(5, .int (nI i + 1)), (4, .ref T), (3, .int (nI fl.toNat)), (2, .int (nI k)), (0, .ref w), (1, .int (nI K))]) ⟨rfl, rfl, rfl, rfl, rfl, rfl, trivial⟩ (this)
      have body : ∀ Q : Prop, ((((if fl = true then i else 64 * i).testBit (vr k) ^^ iv k) = false → Q) ∧ (((if fl = true then i else 64 * i).testBit (vr k) ^^ iv k) = true → Q)) → Q := fun Q hq => by
        cases hh : ((if fl = true then i else 64 * i).testBit (vr k) ^^ iv k) with
        | false => exact hq.1 hh
        | true => exact hq.2 hh
      have sm0 : ((if fl = true then i else 64 * i).testBit (vr k) ^^ iv k) = false → ∀ x j, x < M → j < 64 → bl (g x) j = if j = k then (decide (x < i + 1) && ((if fl = true then x else 64 * x).testBit (vr k) ^^ iv k)) else bl (g0 x) j := fun hh x j hx hj => by
        rw [p1 x j hx hj]
        by_cases c : j = k
        · rw [if_pos c, if_pos c]
          by_cases c2 : x = i
          · rw [c2, hh, Bool.and_false, Bool.and_false]
          · rw [show decide (x < i + 1) = decide (x < i) from decide_eq_decide.mpr (by omega)]
        · rw [if_neg c, if_neg c]
      have sm1 : ((if fl = true then i else 64 * i).testBit (vr k) ^^ iv k) = true → ∀ x j, x < M → j < 64 → bl (vp_updL g i (g i ||| ((1 : Int64) <<< ((nI k).toInt64 &&& 63))) x) j = if j = k then (decide (x < i + 1) && ((if fl = true then x else 64 * x).testBit (vr k) ^^ iv k)) else bl (g0 x) j := fun hh x j hx hj => by
        by_cases c2 : x = i
        · rw [show vp_updL g i (g i ||| ((1 : Int64) <<< ((nI k).toInt64 &&& 63))) x = g i ||| ((1 : Int64) <<< ((nI k).toInt64 &&& 63)) from if_pos c2, bl_or, bl_bit k (by omega), p1 i j (by omega) hj, c2]
          by_cases c : j = k
          · rw [if_pos c, if_pos c, decide_eq_true c, Bool.or_true, hh, decide_eq_true (show i < i + 1 by omega)]
            rfl
          · rw [if_neg c, if_neg c, decide_eq_false c, Bool.or_false]
        · rw [show vp_updL g i (g i ||| ((1 : Int64) <<< ((nI k).toInt64 &&& 63))) x = g x from if_neg c2, p1 x j hx hj]
          by_cases c : j = k
          · rw [if_pos c, if_pos c, show decide (x < i + 1) = decide (x < i) from decide_eq_decide.mpr (by omega)]
          · rw [if_neg c, if_neg c]
      have tl : T < b + 6 ∧ b + 4 ≤ T := by omega
      cases fl with
      | true =>
        have wdl : i < 2 ^ 30 := by omega
        have sm0 : (i.testBit (vr k) ^^ iv k) = false → _ := sm0
        have sm1 : (i.testBit (vr k) ^^ iv k) = true → _ := sm1
        refine Go.of hX.2 ck_X10_fillTables [93] 60 ?_
        refine Exists.intro _ (Exists.intro _ (And.intro e1 (And.intro (by decide) ?_)))
        refine And.intro (fun cz => absurd cz (nI_ge (a := i) (b := M) (by omega) (by omega))) (fun _ => ?_)
        refine And.intro (fun cz => by first | exact absurd cz (by decide) | exact absurd (by decide) cz) (fun _ => ?_)
        refine Exists.intro _ (And.intro hw1 (Exists.intro 0 (Exists.intro 0 (And.intro (Nat.le_refl _) (And.intro (Nat.le_refl _) (x_isClosed hX hw1 hR1 (by omega) (by decide) v1 (by omega) v3 wdl ?_))))))
        cases hh : (i.testBit (vr k) ^^ iv k) with
        | false =>
          refine And.intro (fun _ => ?_) (fun cz => by first | exact absurd cz (by decide) | exact absurd (by decide) cz)
          exact go_loc (lv' := [(5, .int (nI i)), (4, .ref T), (3, .int (nI true.toNat)), (2, .int (nI k)), (0, .ref w), (1, .int (nI K))]) ⟨rfl, rfl, rfl, rfl, rfl, rfl, trivial⟩ (nxt h1 g f1 e1 (sm0 hh))
        | true =>
          refine And.intro (fun cz => by first | exact absurd cz (by decide) | exact absurd (by decide) cz) (fun _ => ?_)
          refine Exists.intro _ (Exists.intro _ (And.intro e1 (And.intro (vp_in_nI (show i < M by omega) (by omega)) ?_)))
          rw [nI_clamp (show i < 2 ^ 31 by omega)]
          refine Exists.intro _ (Exists.intro _ (And.intro e1 (And.intro (vp_in_nI (show i < M by omega) (by omega)) ?_)))
          rw [nI_clamp (show i < 2 ^ 31 by omega)]
          exact go_loc (lv' := [(5, .int (nI i)), (4, .ref T), (3, .int (nI true.toNat)), (2, .int (nI k)), (0, .ref w), (1, .int (nI K))]) ⟨rfl, rfl, rfl, rfl, rfl, rfl, trivial⟩ (nxt _ _ (fun x hx => (uph_ne hx).trans (f1 x hx)) uph_eq (sm1 hh))
      | false =>
        have wdl : 64 * i < 2 ^ 30 := by omega
        have sm0 : ((64 * i).testBit (vr k) ^^ iv k) = false → _ := sm0
        have sm1 : ((64 * i).testBit (vr k) ^^ iv k) = true → _ := sm1
        have esh : nI i <<< ((6 : Int32) &&& 31) = nI (64 * i) := by
          rw [show (6 : Int32) = nI 6 from rfl, nx_shl (by decide), Nat.shiftLeft_eq, Nat.mul_comm]
        refine Go.of hX.2 ck_X10_fillTables [93] 60 ?_
        refine Exists.intro _ (Exists.intro _ (And.intro e1 (And.intro (by decide) ?_)))
        refine And.intro (fun cz => absurd cz (nI_ge (a := i) (b := M) (by omega) (by omega))) (fun _ => ?_)
        refine And.intro (fun _ => ?_) (fun cz => by first | exact absurd cz (by decide) | exact absurd (by decide) cz)
        refine Exists.intro _ (And.intro hw1 (Exists.intro 0 (Exists.intro 0 (And.intro (Nat.le_refl _) (And.intro (Nat.le_refl _) ?_)))))
        rw [esh]
        refine x_isClosed hX hw1 hR1 (by omega) (by decide) v1 (by omega) v3 wdl ?_
        cases hh : ((64 * i).testBit (vr k) ^^ iv k) with
        | false =>
          refine And.intro (fun _ => ?_) (fun cz => by first | exact absurd cz (by decide) | exact absurd (by decide) cz)
          exact go_loc (lv' := [(5, .int (nI i)), (4, .ref T), (3, .int (nI false.toNat)), (2, .int (nI k)), (0, .ref w), (1, .int (nI K))]) ⟨rfl, rfl, rfl, rfl, rfl, rfl, trivial⟩ (nxt h1 g f1 e1 (sm0 hh))
        | true =>
          refine And.intro (fun cz => by first | exact absurd cz (by decide) | exact absurd (by decide) cz) (fun _ => ?_)
          refine Exists.intro _ (Exists.intro _ (And.intro e1 (And.intro (vp_in_nI (show i < M by omega) (by omega)) ?_)))
          rw [nI_clamp (show i < 2 ^ 31 by omega)]
          refine Exists.intro _ (Exists.intro _ (And.intro e1 (And.intro (vp_in_nI (show i < M by omega) (by omega)) ?_)))
          rw [nI_clamp (show i < 2 ^ 31 by omega)]
          exact go_loc (lv' := [(5, .int (nI i)), (4, .ref T), (3, .int (nI false.toNat)), (2, .int (nI k)), (0, .ref w), (1, .int (nI K))]) ⟨rfl, rfl, rfl, rfl, rfl, rfl, trivial⟩ (nxt _ _ (fun x hx => (uph_ne hx).trans (f1 x hx)) uph_eq (sm1 hh))
  have loop : ∀ (r k : Nat) (h1 : AH) (gI gR : Nat → Int64), k + r = K → (∀ x, x ≠ b + 4 → x ≠ b + 5 → h1 x = h x) → h1 (b + 4) = some (.inl (1, 32, .inr (.inl gI))) → h1 (b + 5) = some (.inl (1, 64, .inr (.inl gR))) → (∀ x j, x < 32 → j < 64 → bl (gI x) j = (decide (j < k) && (decide (6 ≤ vr j) && ((64 * x).testBit (vr j) ^^ iv j)))) → (∀ x j, x < 64 → j < 64 → bl (gR x) j = (decide (j < k) && (decide (vr j < 6) && (x.testBit (vr j) ^^ iv j)))) → Go l G 10 s_X10_fillTables 0 0 Post 2 [(2, .int (nI k)), (0, .ref w), (1, .int (nI K))] [] h1 nx 0 0 := by
    intro r
    induction r with
    | zero =>
      intro k h1 gI gR hk f1 eI eR pI pR
      have e : k = K := by omega
      subst e
      refine Go.of hX.2 ck_X10_fillTables [] 20 ?_
      refine And.intro (fun _ => ?_) (fun cz => absurd (nI_le (Nat.le_refl _) (by omega)) cz)
      exact hP h1 gI gR f1 eI eR pI pR
    | succ r ih =>
      intro k h1 gI gR hk f1 eI eR pI pR
      obtain ⟨v1, v2, v3⟩ := hv k (by omega)
      obtain ⟨r6, _⟩ := id hR
      have hw1 := (f1 w (by omega) (by omega)).trans hw
      have at99 : ∀ (h2 : AH) (gI' gR' : Nat → Int64), (∀ x, x ≠ b + 4 → x ≠ b + 5 → h2 x = h x) → h2 (b + 4) = some (.inl (1, 32, .inr (.inl gI'))) → h2 (b + 5) = some (.inl (1, 64, .inr (.inl gR'))) → (∀ x j, x < 32 → j < 64 → bl (gI' x) j = (decide (j < k + 1) && (decide (6 ≤ vr j) && ((64 * x).testBit (vr j) ^^ iv j)))) → (∀ x j, x < 64 → j < 64 → bl (gR' x) j = (decide (j < k + 1) && (decide (vr j < 6) && (x.testBit (vr j) ^^ iv j)))) → Go l G 10 s_X10_fillTables 0 0 Post 99 [(2, .int (nI k)), (0, .ref w), (1, .int (nI K))] [] h2 nx 0 0 := by
        intro h2 gI' gR' y1 y2 y3 y4 y5
        have := ih (k + 1) h2 gI' gR' (by omega) y1 y2 y3 y4 y5
        rw [nI_succ k] at this
        refine Go.of hX.2 ck_X10_fillTables [2] 5 ?_
        exact go_loc (lv' := [(2, .int (nI k + 1)), (0, .ref w), (1, .int (nI K))]) ⟨rfl, rfl, rfl, trivial⟩ (this)
      have ek : ∀ {P : Nat → Bool} j, (if j = k then P k else (decide (j < k) && P j)) = (decide (j < k + 1) && P j) := fun {P} j => by
        by_cases c : j = k
        · rw [if_pos c, c, decide_eq_true (show k < k + 1 by omega), Bool.true_and]
        · rw [if_neg c, show decide (j < k + 1) = decide (j < k) from decide_eq_decide.mpr (by omega)]
      refine Go.of hX.2 ck_X10_fillTables [52] 60 ?_
      refine And.intro (fun cz => absurd cz (nI_ge (a := k) (b := K) (by omega) (by omega))) (fun _ => ?_)
      refine Exists.intro _ (And.intro hw1 (Exists.intro _ (And.intro rfl ?_)))
      refine And.intro (fun cz => absurd cz (nI_ge (a := k) (b := 40) (by omega) (by decide))) (fun _ => ?_)
      refine Exists.intro _ (And.intro hw1 (Exists.intro _ (And.intro rfl ?_)))
      refine Exists.intro _ (Exists.intro _ (And.intro ((f1 (b + 6) (by omega) (by omega)).trans r6) (And.intro (vp_in_nI (show k < 40 by omega) (by decide)) ?_)))
      rw [nI_clamp (show k < 2 ^ 31 by omega), v1]
      by_cases c6 : vr k < 6
      · refine And.intro (fun cz => absurd cz (nI_ge (a := vr k) (b := 6) c6 (by decide))) (fun _ => ?_)
        refine And.intro (fun cz => by first | exact absurd cz (by decide) | exact absurd (by decide) cz) (fun _ => ?_)
        refine Exists.intro _ (And.intro hw1 (Exists.intro _ (And.intro rfl ?_)))
        refine go_loc (lv' := [(5, .int (nI 0)), (4, .ref (b + 5)), (3, .int (nI true.toNat)), (2, .int (nI k)), (0, .ref w), (1, .int (nI K))]) ⟨rfl, rfl, rfl, rfl, rfl, rfl, trivial⟩ ?_
        refine inner k (b + 5) 64 true h1 gR (by omega) (Or.inr rfl) (by decide) f1 eR (fun x hx => by rw [pR x k hx (by omega), decide_eq_false (Nat.lt_irrefl k)]; rfl) (decide_eq_true c6).symm (fun h2 g y1 y2 y3 => ?_) 64 0 h1 gR (by decide) (fun _ _ => rfl) eR (fun x j hx hj => ?_)
        · refine at99 h2 gI g (fun x x1 x2 => (y1 x x2).trans (f1 x x1 x2)) ((y1 _ (by omega)).trans eI) y2 (fun x j hx hj => ?_) (fun x j hx hj => ?_)
          · rw [pI x j hx hj, ← ek (P := fun j => decide (6 ≤ vr j) && ((64 * x).testBit (vr j) ^^ iv j))]
            by_cases c : j = k
            · rw [if_pos c, c, decide_eq_false (Nat.lt_irrefl k), decide_eq_false (show ¬ 6 ≤ vr k by omega)]; rfl
            · rw [if_neg c]
          · rw [y3 x j hx hj, ← ek (P := fun j => decide (vr j < 6) && (x.testBit (vr j) ^^ iv j))]
            by_cases c : j = k
            · rw [if_pos c, if_pos c, decide_eq_true c6]; rfl
            · rw [if_neg c, if_neg c, pR x j hx hj]
        · by_cases c : j = k
          · rw [if_pos c, pR x j hx hj, c, decide_eq_false (Nat.lt_irrefl k)]; rfl
          · rw [if_neg c]
      · refine And.intro (fun _ => ?_) (fun cz => absurd (nI_le (a := 6) (b := vr k) (by omega) (by omega)) cz)
        refine And.intro (fun _ => ?_) (fun cz => by first | exact absurd cz (by decide) | exact absurd (by decide) cz)
        refine Exists.intro _ (And.intro hw1 (Exists.intro _ (And.intro rfl ?_)))
        refine go_loc (lv' := [(5, .int (nI 0)), (4, .ref (b + 4)), (3, .int (nI false.toNat)), (2, .int (nI k)), (0, .ref w), (1, .int (nI K))]) ⟨rfl, rfl, rfl, rfl, rfl, rfl, trivial⟩ ?_
        refine inner k (b + 4) 32 false h1 gI (by omega) (Or.inl rfl) (by decide) f1 eI (fun x hx => by rw [pI x k hx (by omega), decide_eq_false (Nat.lt_irrefl k)]; rfl) (decide_eq_false c6).symm (fun h2 g y1 y2 y3 => ?_) 32 0 h1 gI (by decide) (fun _ _ => rfl) eI (fun x j hx hj => ?_)
        · refine at99 h2 g gR (fun x x1 x2 => (y1 x x1).trans (f1 x x1 x2)) y2 ((y1 _ (by omega)).trans eR) (fun x j hx hj => ?_) (fun x j hx hj => ?_)
          · rw [y3 x j hx hj, ← ek (P := fun j => decide (6 ≤ vr j) && ((64 * x).testBit (vr j) ^^ iv j))]
            by_cases c : j = k
            · rw [if_pos c, if_pos c, decide_eq_true (show 6 ≤ vr k by omega)]; rfl
            · rw [if_neg c, if_neg c, pI x j hx hj]
          · rw [pR x j hx hj, ← ek (P := fun j => decide (vr j < 6) && (x.testBit (vr j) ^^ iv j))]
            by_cases c : j = k
            · rw [if_pos c, c, decide_eq_false (Nat.lt_irrefl k), decide_eq_false c6]; rfl
            · rw [if_neg c]
        · by_cases c : j = k
          · rw [if_pos c, pI x j hx hj, c, decide_eq_false (Nat.lt_irrefl k)]; rfl
          · rw [if_neg c]
  refine en_X10_fillTables hX [2] 10 rfl ?_
  exact go_loc (lv' := [(2, .int (nI 0)), (0, .ref w), (1, .int (nI K))]) ⟨rfl, rfl, rfl, trivial⟩ (loop K 0 h _ _ (Nat.zero_add _) (fun _ _ _ => rfl) hi hr (fun x j _ _ => by rw [decide_eq_false (Nat.not_lt_zero j)]; exact bl_0 j) (fun x j _ _ => by rw [decide_eq_false (Nat.not_lt_zero j)]; exact bl_0 j))
