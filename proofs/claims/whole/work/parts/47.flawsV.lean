/-! which flaws there are -/
def vFb (K nR : Nat) (ow : Nat → Nat) (n : Nat) : Bool := if 200 ≤ n then decide (n < 200 + 2 * nR) else (decide (n / 4 < K) && (decide (n % 4 < 2) || (decide (n % 4 = 2) && (decide (n / 4 + 1 < K) && decide (ow (n / 4) = ow (n / 4 + 1))))))
def vFx (K nR : Nat) (ow : Nat → Nat) (x : Int32) : Bool := if x < 0 then false else vFb K nR ow x.toNatClampNeg
/-- whose the contacts of page d are, as the model tells them -/
def WHO (h : AH) (o d K : Nat) (ow : Nat → Nat) : Prop := ∃ g : Nat → Int32, h (o + 1 + 19) = some (.inl (0, 200, .inl g)) ∧ ∀ k, k < K → g (40 * d + k) = nI (if ow k < 6 then ow k else ow k + 4) ∧ ow k < 11
theorem who_eq {a b : Nat} (ha : a < 11) (hb : b < 11) : nI (if a < 6 then a else a + 4) = nI (if b < 6 then b else b + 4) ↔ a = b := by
  constructor
  · intro h
    have := (nI_eq (by split <;> omega) (by split <;> omega)).mp h
    split at this <;> split at this <;> omega
  · intro h; rw [h]
set_option maxHeartbeats 4000000 in
theorem c_isCrossable {l : Launch} {G : GG} {h : AH} {nx : Nat} {Post : Option Value → AH → Nat → Prop} {o d K : Nat} {ow : Nat → Nat} {gm : Nat → Int32} {fs : List Value} {k : Nat} (hX : XC G ∧ TX l G) (hM : MA h o fs) (f19 : fs[19]? = some (.int (nI d))) (hd : d < 5) (h18 : h (o + 1 + 18) = some (.inl (0, 5, .inl gm))) (em : gm d = nI K) (hK : K ≤ 40) (hw : WHO h o d K ow) (hk : k < 40) (hP : Post (some (.int (nI (decide (k + 1 < K) && decide (ow k = ow (k + 1))).toNat))) h nx) : Runs l G i_X12_isCrossable 0 0 [.ref o, .int (nI k)] h nx Post := by
  obtain ⟨gw, h19, e19⟩ := hw
  refine en_X12_isCrossable hX [] 80 rfl ?_
  refine Exists.intro _ (And.intro hM.1 (Exists.intro _ (And.intro (hM.2.2 18 (by decide)) ?_)))
  refine Exists.intro _ (And.intro hM.1 (Exists.intro _ (And.intro f19 ?_)))
  refine Exists.intro _ (Exists.intro _ (And.intro h18 (And.intro (vp_in_nI hd (by decide)) ?_)))
  rw [nI_clamp (by omega), em]
  by_cases h1 : k + 1 < K
  · rw [decide_eq_true h1, Bool.true_and] at hP
    refine And.intro (fun cz => absurd cz (by rw [← nI_succ]; exact nI_ge h1 (by omega))) (fun _ => ?_)
    have e1 : (40 : Int32) * nI d + nI k = nI (40 * d + k) := by rw [show (40 : Int32) = nI 40 from rfl, nI_mul, nI_add]
    have e2 : (40 : Int32) * nI d + nI k + 1 = nI (40 * d + (k + 1)) := by rw [e1, ← nI_succ]; rfl
    refine Exists.intro _ (And.intro hM.1 (Exists.intro _ (And.intro (hM.2.2 19 (by decide)) ?_)))
    refine Exists.intro _ (And.intro hM.1 (Exists.intro _ (And.intro f19 ?_)))
    refine Exists.intro _ (Exists.intro _ (And.intro h19 (And.intro (by rw [e1]; exact vp_in_nI (by omega) (by decide)) ?_)))
    rw [e1, nI_clamp (by omega), (e19 k (by omega)).1]
    refine Exists.intro _ (And.intro hM.1 (Exists.intro _ (And.intro (hM.2.2 19 (by decide)) ?_)))
    refine Exists.intro _ (And.intro hM.1 (Exists.intro _ (And.intro f19 ?_)))
    refine Exists.intro _ (Exists.intro _ (And.intro h19 (And.intro (by rw [e2]; exact vp_in_nI (by omega) (by decide)) ?_)))
    rw [e2, nI_clamp (by omega), (e19 (k + 1) h1).1]
    have hq := who_eq (e19 k (by omega)).2 (e19 (k + 1) h1).2
    by_cases h2 : ow k = ow (k + 1)
    · rw [decide_eq_true h2] at hP
      refine And.intro (fun cz => absurd (hq.mpr h2) cz) (fun _ => ?_)
      exact And.intro rfl hP
    · rw [decide_eq_false h2] at hP
      refine And.intro (fun _ => ?_) (fun cz => absurd (hq.mp cz) h2)
      exact And.intro rfl hP
  · rw [decide_eq_false h1, Bool.false_and] at hP
    refine And.intro (fun _ => ?_) (fun cz => absurd (by rw [← nI_succ]; exact nI_le (by omega) (by omega)) cz)
    exact And.intro rfl hP
set_option maxHeartbeats 4000000 in
theorem c_isFlawM {l : Launch} {G : GG} {h : AH} {nx : Nat} {Post : Option Value → AH → Nat → Prop} {o d K : Nat} {ow : Nat → Nat} {gm : Nat → Int32} {fs : List Value} {nR : Nat} {gR : Nat → Int32} {x : Int32} (hX : XC G ∧ TX l G) (hM : MA h o fs) (f19 : fs[19]? = some (.int (nI d))) (hd : d < 5) (h18 : h (o + 1 + 18) = some (.inl (0, 5, .inl gm))) (em : gm d = nI K) (hK : K ≤ 40) (hw : WHO h o d K ow) (h10 : h (o + 1 + 10) = some (.inl (0, 5, .inl gR))) (eR : gR d = nI nR) (hR6 : nR ≤ 6) (hP : Post (some (.int (nI (vFx K nR ow x).toNat))) h nx) : Runs l G i_X12_isFlaw 0 0 [.ref o, .int x] h nx Post := by
  have hdn : ¬ nI d = -1 := fun z => absurd (show nI d < 0 from z ▸ (by decide)) (nI_pos (by omega))
  unfold vFx at hP
  refine en_X12_isFlaw hX [] 120 rfl ?_
  refine Exists.intro _ (And.intro hM.1 (Exists.intro _ (And.intro f19 ?_)))
  refine And.intro (fun cz => absurd cz hdn) (fun _ => ?_)
  by_cases hneg : x < 0
  · rw [if_pos hneg] at hP
    refine And.intro (fun cz => absurd hneg (Int32.not_lt.mpr cz)) (fun _ => ?_)
    exact And.intro rfl hP
  · rw [if_neg hneg] at hP
    obtain ⟨n, hn, rfl⟩ := nI_of hneg
    rw [nI_clamp hn] at hP
    refine And.intro (fun _ => ?_) (fun cz => absurd (nI_pos' hn) cz)
    unfold vFb at hP
    by_cases h2 : 200 ≤ n
    · rw [if_pos h2] at hP
      refine And.intro (fun cz => absurd cz (nI_nlt (b := 200) h2 hn)) (fun _ => ?_)
      refine Exists.intro _ (And.intro hM.1 (Exists.intro _ (And.intro (hM.2.2 10 (by decide)) ?_)))
      refine Exists.intro _ (And.intro hM.1 (Exists.intro _ (And.intro f19 ?_)))
      refine Exists.intro _ (Exists.intro _ (And.intro h10 (And.intro (vp_in_nI hd (by decide)) ?_)))
      rw [nI_clamp (by omega), eR]
      have e2 : (200 : Int32) + 2 * nI nR = nI (200 + 2 * nR) := by rw [show (200 : Int32) = nI 200 from rfl, show (2 : Int32) = nI 2 from rfl, nI_mul, nI_add]
      by_cases h3 : n < 200 + 2 * nR
      · rw [decide_eq_true h3] at hP
        refine And.intro (fun cz => absurd cz (by rw [e2]; exact nI_ge h3 (by omega))) (fun _ => ?_)
        exact And.intro rfl hP
      · rw [decide_eq_false h3] at hP
        refine And.intro (fun _ => ?_) (fun cz => absurd (by rw [e2]; exact nI_le (by omega) hn) cz)
        exact And.intro rfl hP
    · rw [if_neg h2] at hP
      have ed : nI n / 4 = nI (n / 4) := pk_div (d := 4) hn (by decide) (by decide)
      have er : nI n - nI n / 4 * 4 = nI (n % 4) := pk_rem (d := 4) hn (by decide) (by decide)
      refine And.intro (fun _ => ?_) (fun cz => absurd (nI_lt (b := 200) (by omega) (by decide)) cz)
      refine And.intro (by decide) ?_
      refine Exists.intro _ (And.intro hM.1 (Exists.intro _ (And.intro (hM.2.2 18 (by decide)) ?_)))
      refine Exists.intro _ (And.intro hM.1 (Exists.intro _ (And.intro f19 ?_)))
      refine Exists.intro _ (Exists.intro _ (And.intro h18 (And.intro (vp_in_nI hd (by decide)) ?_)))
      rw [nI_clamp (by omega), em]
      by_cases h3 : n / 4 < K
      · rw [decide_eq_true h3, Bool.true_and] at hP
        refine And.intro (fun cz => absurd cz (by rw [ed]; exact nI_ge h3 (by omega))) (fun _ => ?_)
        refine And.intro (by decide) ?_
        by_cases h4 : n % 4 < 2
        · rw [decide_eq_true h4, Bool.true_or] at hP
          refine And.intro (fun _ => ?_) (fun cz => absurd (by rw [er]; exact nI_lt (b := 2) h4 (by decide)) cz)
          exact And.intro rfl hP
        · rw [decide_eq_false h4, Bool.false_or] at hP
          refine And.intro (fun cz => absurd cz (by rw [er]; exact nI_nlt (b := 2) (by omega) (by omega))) (fun _ => ?_)
          refine And.intro (by decide) ?_
          by_cases h5 : n % 4 = 2
          · rw [decide_eq_true h5, Bool.true_and] at hP
            refine And.intro (fun cz => absurd (by rw [er, h5]; rfl) cz) (fun _ => ?_)
            refine And.intro (by decide) ?_
            refine Exists.intro _ (And.intro hM.1 (Exists.intro 0 (Exists.intro 0 (And.intro (Nat.le_refl _) (And.intro (Nat.le_refl _) ?_)))))
            rw [ed]
            refine c_isCrossable hX hM f19 hd h18 em hK hw (by omega) ?_
            cases hb : (decide (n / 4 + 1 < K) && decide (ow (n / 4) = ow (n / 4 + 1)))
            · rw [hb] at hP
              refine And.intro (fun _ => ?_) (fun cz => absurd (tN0 rfl) cz)
              exact And.intro rfl hP
            · rw [hb] at hP
              refine And.intro (fun cz => absurd cz (tN1 rfl)) (fun _ => ?_)
              exact And.intro rfl hP
          · rw [decide_eq_false h5, Bool.false_and] at hP
            refine And.intro (fun _ => ?_) (fun cz => absurd ((nI_eq (by omega) (by decide)).mp (show nI (n % 4) = nI 2 from er.symm.trans cz)) h5)
            exact And.intro rfl hP
      · rw [decide_eq_false h3, Bool.false_and] at hP
        refine And.intro (fun _ => ?_) (fun cz => absurd (by rw [ed]; exact nI_le (by omega) (by omega)) cz)
        exact And.intro rfl hP
/-- a flaw that there is, or none -/
def vFn (K nR : Nat) (ow : Nat → Nat) (x : Int32) : Bool := decide (x = -1) || vFx K nR ow x
set_option maxHeartbeats 4000000 in
theorem c_isHutM {l : Launch} {G : GG} {h : AH} {nx : Nat} {Post : Option Value → AH → Nat → Prop} {o d K : Nat} {ow : Nat → Nat} {gm : Nat → Int32} {fs : List Value} {nR : Nat} {gR : Nat → Int32} {x y : Int32} (hX : XC G ∧ TX l G) (hM : MA h o fs) (f19 : fs[19]? = some (.int (nI d))) (hd : d < 5) (h18 : h (o + 1 + 18) = some (.inl (0, 5, .inl gm))) (em : gm d = nI K) (hK : K ≤ 40) (hw : WHO h o d K ow) (h10 : h (o + 1 + 10) = some (.inl (0, 5, .inl gR))) (eR : gR d = nI nR) (hR6 : nR ≤ 6) (hP : Post (some (.int (nI (vFn K nR ow x && vFn K nR ow y).toNat))) h nx) : Runs l G i_X12_isHut 0 0 [.ref o, .int x, .int y] h nx Post := by
  have hdn : ¬ nI d = -1 := fun z => absurd (show nI d < 0 from z ▸ (by decide)) (nI_pos (by omega))
  have s21 : Post (some (.int (nI (vFn K nR ow y).toNat))) h nx → Go l G 12 s_X12_isHut 0 0 Post 21 [(0, .ref o), (1, .int x), (2, .int y)] [] h nx 0 0 := by
    intro hQ
    refine Go.of hX.2 ck_X12_isHut [] 60 ?_
    unfold vFn at hQ
    by_cases h1 : y = -1
    · rw [decide_eq_true h1, Bool.true_or] at hQ
      refine And.intro (fun _ => ?_) (fun cz => absurd h1 cz)
      exact And.intro rfl hQ
    · rw [decide_eq_false h1, Bool.false_or] at hQ
      refine And.intro (fun cz => absurd cz h1) (fun _ => ?_)
      refine Exists.intro _ (And.intro hM.1 (Exists.intro 0 (Exists.intro 0 (And.intro (Nat.le_refl _) (And.intro (Nat.le_refl _) (c_isFlawM hX hM f19 hd h18 em hK hw h10 eR hR6 ?_))))))
      cases hb : vFx K nR ow y
      · rw [hb] at hQ
        refine And.intro (fun _ => ?_) (fun cz => absurd (tN0 rfl) cz)
        exact And.intro rfl hQ
      · rw [hb] at hQ
        refine And.intro (fun cz => absurd cz (tN1 rfl)) (fun _ => ?_)
        exact And.intro rfl hQ
  refine en_X12_isHut hX [21] 60 rfl ?_
  refine Exists.intro _ (And.intro hM.1 (Exists.intro _ (And.intro f19 ?_)))
  refine And.intro (fun cz => absurd cz hdn) (fun _ => ?_)
  by_cases h1 : x = -1
  · have e1 : vFn K nR ow x = true := by unfold vFn; rw [decide_eq_true h1]; rfl
    rw [e1, Bool.true_and] at hP
    refine And.intro (fun _ => ?_) (fun cz => absurd h1 cz)
    exact go_loc (lv' := [(0, .ref o), (1, .int x), (2, .int y)]) ⟨rfl, rfl, rfl, trivial⟩ (s21 hP)
  · have e1 : vFn K nR ow x = vFx K nR ow x := by unfold vFn; rw [decide_eq_false h1]; rfl
    rw [e1] at hP
    refine And.intro (fun cz => absurd cz h1) (fun _ => ?_)
    refine Exists.intro _ (And.intro hM.1 (Exists.intro 0 (Exists.intro 0 (And.intro (Nat.le_refl _) (And.intro (Nat.le_refl _) (c_isFlawM hX hM f19 hd h18 em hK hw h10 eR hR6 ?_))))))
    cases hb : vFx K nR ow x
    · rw [hb, Bool.false_and] at hP
      refine And.intro (fun _ => ?_) (fun cz => absurd (tN0 rfl) cz)
      exact And.intro rfl hP
    · rw [hb, Bool.true_and] at hP
      refine And.intro (fun cz => absurd cz (tN1 rfl)) (fun _ => ?_)
      exact go_loc (lv' := [(0, .ref o), (1, .int x), (2, .int y)]) ⟨rfl, rfl, rfl, trivial⟩ (s21 hP)
/-- the first place of x among n, -1 if there is none -/
def fIx (g : Nat → Int32) (x : Int32) : Nat → Nat → Int32
  | 0, _ => -1
  | j + 1, i => if g i = x then nI i else fIx g x j (i + 1)
set_option maxHeartbeats 4000000 in
theorem c_flawIndex {l : Launch} {G : GG} {h : AH} {nx : Nat} {Post : Option Value → AH → Nat → Prop} {d q n : Nat} {x : Int32} {g : Nat → Int32} {fs : List Value} (hX : XC G ∧ TX l G) (hd : h d = some (.inr (0, fs))) (f13 : fs[13]? = some (.ref q)) (f14 : fs[14]? = some (.int (nI n))) (hq : h q = some (.inl (0, 132, .inl g))) (hn : n ≤ 132) (hP : Post (some (.int (fIx g x n 0))) h nx) : Runs l G i_X0_flawIndex 0 0 [.ref d, .int x] h nx Post := by
  have loop : ∀ (k i : Nat), i + k = n → Post (some (.int (fIx g x k i))) h nx → Go l G 0 s_X0_flawIndex 0 0 Post 2 [(2, .int (nI i)), (0, .ref d), (1, .int x)] [] h nx 0 0 := by
    intro k
    induction k with
    | zero =>
      intro i hi hQ
      refine Go.of hX.2 ck_X0_flawIndex [2] 30 ?_
      refine Exists.intro _ (And.intro hd (Exists.intro _ (And.intro f14 ?_)))
      refine And.intro (fun _ => ?_) (fun cz => absurd (nI_le (by omega) (by omega)) cz)
      exact And.intro rfl hQ
    | succ k ih =>
      intro i hi hQ
      refine Go.of hX.2 ck_X0_flawIndex [2] 40 ?_
      refine Exists.intro _ (And.intro hd (Exists.intro _ (And.intro f14 ?_)))
      refine And.intro (fun cz => absurd cz (nI_ge (by omega) (by omega))) (fun _ => ?_)
      refine And.intro (fun cz => absurd cz (nI_ge (b := 132) (by omega) (by decide))) (fun _ => ?_)
      refine Exists.intro _ (And.intro hd (Exists.intro _ (And.intro f13 ?_)))
      refine Exists.intro _ (Exists.intro _ (And.intro hq (And.intro (vp_in_nI (by omega) (by decide)) ?_)))
      rw [nI_clamp (by omega)]
      by_cases he : g i = x
      · rw [show fIx g x (k + 1) i = nI i from if_pos he] at hQ
        refine And.intro (fun cz => absurd he cz) (fun _ => ?_)
        exact And.intro rfl hQ
      · rw [show fIx g x (k + 1) i = fIx g x k (i + 1) from if_neg he] at hQ
        refine And.intro (fun _ => ?_) (fun cz => absurd cz he)
        refine go_loc (lv' := [(2, .int (nI i + 1)), (0, .ref d), (1, .int x)]) ⟨rfl, rfl, rfl, trivial⟩ ?_
        rw [← nI_succ]
        exact ih (i + 1) (by omega) hQ
  refine en_X0_flawIndex hX [2] 20 rfl ?_
  exact go_loc (lv' := [(2, .int (nI 0)), (0, .ref d), (1, .int x)]) ⟨rfl, rfl, rfl, trivial⟩ (loop n 0 (Nat.zero_add _) hP)
