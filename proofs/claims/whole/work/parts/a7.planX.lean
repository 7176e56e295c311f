/-! plans as values: the least number of stages, the next set; x's stagesFrom and setBehind -/
theorem IsM_ex (P : Nat → Prop) : ∃ r, IsM P r := by
  by_cases h : ∃ j, P j
  · have key : ∀ n j, j ≤ n → P j → ∃ r, IsM P r := by
      intro n
      induction n with
      | zero =>
        intro j hj hp
        have e : 0 = j := by omega
        subst e
        exact ⟨some 0, hp, fun i _ => Nat.zero_le i⟩
      | succ n ih =>
        intro j hj hp
        by_cases h2 : ∃ i, i ≤ n ∧ P i
        · obtain ⟨i, a, b⟩ := h2
          exact ih i a b
        · refine ⟨some j, hp, fun i hi => Nat.le_of_not_lt (fun z => h2 ⟨i, by omega, hi⟩)⟩
    obtain ⟨j, hj⟩ := h
    exact key j j (Nat.le_refl _) hj
  · exact ⟨none, fun j z => h ⟨j, z⟩⟩
noncomputable def LVo (u k : Nat) (sf : Nat → Bool) (v : Nat) : Option Nat := Classical.choose (IsM_ex (fun j => RT u k sf j v))
theorem LVo_c (u k : Nat) (sf : Nat → Bool) (v : Nat) : LVs u k sf v (LVo u k sf v) := Classical.choose_spec (IsM_ex (fun j => RT u k sf j v))
theorem LVo_eq {u k v : Nat} {sf : Nat → Bool} {r : Option Nat} (h : LVs u k sf v r) : LVo u k sf v = r := IsM_eq (LVo_c u k sf v) h
theorem LVo_le {u k v m : Nat} {sf : Nat → Bool} (hu : u < 2048) (h : LVo u k sf v = some m) : m + pqN v.testBit 11 ≤ pqN u.testBit 11 := by
  have := LVo_c u k sf v
  rw [h] at this
  exact RT_pop hu m v this.1
theorem pqN_le (f : Nat → Bool) : ∀ n, pqN f n ≤ n
  | 0 => Nat.le_refl _
  | n + 1 => by
    have := pqN_le f n
    show pqN f n + (f n).toNat ≤ n + 1
    cases f n
    · show pqN f n + 0 ≤ _; omega
    · show pqN f n + 1 ≤ _; omega
theorem LVo_lt {u k v m : Nat} {sf : Nat → Bool} (hu : u < 2048) (h : LVo u k sf v = some m) : m ≤ 11 := by
  have a := LVo_le hu h
  have b := pqN_le u.testBit 11
  omega
/-- how x and the model write it -/
def eX (r : Option Nat) : Int32 := match r with
  | none => -2
  | some j => nI j
def eM (r : Option Nat) : Int32 := match r with
  | none => -1
  | some j => nI j
def mnO (r : Option Nat) (n : Nat) : Option Nat := match r with
  | none => some n
  | some j => if n < j then some n else some j
theorem IsM_mn {P : Nat → Prop} {r : Option Nat} {n : Nat} (h : IsM P r) : IsM (fun j => P j ∨ j = n) (mnO r n) := by
  cases r with
  | none => exact IsM_add h
  | some j => exact IsM_add h
/-- what is a set's place: bits of u alone -/
theorem dep_of {u v : Nat} (hu : u < 2048) (h : ∀ i, v.testBit i = true → u.testBit i = true) : ∃ s, s < 2 ^ rkU u 11 ∧ dep u s = v := by
  obtain ⟨s, hs, e⟩ := dep_onto h 11
  refine ⟨s, hs, ?_⟩
  have hv : v < 2 ^ 11 := Nat.lt_pow_two_of_testBit (n := 11) _ (fun i hi => by
    cases c : v.testBit i with
    | false => rfl
    | true =>
      have := h i c
      rw [tb_big (k := 11) hu hi] at this
      cases this)
  show dpc u s 11 = v
  rw [e, Nat.mod_eq_of_lt hv]
theorem dep_full {u : Nat} (hu : u < 2048) : dep u (2 ^ rkU u 11 - 1) = u := Nat.eq_of_testBit_eq (fun i => by
  rw [dep_tb]
  by_cases c : i < 11
  · rw [decide_eq_true c, Bool.true_and]
    cases hb : u.testBit i with
    | false => rfl
    | true =>
      have h1 := rkU_mono (u := u) (show i + 1 ≤ 11 by omega)
      rw [rkU_s, hb] at h1
      have h2 : rkU u i < rkU u 11 := h1
      rw [Nat.testBit_two_pow_sub_one, decide_eq_true h2]
      rfl
  · rw [decide_eq_false c, tb_big (k := 11) hu (by omega)]
    rfl)
theorem and_sub {s t : Nat} : s &&& t = s ↔ ∀ i, s.testBit i = true → t.testBit i = true := by
  constructor
  · intro h i hi
    have : (s &&& t).testBit i = true := by rw [h]; exact hi
    rw [Nat.testBit_and, Bool.and_eq_true] at this
    exact this.2
  · intro h
    refine Nat.eq_of_testBit_eq (fun i => ?_)
    rw [Nat.testBit_and]
    cases c : s.testBit i with
    | false => rfl
    | true => rw [h i c]; rfl
theorem sgB_c {u k s t : Nat} (hs : s < 2 ^ rkU u 11) (ht : t < 2 ^ rkU u 11) : sgB k s t = true ↔ sgO u k (dep u s) (dep u t) := by
  have hx : t ^^^ s < 2 ^ rkU u 11 := Nat.xor_lt_two_pow ht hs
  have hpop : pqN (dep u t ^^^ dep u s).testBit 11 = pqN (t ^^^ s).testBit 11 := by
    rw [← dep_xor, dep_pop _ _ 11 (Nat.le_refl _)]
    exact (pqN_hi (fun i hi => tb_big hx hi) 11 (rkU_le u 11)).symm
  unfold sgB sgO
  rw [Bool.and_eq_true, Bool.and_eq_true, decide_eq_true_eq, decide_eq_true_eq, decide_eq_true_eq, hpop, dep_lt_iff hs ht, and_sub, dep_ss hs]
  constructor
  · rintro ⟨a, b, c⟩
    refine ⟨?_, a, fun i hi => dep_sub hi, c⟩
    have h1 : s &&& t = s := and_sub.mpr ((dep_ss hs).mpr a)
    have h2 : s &&& t ≤ t := Nat.and_le_right
    omega
  · rintro ⟨a, b, _, c⟩
    exact ⟨b, by omega, c⟩
/-- the least number found behind places below b -/
def Qst (u k : Nat) (sf : Nat → Bool) (s b j : Nat) : Prop := ∃ t m, s < t ∧ t < b ∧ sgB k s t = true ∧ LVo u k sf (dep u t) = some m ∧ j = m + 1
theorem Qst_no {u k s b j : Nat} {sf : Nat → Bool} (h : sgB k s b = false ∨ LVo u k sf (dep u b) = none) : Qst u k sf s b j ↔ Qst u k sf s (b + 1) j := by
  constructor
  · rintro ⟨t, m, a, c, d⟩
    exact ⟨t, m, a, by omega, d⟩
  · rintro ⟨t, m, a, c, d, e, f⟩
    refine ⟨t, m, a, ?_, d, e, f⟩
    rcases Nat.lt_or_ge t b with z | z
    · exact z
    · exfalso
      have e2 : t = b := by omega
      rw [e2] at d e
      rcases h with h | h
      · rw [h] at d; cases d
      · rw [h] at e; cases e
theorem Qst_yes {u k s b m : Nat} {sf : Nat → Bool} {r : Option Nat} (hb : s < b) (h1 : sgB k s b = true) (h2 : LVo u k sf (dep u b) = some m) (hr : IsM (Qst u k sf s b) r) : IsM (Qst u k sf s (b + 1)) (mnO r (m + 1)) := by
  refine IsM_congr (fun j => ?_) (IsM_mn (n := m + 1) hr)
  constructor
  · rintro (⟨t, m2, a, c, d⟩ | e)
    · exact ⟨t, m2, a, by omega, d⟩
    · exact ⟨b, m, hb, Nat.lt_succ_self b, h1, h2, e⟩
  · rintro ⟨t, m2, a, c, d, e, f⟩
    rcases Nat.lt_or_ge t b with z | z
    · exact Or.inl ⟨t, m2, a, z, d, e, f⟩
    · have e2 : t = b := by omega
      rw [e2, h2] at e
      cases e
      exact Or.inr f
theorem Qst_0 {u k s : Nat} {sf : Nat → Bool} : IsM (Qst u k sf s (s + 1)) none := by
  rintro j ⟨t, m, a, b, _⟩
  omega
theorem Qst_le {u k s b j : Nat} {sf : Nat → Bool} (hu : u < 2048) (h : Qst u k sf s b j) : j ≤ 12 := by
  obtain ⟨t, m, _, _, _, e, f⟩ := h
  have := LVo_lt hu e
  omega
theorem Qst_end {u k s : Nat} {sf : Nat → Bool} {r : Option Nat} (hu : u < 2048) (hs : s < 2 ^ rkU u 11) (hne : s ≠ 2 ^ rkU u 11 - 1) (hsf : sf (dep u s) = true) (hr : IsM (Qst u k sf s (2 ^ rkU u 11)) r) : LVo u k sf (dep u s) = r := by
  have hp := Nat.two_pow_pos (rkU u 11)
  refine LVo_eq (LV_of (g := LVo u k sf) hsf (fun z => hne (dep_inj hs (by omega) (z.trans (dep_full hu).symm))) (fun x _ => LVo_c u k sf x) (IsM_congr (fun j => ?_) hr))
  constructor
  · rintro ⟨t, m, a, b, c, d, e⟩
    exact ⟨dep u t, m, (sgB_c hs b).mp c, d, e⟩
  · rintro ⟨x, m, a, b, c⟩
    obtain ⟨t, ht, rfl⟩ := dep_of hu a.2.2.1
    exact ⟨t, m, (dep_lt_iff hs ht).mp a.1, ht, (sgB_c hs ht).mpr a, b, c⟩
set_option maxHeartbeats 8000000 in
theorem x_stagesFrom {l : Launch} {G : GG} {h : AH} {nx : Nat} {Post : Option Value → AH → Nat → Prop} {w s u k : Nat} {f1 f2 : Value} {g2 g3 : Nat → Int32} {sf : Nat → Bool} (hX : XC G ∧ TX l G) (hp : h (w + 60) = some (.inr (5, PF w f1 f2 (nI k) (nI (2 ^ rkU u 11))))) (h2 : h (w + 62) = some (.inl (0, 128, .inl g2))) (h3 : h (w + 63) = some (.inl (0, 128, .inl g3))) (hu : u < 2048) (hn : rkU u 11 ≤ 7) (hk : k < 2 ^ 31) (hs : s < 2 ^ rkU u 11) (hsf : g2 s = nI (sf (dep u s)).toNat) (hst : ∀ t, s < t → t < 2 ^ rkU u 11 → g3 t = eX (LVo u k sf (dep u t))) (hP : Post (some (.int (eX (LVo u k sf (dep u s))))) h nx) : Runs l G i_X5_stagesFrom 0 0 [.ref (w + 60), .int (nI s)] h nx Post := by
  have h7 := rk7 hn (Nat.le_refl 11)
  have hp2 := Nat.two_pow_pos (rkU u 11)
  have loop : s ≠ 2 ^ rkU u 11 - 1 → sf (dep u s) = true → ∀ (m t : Nat) (r : Option Nat), t + m = 2 ^ rkU u 11 → s < t → IsM (Qst u k sf s t) r → Go l G 5 s_X5_stagesFrom 0 0 Post 31 [(3, .int (nI t)), (2, .int (eX r)), (0, .ref (w + 60)), (1, .int (nI s))] [] h nx 0 0 := by
    intro hne hs1 m
    induction m with
    | zero =>
      intro t r ht hst2 hr
      have e : t = 2 ^ rkU u 11 := by omega
      rw [e] at hr
      rw [Qst_end hu hs hne hs1 hr] at hP
      refine Go.of hX.2 ck_X5_stagesFrom [] 20 ?_
      refine Exists.intro _ (And.intro hp (Exists.intro _ (And.intro rfl ?_)))
      refine And.intro (fun _ => ?_) (fun cz => absurd (nI_le (a := 2 ^ rkU u 11) (b := t) (by omega) (by omega)) cz)
      exact And.intro rfl (hP)
    | succ m ih =>
      intro t r ht hst2 hr
      have next : ∀ r2 : Option Nat, IsM (Qst u k sf s (t + 1)) r2 → Go l G 5 s_X5_stagesFrom 0 0 Post 89 [(3, .int (nI t)), (2, .int (eX r2)), (0, .ref (w + 60)), (1, .int (nI s))] [] h nx 0 0 := by
        intro r2 hr2
        have := ih (t + 1) r2 (by omega) (by omega) hr2
        rw [nI_succ] at this
        refine Go.of hX.2 ck_X5_stagesFrom [31] 5 ?_
        exact go_loc (lv' := [(3, .int (nI t + 1)), (2, .int (eX r2)), (0, .ref (w + 60)), (1, .int (nI s))]) ⟨rfl, rfl, rfl, rfl, trivial⟩ (this)
      refine Go.of hX.2 ck_X5_stagesFrom [31, 80, 89] 60 ?_
      refine Exists.intro _ (And.intro hp (Exists.intro _ (And.intro rfl ?_)))
      refine And.intro (fun cz => absurd cz (nI_ge (a := t) (b := 2 ^ rkU u 11) (by omega) (by omega))) (fun _ => ?_)
      refine And.intro (fun cz => absurd cz (nI_ge (a := t) (b := 128) (by omega) (by decide))) (fun _ => ?_)
      refine Exists.intro _ (And.intro hp (Exists.intro 0 (Exists.intro 0 (And.intro (Nat.le_refl _) (And.intro (Nat.le_refl _) (x_isStage hX hp (by omega) (by omega) hk ?_))))))
      cases hb : sgB k s t with
      | false =>
        refine And.intro (fun _ => ?_) (fun cz => by first | exact absurd cz (by decide) | exact absurd (by decide) cz)
        exact go_loc (lv' := [(3, .int (nI t)), (2, .int (eX r)), (0, .ref (w + 60)), (1, .int (nI s))]) ⟨rfl, rfl, rfl, rfl, trivial⟩ (next r (IsM_congr (fun j => Qst_no (Or.inl hb)) hr))
      | true =>
        refine And.intro (fun cz => by first | exact absurd cz (by decide) | exact absurd (by decide) cz) (fun _ => ?_)
        refine Exists.intro _ (And.intro hp (Exists.intro _ (And.intro rfl ?_)))
        refine Exists.intro _ (Exists.intro _ (And.intro h3 (And.intro (vp_in_nI (show t < 128 by omega) (by decide)) ?_)))
        rw [nI_clamp (show t < 2 ^ 31 by omega), hst t hst2 (by omega)]
        cases hl : LVo u k sf (dep u t) with
        | none =>
          refine And.intro (fun _ => ?_) (fun cz => absurd cz ((by decide : ¬ ((-2 : Int32) < 0) → False)))
          exact go_loc (lv' := [(3, .int (nI t)), (2, .int (eX r)), (0, .ref (w + 60)), (1, .int (nI s))]) ⟨rfl, rfl, rfl, rfl, trivial⟩ (next r (IsM_congr (fun j => Qst_no (Or.inr hl)) hr))
        | some q =>
          have hq := LVo_lt hu hl
          have hy := Qst_yes hst2 hb hl hr
          refine And.intro (fun cz => absurd cz ((show ¬ eX (some q) < 0 from nI_pos (by omega)))) (fun _ => ?_)
          have fin : ∀ r2 : Option Nat, r2 = some (q + 1) → IsM (Qst u k sf s (t + 1)) r2 → Go l G 5 s_X5_stagesFrom 0 0 Post 80 [(3, .int (nI t)), (2, .int (eX r)), (0, .ref (w + 60)), (1, .int (nI s))] [] h nx 0 0 := by
            intro r2 e2 hr2
            have nx2 := next r2 hr2
            refine Go.of hX.2 ck_X5_stagesFrom [89] 20 ?_
            refine Exists.intro _ (And.intro hp (Exists.intro _ (And.intro rfl ?_)))
            refine Exists.intro _ (Exists.intro _ (And.intro h3 (And.intro (vp_in_nI (show t < 128 by omega) (by decide)) ?_)))
            rw [nI_clamp (show t < 2 ^ 31 by omega), hst t hst2 (by omega), hl]
            rw [e2] at nx2
            have e3 : eX (some q) + 1 = eX (some (q + 1)) := (nI_succ q).symm
            refine go_loc (lv' := [(3, .int (nI t)), (2, .int (eX (some q) + 1)), (0, .ref (w + 60)), (1, .int (nI s))]) ⟨rfl, rfl, rfl, rfl, trivial⟩ ?_
            rw [e3]
            exact nx2
          cases r with
          | none =>
            refine And.intro (fun _ => ?_) (fun cz => absurd (show eX none < 0 from by decide) cz)
            have f2 := fin _ rfl hy
            exact go_loc (lv' := [(3, .int (nI t)), (2, .int (eX none)), (0, .ref (w + 60)), (1, .int (nI s))]) ⟨rfl, rfl, rfl, rfl, trivial⟩ f2
          | some j =>
            have hj := Qst_le hu hr.1
            refine And.intro (fun cz => absurd cz ((show ¬ eX (some j) < 0 from nI_pos (by omega)))) (fun _ => ?_)
            refine Exists.intro _ (And.intro hp (Exists.intro _ (And.intro rfl ?_)))
            refine Exists.intro _ (Exists.intro _ (And.intro h3 (And.intro (vp_in_nI (show t < 128 by omega) (by decide)) ?_)))
            rw [nI_clamp (show t < 2 ^ 31 by omega), hst t hst2 (by omega), hl]
            have e3 : eX (some q) + 1 = nI (q + 1) := (nI_succ q).symm
            by_cases c1 : q + 1 < j
            · have e4 : mnO (some j) (q + 1) = some (q + 1) := if_pos c1
              rw [e4] at hy
              refine And.intro (fun cz => absurd cz (show ¬ nI j ≤ eX (some q) + 1 from by rw [e3]; exact nI_ge c1 (by omega))) (fun _ => ?_)
              exact go_loc (lv' := [(3, .int (nI t)), (2, .int (eX (some j))), (0, .ref (w + 60)), (1, .int (nI s))]) ⟨rfl, rfl, rfl, rfl, trivial⟩ (fin _ rfl hy)
            · have e4 : mnO (some j) (q + 1) = some j := if_neg c1
              rw [e4] at hy
              refine And.intro (fun _ => ?_) (fun cz => absurd (show nI j ≤ eX (some q) + 1 from by rw [e3]; exact nI_le (by omega) (by omega)) cz)
              exact go_loc (lv' := [(3, .int (nI t)), (2, .int (eX (some j))), (0, .ref (w + 60)), (1, .int (nI s))]) ⟨rfl, rfl, rfl, rfl, trivial⟩ (next _ hy)
  refine en_X5_stagesFrom hX [31] 40 rfl ?_
  refine Exists.intro _ (And.intro hp (Exists.intro _ (And.intro rfl ?_)))
  refine Exists.intro _ (Exists.intro _ (And.intro h2 (And.intro (vp_in_nI (show s < 128 by omega) (by decide)) ?_)))
  rw [nI_clamp (show s < 2 ^ 31 by omega), hsf]
  cases hb : sf (dep u s) with
  | false =>
    rw [LVo_eq (LV_unsafe hb)] at hP
    refine And.intro (fun cz => by first | exact absurd cz (by decide) | exact absurd (by decide) cz) (fun _ => ?_)
    exact And.intro rfl (hP)
  | true =>
    refine And.intro (fun _ => ?_) (fun cz => by first | exact absurd cz (by decide) | exact absurd (by decide) cz)
    refine Exists.intro _ (And.intro hp (Exists.intro _ (And.intro rfl ?_)))
    have e1 : nI (2 ^ rkU u 11) - 1 = nI (2 ^ rkU u 11 - 1) := nI_sub (a := 2 ^ rkU u 11) (b := 1) (by omega)
    by_cases c1 : s = 2 ^ rkU u 11 - 1
    · have e2 : dep u s = u := by rw [c1]; exact dep_full hu
      rw [e2, LVo_eq (LV_end (by rw [← e2]; exact hb))] at hP
      refine And.intro (fun cz => absurd (show nI s = nI (2 ^ rkU u 11) - 1 from by rw [e1, ← c1]) cz) (fun _ => ?_)
      exact And.intro rfl (hP)
    · refine And.intro (fun _ => ?_) (fun cz => absurd cz (fun z => c1 ((nI_eq (by omega) (by omega)).mp (z.trans e1))))
      refine go_loc (lv' := [(3, .int (nI s + 1)), (2, .int (eX none)), (0, .ref (w + 60)), (1, .int (nI s))]) ⟨rfl, rfl, rfl, rfl, trivial⟩ ?_
      rw [← nI_succ]
      exact loop c1 hb (2 ^ rkU u 11 - (s + 1)) (s + 1) none (by omega) (Nat.lt_succ_self s) Qst_0
/-- the next set on a plan's way -/
def NX (u k : Nat) (sf : Nat → Bool) (v x : Nat) : Prop := sgO u k v x ∧ ∃ j, LVo u k sf v = some (j + 1) ∧ LVo u k sf x = some j
noncomputable def nxO (u k : Nat) (sf : Nat → Bool) (v : Nat) : Nat := (Classical.choose (IsM_ex (NX u k sf v))).getD 0
theorem nxO_c {u k v j : Nat} {sf : Nat → Bool} (h : LVo u k sf v = some (j + 1)) : NX u k sf v (nxO u k sf v) ∧ ∀ x, NX u k sf v x → nxO u k sf v ≤ x := by
  have h1 := Classical.choose_spec (IsM_ex (NX u k sf v))
  have h2 := LVo_c u k sf v
  rw [h] at h2
  obtain ⟨x, h3, h4⟩ := LV_step h2
  have h5 : NX u k sf v x := ⟨h3, j, h, LVo_eq h4⟩
  unfold nxO
  cases hc : Classical.choose (IsM_ex (NX u k sf v)) with
  | none => rw [hc] at h1; exact absurd h5 (h1 x)
  | some y => rw [hc] at h1; exact h1
/-- the set behind i stages -/
noncomputable def stgB (u k : Nat) (sf : Nat → Bool) : Nat → Nat
  | 0 => 0
  | i + 1 => nxO u k sf (stgB u k sf i)
theorem stgB_c {u k m : Nat} {sf : Nat → Bool} (h : LVo u k sf 0 = some m) : ∀ i, i ≤ m → LVo u k sf (stgB u k sf i) = some (m - i) ∧ ∀ b, (stgB u k sf i).testBit b = true → u.testBit b = true
  | 0, _ => ⟨h, fun b hb => by rw [show stgB u k sf 0 = 0 from rfl, Nat.zero_testBit] at hb; cases hb⟩
  | i + 1, hi => by
    obtain ⟨h1, _⟩ := stgB_c h i (by omega)
    rw [show m - i = (m - (i + 1)) + 1 by omega] at h1
    obtain ⟨⟨h2, j, h3, h4⟩, _⟩ := nxO_c h1
    rw [h1] at h3
    cases h3
    exact ⟨h4, h2.2.2.1⟩
set_option maxHeartbeats 8000000 in
theorem x_setBehind {l : Launch} {G : GG} {h : AH} {nx : Nat} {Post : Option Value → AH → Nat → Prop} {w n m u k : Nat} {f1 f2 : Value} {g1 g3 : Nat → Int32} {sf : Nat → Bool} (hX : XC G ∧ TX l G) (hp : h (w + 60) = some (.inr (5, PF w f1 f2 (nI k) (nI (2 ^ rkU u 11))))) (h1 : h (w + 61) = some (.inl (0, 128, .inl g1))) (h3 : h (w + 63) = some (.inl (0, 128, .inl g3))) (hu : u < 2048) (hn7 : rkU u 11 ≤ 7) (hk : k < 2 ^ 31) (hb : ∀ t, t < 2 ^ rkU u 11 → g1 t = nI (dep u t)) (hst : ∀ t, t < 2 ^ rkU u 11 → g3 t = eX (LVo u k sf (dep u t))) (hm : LVo u k sf 0 = some m) (hnm : n < m) (hP : Post (some (.int (nI (stgB u k sf (n + 1))))) h nx) : Runs l G i_X5_setBehind 0 0 [.ref (w + 60), .int (nI n)] h nx Post := by
  have h7 := rk7 hn7 (Nat.le_refl 11)
  have hp2 := Nat.two_pow_pos (rkU u 11)
  have hm7 : m ≤ 7 := by
    have a := LVo_le hu hm
    have b : pqN u.testBit 11 = rkU u 11 := rfl
    omega
  have loop : ∀ (q i s : Nat), i + q = n + 1 → s < 2 ^ rkU u 11 → dep u s = stgB u k sf i → Go l G 5 s_X5_setBehind 0 0 Post 4 [(3, .int (nI i)), (2, .int (nI s)), (0, .ref (w + 60)), (1, .int (nI n))] [] h nx 0 0 := by
    intro q
    induction q with
    | zero =>
      intro i s hi hs he
      have e : i = n + 1 := by omega
      rw [← e, ← he] at hP
      refine Go.of hX.2 ck_X5_setBehind [] 20 ?_
      refine And.intro (fun _ => ?_) (fun cz => absurd (nI_lt (a := n) (b := i) (by omega) (by omega)) cz)
      refine Exists.intro _ (And.intro hp (Exists.intro _ (And.intro rfl ?_)))
      refine Exists.intro _ (Exists.intro _ (And.intro h1 (And.intro (vp_in_nI (show s < 128 by omega) (by decide)) ?_)))
      rw [nI_clamp (show s < 2 ^ 31 by omega), hb s hs]
      exact And.intro rfl (hP)
    | succ q ih =>
      intro i s hi hs he
      obtain ⟨hl, _⟩ := stgB_c hm i (by omega)
      have hj : m - i = (m - (i + 1)) + 1 := by omega
      rw [← he, hj] at hl
      obtain ⟨hn1, hn2⟩ := nxO_c hl
      obtain ⟨ts, hts, ets⟩ := dep_of hu hn1.1.2.2.1
      have hsg : sgB k s ts = true := (sgB_c hs hts).mpr (by rw [ets]; exact hn1.1)
      have hlt : s < ts := (dep_lt_iff hs hts).mp (by rw [ets]; exact hn1.1.1)
      have hlts : LVo u k sf (dep u ts) = some (m - (i + 1)) := by
        obtain ⟨_, j, a, b⟩ := hn1
        rw [hl] at a
        cases a
        rw [ets]; exact b
      have out : Go l G 5 s_X5_setBehind 0 0 Post 72 [(4, .int (nI ts)), (3, .int (nI i)), (2, .int (nI s)), (0, .ref (w + 60)), (1, .int (nI n))] [] h nx 0 0 := by
        have := ih (i + 1) ts (by omega) hts (by rw [ets, he]; rfl)
        rw [nI_succ] at this
        refine Go.of hX.2 ck_X5_setBehind [4] 20 ?_
        refine And.intro rfl ?_
        rw [if_neg (show ¬ (127 : Int32) < nI ts from nI_nlt (a := 127) (by omega) (by decide))]
        exact go_loc (lv' := [(3, .int (nI i + 1)), (2, .int (nI ts)), (0, .ref (w + 60)), (1, .int (nI n))]) ⟨rfl, rfl, rfl, rfl, trivial⟩ (this)
      have inner : ∀ (p t : Nat), t + p = ts → s < t → Go l G 5 s_X5_setBehind 0 0 Post 20 [(4, .int (nI t)), (3, .int (nI i)), (2, .int (nI s)), (0, .ref (w + 60)), (1, .int (nI n))] [] h nx 0 0 := by
        intro p
        induction p with
        | zero =>
          intro t ht hst2
          have e : t = ts := by omega
          subst e
          have e1 : nI (2 ^ rkU u 11) - 1 = nI (2 ^ rkU u 11 - 1) := nI_sub (a := 2 ^ rkU u 11) (b := 1) (by omega)
          refine Go.of hX.2 ck_X5_setBehind [72] 60 ?_
          refine Exists.intro _ (And.intro hp (Exists.intro _ (And.intro rfl ?_)))
          by_cases c1 : t < 2 ^ rkU u 11 - 1
          · refine And.intro (fun cz => absurd cz (show ¬ nI (2 ^ rkU u 11) - 1 ≤ nI t from by rw [e1]; exact nI_ge c1 (by omega))) (fun _ => ?_)
            refine And.intro (fun cz => absurd cz (nI_ge (a := t) (b := 127) (by omega) (by decide))) (fun _ => ?_)
            refine Exists.intro _ (And.intro hp (Exists.intro 0 (Exists.intro 0 (And.intro (Nat.le_refl _) (And.intro (Nat.le_refl _) (x_isStage hX hp (by omega) (by omega) hk ?_))))))
            rw [hsg]
            refine And.intro (fun cz => by first | exact absurd cz (by decide) | exact absurd (by decide) cz) (fun _ => ?_)
            refine Exists.intro _ (And.intro hp (Exists.intro _ (And.intro rfl ?_)))
            refine Exists.intro _ (Exists.intro _ (And.intro h3 (And.intro (vp_in_nI (show t < 128 by omega) (by decide)) ?_)))
            rw [nI_clamp (show t < 2 ^ 31 by omega), hst t hts, hlts]
            refine Exists.intro _ (And.intro hp (Exists.intro _ (And.intro rfl ?_)))
            refine Exists.intro _ (Exists.intro _ (And.intro h3 (And.intro (vp_in_nI (show s < 128 by omega) (by decide)) ?_)))
            rw [nI_clamp (show s < 2 ^ 31 by omega), hst s hs, hl]
            refine And.intro (fun _ => ?_) (fun cz => absurd (show eX (some (m - (i + 1))) = eX (some ((m - (i + 1)) + 1)) - 1 from (nI_pred _).symm) cz)
            exact go_loc (lv' := [(4, .int (nI t)), (3, .int (nI i)), (2, .int (nI s)), (0, .ref (w + 60)), (1, .int (nI n))]) ⟨rfl, rfl, rfl, rfl, rfl, trivial⟩ (out)
          · refine And.intro (fun _ => ?_) (fun cz => absurd (show nI (2 ^ rkU u 11) - 1 ≤ nI t from by rw [e1]; exact nI_le (by omega) (by omega)) cz)
            exact go_loc (lv' := [(4, .int (nI t)), (3, .int (nI i)), (2, .int (nI s)), (0, .ref (w + 60)), (1, .int (nI n))]) ⟨rfl, rfl, rfl, rfl, rfl, trivial⟩ (out)
        | succ p ih2 =>
          intro t ht hst2
          have e1 : nI (2 ^ rkU u 11) - 1 = nI (2 ^ rkU u 11 - 1) := nI_sub (a := 2 ^ rkU u 11) (b := 1) (by omega)
          have go66 : Go l G 5 s_X5_setBehind 0 0 Post 66 [(4, .int (nI t)), (3, .int (nI i)), (2, .int (nI s)), (0, .ref (w + 60)), (1, .int (nI n))] [] h nx 0 0 := by
            have := ih2 (t + 1) (by omega) (by omega)
            rw [nI_succ] at this
            refine Go.of hX.2 ck_X5_setBehind [20] 5 ?_
            exact go_loc (lv' := [(4, .int (nI t + 1)), (3, .int (nI i)), (2, .int (nI s)), (0, .ref (w + 60)), (1, .int (nI n))]) ⟨rfl, rfl, rfl, rfl, rfl, trivial⟩ (this)
          refine Go.of hX.2 ck_X5_setBehind [66, 72] 60 ?_
          refine Exists.intro _ (And.intro hp (Exists.intro _ (And.intro rfl ?_)))
          refine And.intro (fun cz => absurd cz (show ¬ nI (2 ^ rkU u 11) - 1 ≤ nI t from by rw [e1]; exact nI_ge (by omega) (by omega))) (fun _ => ?_)
          refine And.intro (fun cz => absurd cz (nI_ge (a := t) (b := 127) (by omega) (by decide))) (fun _ => ?_)
          refine Exists.intro _ (And.intro hp (Exists.intro 0 (Exists.intro 0 (And.intro (Nat.le_refl _) (And.intro (Nat.le_refl _) (x_isStage hX hp (by omega) (by omega) hk ?_))))))
          cases hc : sgB k s t with
          | false =>
            refine And.intro (fun _ => ?_) (fun cz => by first | exact absurd cz (by decide) | exact absurd (by decide) cz)
            exact go_loc (lv' := [(4, .int (nI t)), (3, .int (nI i)), (2, .int (nI s)), (0, .ref (w + 60)), (1, .int (nI n))]) ⟨rfl, rfl, rfl, rfl, rfl, trivial⟩ (go66)
          | true =>
            refine And.intro (fun cz => by first | exact absurd cz (by decide) | exact absurd (by decide) cz) (fun _ => ?_)
            refine Exists.intro _ (And.intro hp (Exists.intro _ (And.intro rfl ?_)))
            refine Exists.intro _ (Exists.intro _ (And.intro h3 (And.intro (vp_in_nI (show t < 128 by omega) (by decide)) ?_)))
            rw [nI_clamp (show t < 2 ^ 31 by omega), hst t (by omega)]
            refine Exists.intro _ (And.intro hp (Exists.intro _ (And.intro rfl ?_)))
            refine Exists.intro _ (Exists.intro _ (And.intro h3 (And.intro (vp_in_nI (show s < 128 by omega) (by decide)) ?_)))
            rw [nI_clamp (show s < 2 ^ 31 by omega), hst s hs, hl]
            refine And.intro (fun cz => absurd cz (fun (z : eX (LVo u k sf (dep u t)) = eX (some ((m - (i + 1)) + 1)) - 1) => ?_)) (fun _ => ?_)
            · have z2 : eX (LVo u k sf (dep u t)) = nI (m - (i + 1)) := z.trans (nI_pred _)
              cases hq : LVo u k sf (dep u t) with
              | none =>
                rw [hq] at z2
                exact absurd z2 (show (-2 : Int32) ≠ nI (m - (i + 1)) from fun y => (nI_n2 (by omega)).1 y.symm)
              | some q2 =>
                rw [hq] at z2
                have hq2 := LVo_lt hu hq
                have e5 : q2 = m - (i + 1) := (nI_eq (by omega) (by omega)).mp z2
                have := hn2 (dep u t) ⟨(sgB_c hs (by omega)).mp hc, _, hl, by rw [hq, e5]⟩
                rw [← ets] at this
                have := (dep_lt_iff (u := u) (s := t) (t := ts) (by omega) hts).mpr (by omega)
                omega
            · exact go_loc (lv' := [(4, .int (nI t)), (3, .int (nI i)), (2, .int (nI s)), (0, .ref (w + 60)), (1, .int (nI n))]) ⟨rfl, rfl, rfl, rfl, rfl, trivial⟩ (go66)
      refine Go.of hX.2 ck_X5_setBehind [20] 20 ?_
      refine And.intro (fun cz => absurd cz (nI_nlt (a := n) (b := i) (by omega) (by omega))) (fun _ => ?_)
      refine And.intro (fun cz => absurd cz (nI_ge (a := i) (b := 7) (by omega) (by decide))) (fun _ => ?_)
      refine go_loc (lv' := [(4, .int (nI s + 1)), (3, .int (nI i)), (2, .int (nI s)), (0, .ref (w + 60)), (1, .int (nI n))]) ⟨rfl, rfl, rfl, rfl, rfl, trivial⟩ ?_
      rw [← nI_succ]
      exact inner (ts - (s + 1)) (s + 1) (by omega) (Nat.lt_succ_self s)
  refine en_X5_setBehind hX [4] 20 rfl ?_
  exact go_loc (lv' := [(3, .int (nI 0)), (2, .int (nI 0)), (0, .ref (w + 60)), (1, .int (nI n))]) ⟨rfl, rfl, rfl, rfl, trivial⟩ (loop (n + 1) 0 0 (by omega) hp2 (dep_0 u))
