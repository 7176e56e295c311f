/-! the model's flaws -/
theorem uph3 {h : AH} {a b c : Nat} {x y z x' y' z' : AE} (h1 : a ≠ b) (h2 : a ≠ c) (h3 : b ≠ c) : uph (uph (uph (uph (uph (uph h a x) b y) c z) a x') b y') c z' = uph (uph (uph h a x') b y') c z' := by
  funext q
  unfold uph
  by_cases e3 : q = c
  · simp [e3]
  · by_cases e2 : q = b
    · simp [e3, e2]
    · by_cases e1 : q = a
      · simp [e3, e2, e1]
      · simp [e3, e2, e1]
/-- a flaw's number, -1 for none -/
def flI : Option Nat → Int32
  | some n => nI n
  | none => -1
def wlF (f : Option Nat) (k : Nat) : Bool := match f with
  | some n => decide (n < 200 ∧ n % 4 = 0 ∧ n / 4 = k)
  | none => false
def brF (f : Option Nat) (k : Nat) : Bool := match f with
  | some n => decide (n < 200 ∧ n % 4 = 1 ∧ n / 4 = k)
  | none => false
def crF (f : Option Nat) (k : Nat) : Bool := match f with
  | some n => decide (n < 200 ∧ n % 4 = 2 ∧ n / 4 = k)
  | none => false
/-- the relay that sticks, and up if the number is even -/
def skF (f : Option Nat) : Nat := match f with
  | some n => if n < 200 then 0 else 2 ^ ((n - 200) / 2)
  | none => 0
def suF (f : Option Nat) : Nat := match f with
  | some n => if n < 200 then 0 else if n % 2 = 0 then 2 ^ ((n - 200) / 2) else 0
  | none => 0
/-- a flaw that there may be in a drawing with so many contacts and relays -/
def okF (K nR : Nat) (f : Option Nat) : Prop := match f with
  | some n => (n < 200 → n / 4 < K ∧ n % 4 < 3 ∧ (n % 4 = 2 → n / 4 + 1 < K)) ∧ (200 ≤ n → n < 200 + 2 * nR)
  | none => True
theorem rfM_no : ∀ j, j < 63 → rfM j ≠ 61 ∧ rfM j ≠ 62 := by decide +kernel
def soF (fs : List Value) : List Value := (fs.set 61 (.int 0)).set 62 (.int 0)
set_option maxHeartbeats 4000000 in
theorem c_sound {l : Launch} {G : GG} {h : AH} {nx : Nat} {Post : Option Value → AH → Nat → Prop} {o : Nat} {gw gb gc : Nat → Int32} {fs : List Value} (hX : XC G ∧ TX l G) (hM : MA h o fs) (h37 : h (o + 1 + 37) = some (.inl (3, 40, .inl gw))) (h38 : h (o + 1 + 38) = some (.inl (3, 40, .inl gb))) (h39 : h (o + 1 + 39) = some (.inl (3, 40, .inl gc))) (hP : ∀ g1 g2 g3 : Nat → Int32, (∀ k, k < 40 → g1 k = 0 ∧ g2 k = 0 ∧ g3 k = 0) → Post none (uph (uph (uph (uph h (o + 1 + 37) (.inl (3, 40, .inl g1))) (o + 1 + 38) (.inl (3, 40, .inl g2))) (o + 1 + 39) (.inl (3, 40, .inl g3))) o (.inr (12, soF fs))) nx) : Runs l G i_X12_sound 0 0 [.ref o] h nx Post := by
  have loop : ∀ (n j : Nat) (g1 g2 g3 : Nat → Int32), j + n = 40 → (∀ k, k < j → g1 k = 0 ∧ g2 k = 0 ∧ g3 k = 0) → Go l G 12 s_X12_sound 0 0 Post 2 [(1, .int (nI j)), (0, .ref o)] [] (uph (uph (uph h (o + 1 + 37) (.inl (3, 40, .inl g1))) (o + 1 + 38) (.inl (3, 40, .inl g2))) (o + 1 + 39) (.inl (3, 40, .inl g3))) nx 0 0 := by
    intro n
    induction n with
    | zero =>
      intro j g1 g2 g3 hj hz
      obtain rfl : j = 40 := by omega
      refine Go.of hX.2 ck_X12_sound [] 30 ?_
      refine And.intro (fun _ => ?_) (fun cz => by first | exact absurd cz (by decide) | exact absurd (by decide) cz)
      refine Exists.intro _ (And.intro (by rw [uph_ne (by omega), uph_ne (by omega), uph_ne (by omega)]; exact hM.1) (And.intro (by have := hM.2.1; omega) (And.intro rfl (And.intro rfl ?_))))
      refine Exists.intro _ (And.intro uph_eq (And.intro (by have := hM.2.1; simp only [List.length_set]; omega) (And.intro rfl (And.intro rfl ?_))))
      rw [uph_uph]
      exact hP g1 g2 g3 hz
    | succ n ih =>
      intro j g1 g2 g3 hj hz
      refine Go.of hX.2 ck_X12_sound [2] 60 ?_
      refine And.intro (fun cz => absurd cz (nI_ge (b := 40) (by omega) (by decide))) (fun _ => ?_)
      refine Exists.intro _ (And.intro (by rw [uph_ne (by omega), uph_ne (by omega), uph_ne (by omega)]; exact hM.1) (Exists.intro _ (And.intro (hM.2.2 37 (by decide)) ?_)))
      refine Exists.intro 3 (Exists.intro _ (Exists.intro _ (And.intro (by rw [uph_ne (by omega), uph_ne (by omega)]; exact uph_eq) (And.intro (Or.inr rfl) (And.intro (vp_in_nI (by omega) (by decide)) ?_)))))
      rw [nI_clamp (by omega), show vp_nar (TY 3) 0 = 0 from by decide]
      refine Exists.intro _ (And.intro (by rw [uph_ne (by omega), uph_ne (by omega), uph_ne (by omega), uph_ne (by omega)]; exact hM.1) (Exists.intro _ (And.intro (hM.2.2 38 (by decide)) ?_)))
      refine Exists.intro 3 (Exists.intro _ (Exists.intro _ (And.intro (by rw [uph_ne (by omega), uph_ne (by omega)]; exact uph_eq) (And.intro (Or.inr rfl) (And.intro (vp_in_nI (by omega) (by decide)) ?_)))))
      rw [nI_clamp (by omega), show vp_nar (TY 3) 0 = 0 from by decide]
      refine Exists.intro _ (And.intro (by rw [uph_ne (by omega), uph_ne (by omega), uph_ne (by omega), uph_ne (by omega), uph_ne (by omega)]; exact hM.1) (Exists.intro _ (And.intro (hM.2.2 39 (by decide)) ?_)))
      refine Exists.intro 3 (Exists.intro _ (Exists.intro _ (And.intro (by rw [uph_ne (by omega), uph_ne (by omega)]; exact uph_eq) (And.intro (Or.inr rfl) (And.intro (vp_in_nI (by omega) (by decide)) ?_)))))
      rw [nI_clamp (by omega), show vp_nar (TY 3) 0 = 0 from by decide, uph3 (by omega) (by omega) (by omega)]
      refine go_loc (lv' := [(1, .int (nI j + 1)), (0, .ref o)]) ⟨rfl, rfl, trivial⟩ ?_
      rw [← nI_succ]
      refine ih (j + 1) _ _ _ (by omega) (fun k hk => ?_)
      by_cases e : k = j
      · subst e; exact ⟨pk_us, pk_us, pk_us⟩
      · obtain ⟨q1, q2, q3⟩ := hz k (by omega)
        exact ⟨(pk_un e).trans q1, (pk_un e).trans q2, (pk_un e).trans q3⟩
  refine en_X12_sound hX [2] 20 rfl ?_
  have k39 : uph (uph h (o + 1 + 37) (.inl (3, 40, .inl gw))) (o + 1 + 38) (.inl (3, 40, .inl gb)) (o + 1 + 39) = some (.inl (3, 40, .inl gc)) := by rw [uph_ne (by omega), uph_ne (by omega)]; exact h39
  have k38 : uph h (o + 1 + 37) (.inl (3, 40, .inl gw)) (o + 1 + 38) = some (.inl (3, 40, .inl gb)) := by rw [uph_ne (by omega)]; exact h38
  have h0 := loop 40 0 gw gb gc rfl (fun k hk => absurd hk (Nat.not_lt_zero k))
  rw [uph_self k39, uph_self k38, uph_self h37] at h0
  exact go_loc (lv' := [(1, .int (nI 0)), (0, .ref o)]) ⟨rfl, rfl, trivial⟩ h0
set_option maxHeartbeats 4000000 in
theorem c_spoils {l : Launch} {G : GG} {h : AH} {nx : Nat} {Post : Option Value → AH → Nat → Prop} {o K nR st su : Nat} {wl br cr : Nat → Bool} {f : Option Nat} {fs : List Value} (hX : XC G ∧ TX l G) (hM : MA h o fs) (hW : WB h o wl br cr) (f61 : fs[61]? = some (.int (nI st))) (f62 : fs[62]? = some (.int (nI su))) (hK : K ≤ 40) (hR6 : nR ≤ 6) (hf : okF K nR f) (hP : ∀ (h1 : AH) (fs1 : List Value), MA h1 o fs1 → WB h1 o (fun k => wl k || wlF f k) (fun k => br k || brF f k) (fun k => cr k || crF f k) → fs1[61]? = some (.int (nI (st ||| skF f))) → fs1[62]? = some (.int (nI (su ||| suF f))) → (∀ k, k ≠ 61 → k ≠ 62 → fs1[k]? = fs[k]?) → (∀ a, a ≠ o → a ≠ o + 1 + 37 → a ≠ o + 1 + 38 → a ≠ o + 1 + 39 → h1 a = h a) → Post none h1 nx) : Runs l G i_X12_spoils 0 0 [.ref o, .int (flI f)] h nx Post := by
  obtain ⟨gw, gb, gc, h37, h38, h39, e1, e2, e3⟩ := hW
  cases f with
  | none =>
    refine en_X12_spoils hX [] 20 rfl ?_
    refine And.intro (fun cz => by first | exact absurd cz (by decide) | exact absurd (by decide) cz) (fun _ => ?_)
    refine hP h fs hM ⟨gw, gb, gc, h37, h38, h39, fun k hk => ?_, fun k hk => ?_, fun k hk => ?_⟩ (by rw [show st ||| skF none = st from Nat.or_zero st]; exact f61) (by rw [show su ||| suF none = su from Nat.or_zero su]; exact f62) (fun _ _ _ => rfl) (fun _ _ _ _ _ => rfl)
    · rw [e1 k hk]; simp [wlF]
    · rw [e2 k hk]; simp [brF]
    · rw [e3 k hk]; simp [crF]
  | some n =>
    show Runs l G i_X12_spoils 0 0 [.ref o, .int (nI n)] h nx Post
    have hn3 : ¬ nI n = -1 := fun z => absurd (z ▸ (nI_pos' (n := n) (by have := hf.1; have := hf.2; by_cases hh : n < 200 <;> omega))) (by decide)
    have hn212 : n < 212 := by have := hf.2; by_cases hh : n < 200 <;> omega
    refine en_X12_spoils hX [] 120 rfl ?_
    refine And.intro (fun _ => ?_) (fun cz => absurd cz hn3)
    by_cases h200 : n < 200
    · obtain ⟨b1, b2, b3⟩ := hf.1 h200
      have hk40 : n / 4 < 40 := by omega
      refine And.intro (fun _ => ?_) (fun cz => absurd (nI_lt (b := 200) h200 (by decide)) cz)
      have er : nI n - nI n / 4 * 4 = nI (n % 4) := pk_rem (d := 4) (by omega) (by decide) (by decide)
      have ed : nI n / 4 = nI (n / 4) := pk_div (d := 4) (by omega) (by decide) (by decide)
      have es0 : st ||| skF (some n) = st := by unfold skF; simp [h200]
      have eu0 : su ||| suF (some n) = su := by unfold suF; simp [h200]
      refine And.intro (by decide) ?_
      by_cases m0 : n % 4 = 0
      · refine And.intro (fun cz => absurd (by rw [er, m0]; rfl) cz) (fun _ => ?_)
        refine Exists.intro _ (And.intro hM.1 (Exists.intro _ (And.intro (hM.2.2 37 (by decide)) ?_)))
        refine And.intro (by decide) ?_
        refine Exists.intro 3 (Exists.intro _ (Exists.intro _ (And.intro h37 (And.intro (Or.inr rfl) (And.intro (by rw [ed]; exact vp_in_nI hk40 (by decide)) ?_)))))
        rw [ed, nI_clamp (by omega), show vp_nar (TY 3) 1 = 1 from by decide]
        refine hP _ fs (hM.keep (uph_ne (by omega))) ⟨_, gb, gc, uph_eq, (uph_ne (by omega)).trans h38, (uph_ne (by omega)).trans h39, fun k hk => ?_, fun k hk => ?_, fun k hk => ?_⟩ (by rw [es0]; exact f61) (by rw [eu0]; exact f62) (fun _ _ _ => rfl) (fun a x1 x2 x3 x4 => uph_ne x2)
        · by_cases e : k = n / 4
          · subst e; rw [show upd gw (n / 4) 1 (n / 4) = 1 from pk_us]; simp [wlF, h200, m0]; rfl
          · rw [show upd gw (n / 4) 1 k = gw k from pk_un e, e1 k hk]; simp [wlF, Ne.symm e]
        · rw [e2 k hk]; simp [brF, m0]
        · rw [e3 k hk]; simp [crF, m0]
      · refine And.intro (fun _ => ?_) (fun cz => absurd ((nI_eq (by omega) (by decide)).mp (show nI (n % 4) = nI 0 from er.symm.trans cz)) m0)
        refine And.intro (by decide) ?_
        by_cases m1 : n % 4 = 1
        · refine And.intro (fun cz => absurd (by rw [er, m1]; rfl) cz) (fun _ => ?_)
          refine Exists.intro _ (And.intro hM.1 (Exists.intro _ (And.intro (hM.2.2 38 (by decide)) ?_)))
          refine And.intro (by decide) ?_
          refine Exists.intro 3 (Exists.intro _ (Exists.intro _ (And.intro h38 (And.intro (Or.inr rfl) (And.intro (by rw [ed]; exact vp_in_nI hk40 (by decide)) ?_)))))
          rw [ed, nI_clamp (by omega), show vp_nar (TY 3) 1 = 1 from by decide]
          refine hP _ fs (hM.keep (uph_ne (by omega))) ⟨gw, _, gc, (uph_ne (by omega)).trans h37, uph_eq, (uph_ne (by omega)).trans h39, fun k hk => ?_, fun k hk => ?_, fun k hk => ?_⟩ (by rw [es0]; exact f61) (by rw [eu0]; exact f62) (fun _ _ _ => rfl) (fun a x1 x2 x3 x4 => uph_ne x3)
          · rw [e1 k hk]; simp [wlF, m1]
          · by_cases e : k = n / 4
            · subst e; rw [show upd gb (n / 4) 1 (n / 4) = 1 from pk_us]; simp [brF, h200, m1]; rfl
            · rw [show upd gb (n / 4) 1 k = gb k from pk_un e, e2 k hk]; simp [brF, Ne.symm e]
          · rw [e3 k hk]; simp [crF, m1]
        · have m2 : n % 4 = 2 := by omega
          refine And.intro (fun _ => ?_) (fun cz => absurd ((nI_eq (by omega) (by decide)).mp (show nI (n % 4) = nI 1 from er.symm.trans cz)) m1)
          refine Exists.intro _ (And.intro hM.1 (Exists.intro _ (And.intro (hM.2.2 39 (by decide)) ?_)))
          refine And.intro (by decide) ?_
          refine Exists.intro 3 (Exists.intro _ (Exists.intro _ (And.intro h39 (And.intro (Or.inr rfl) (And.intro (by rw [ed]; exact vp_in_nI hk40 (by decide)) ?_)))))
          rw [ed, nI_clamp (by omega), show vp_nar (TY 3) 1 = 1 from by decide]
          refine hP _ fs (hM.keep (uph_ne (by omega))) ⟨gw, gb, _, (uph_ne (by omega)).trans h37, (uph_ne (by omega)).trans h38, uph_eq, fun k hk => ?_, fun k hk => ?_, fun k hk => ?_⟩ (by rw [es0]; exact f61) (by rw [eu0]; exact f62) (fun _ _ _ => rfl) (fun a x1 x2 x3 x4 => uph_ne x4)
          · rw [e1 k hk]; simp [wlF, m2]
          · rw [e2 k hk]; simp [brF, m2]
          · by_cases e : k = n / 4
            · subst e; rw [show upd gc (n / 4) 1 (n / 4) = 1 from pk_us]; simp [crF, h200, m2]; rfl
            · rw [show upd gc (n / 4) 1 k = gc k from pk_un e, e3 k hk]; simp [crF, Ne.symm e]
    · refine And.intro (fun cz => absurd cz (nI_nlt (b := 200) (by omega) (by omega))) (fun _ => ?_)
      have e99 : fs.length = 99 := hM.2.1
      have ed : (nI n - 200) / 2 = nI ((n - 200) / 2) := by rw [show nI n - 200 = nI (n - 200) from nI_sub (b := 200) (by omega)]; exact pk_div (d := 2) (by omega) (by decide) (by decide)
      have er : nI n - nI n / 2 * 2 = nI (n % 2) := pk_rem (d := 2) (by omega) (by decide) (by decide)
      have hr31 : (n - 200) / 2 < 31 := by omega
      have ew : ∀ k, wlF (some n) k = false ∧ brF (some n) k = false ∧ crF (some n) k = false := fun k => by unfold wlF brF crF; simp [h200]
      have eks : skF (some n) = 2 ^ ((n - 200) / 2) := by unfold skF; simp [h200]
      refine And.intro (by decide) ?_
      refine Exists.intro _ (And.intro hM.1 (Exists.intro _ (And.intro f61 ?_)))
      refine Exists.intro _ (And.intro hM.1 (And.intro (by omega) (And.intro rfl (And.intro rfl ?_))))
      refine And.intro (by decide) ?_
      have mk : ∀ (h1 : AH) (fs1 : List Value), h1 o = some (.inr (12, fs1)) → fs1.length = 99 → fs1[61]? = some (.int (nI (st ||| skF (some n)))) → fs1[62]? = some (.int (nI (su ||| suF (some n)))) → (∀ k, k ≠ 61 → k ≠ 62 → fs1[k]? = fs[k]?) → (∀ a, a ≠ o → h1 a = h a) → Post none h1 nx := fun h1 fs1 q1 q2 q3 q4 q5 q6 => hP h1 fs1 ⟨q1, q2, fun j hj => by rw [q5 _ (rfM_no j hj).1 (rfM_no j hj).2]; exact hM.2.2 j hj⟩ ⟨gw, gb, gc, (q6 _ (by omega)).trans h37, (q6 _ (by omega)).trans h38, (q6 _ (by omega)).trans h39, fun k hk => by rw [e1 k hk]; show nI (wl k).toNat = nI (wl k || wlF (some n) k).toNat; rw [(ew k).1, Bool.or_false], fun k hk => by rw [e2 k hk]; show nI (br k).toNat = nI (br k || brF (some n) k).toNat; rw [(ew k).2.1, Bool.or_false], fun k hk => by rw [e3 k hk]; show nI (cr k).toNat = nI (cr k || crF (some n) k).toNat; rw [(ew k).2.2, Bool.or_false]⟩ q3 q4 q5 (fun a x1 _ _ _ => q6 a x1)
      have ebit : nI st ||| ((1 : Int32) <<< (((nI n - 200) / 2) &&& 31)) = nI (st ||| skF (some n)) := by rw [ed, nx_pow (by omega), nx_or, eks]
      have ebit2 : nI su ||| ((1 : Int32) <<< (((nI n - 200) / 2) &&& 31)) = nI (su ||| 2 ^ ((n - 200) / 2)) := by rw [ed, nx_pow (by omega), nx_or]
      by_cases m0 : n % 2 = 0
      · have eus : suF (some n) = 2 ^ ((n - 200) / 2) := by unfold suF; simp [h200, m0]
        refine And.intro (fun cz => absurd (by rw [er, m0]; rfl) cz) (fun _ => ?_)
        refine Exists.intro _ (And.intro uph_eq (Exists.intro _ (And.intro ((get_set_ne (by decide)).trans f62) ?_)))
        refine Exists.intro _ (And.intro uph_eq (And.intro (by simp only [List.length_set]; omega) (And.intro rfl (And.intro rfl ?_))))
        rw [uph_uph, ebit, ebit2]
        refine mk _ _ uph_eq (by simp only [List.length_set]; exact e99) (by rw [get_set_ne (by decide)]; exact get_set (by omega)) (by rw [eus]; exact get_set (by simp only [List.length_set]; omega)) (fun k k1 k2 => by rw [get_set_ne (Ne.symm k2), get_set_ne (Ne.symm k1)]) (fun a ha => uph_ne ha)
      · have eus : suF (some n) = 0 := by unfold suF; simp [h200, m0]
        refine And.intro (fun _ => ?_) (fun cz => absurd ((nI_eq (by omega) (by decide)).mp (show nI (n % 2) = nI 0 from er.symm.trans cz)) m0)
        rw [ebit]
        refine mk _ _ uph_eq (by simp only [List.length_set]; exact e99) (get_set (by omega)) (by rw [get_set_ne (by decide), eus, Nat.or_zero]; exact f62) (fun k k1 k2 => by rw [get_set_ne (Ne.symm k1)]) (fun a ha => uph_ne ha)
