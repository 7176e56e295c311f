/-! texts cut into tokens, x -/
def bvN (m : Nat) : Int32 := (nI m).toInt8.toInt32
def cL (m : Nat) : Bool := decide (97 ≤ m) && decide (m ≤ 122)
def cD (m : Nat) : Bool := decide (48 ≤ m) && decide (m ≤ 57)
def cB (m : Nat) : Bool := decide (m = 9) || (decide (m = 10) || (decide (m = 13) || decide (m = 32)))
theorem bv_and : ∀ m, m < 256 → bvN m &&& 255 = nI m := by decide +kernel
theorem bv_nar : ∀ m, m < 256 → vp_nar (TY 2) (bvN m) = bvN m := by decide +kernel
theorem bv_L : ∀ m, m < 256 → (bvN m < 97 ↔ m < 97 ∨ 128 ≤ m) ∧ (bvN m ≤ 122 ↔ m ≤ 122 ∨ 128 ≤ m) := by decide +kernel
theorem bv_D : ∀ m, m < 256 → (bvN m < 48 ↔ m < 48 ∨ 128 ≤ m) ∧ (bvN m ≤ 57 ↔ m ≤ 57 ∨ 128 ≤ m) := by decide +kernel
theorem bv_B : ∀ m, m < 256 → (bvN m = 9 ↔ m = 9) ∧ (bvN m = 10 ↔ m = 10) ∧ (bvN m = 13 ↔ m = 13) ∧ (bvN m = 32 ↔ m = 32) := by decide +kernel
theorem bv_low : ∀ m, m < 128 → bvN m = nI m := by decide +kernel
set_option maxHeartbeats 8000000 in
theorem x_isLetter {l : Launch} {G : GG} {h : AH} {nx : Nat} {Post : Option Value → AH → Nat → Prop} {m : Nat} (hX : XC G ∧ TX l G) (hm : m < 256) (hP : Post (some (.int (nI (cL m).toNat))) h nx) : Runs l G i_X8_isLetter 0 0 [.int (bvN m)] h nx Post := by
  obtain ⟨a, b⟩ := bv_L m hm
  unfold cL at hP
  refine en_X8_isLetter hX [] 20 rfl ?_
  by_cases c1 : bvN m < 97
  · rw [show (decide (97 ≤ m) && decide (m ≤ 122)) = false from by
      rcases a.mp c1 with z | z
      · rw [decide_eq_false (by omega)]; rfl
      · rw [decide_eq_false (p := m ≤ 122) (by omega), Bool.and_false]] at hP
    refine And.intro (fun _ => ?_) (fun cz => absurd (c1) cz)
    exact And.intro rfl (hP)
  · refine And.intro (fun cz => absurd cz (c1)) (fun _ => ?_)
    by_cases c2 : bvN m ≤ 122
    · rw [show (decide (97 ≤ m) && decide (m ≤ 122)) = true from by
        have z1 : ¬ (m < 97 ∨ 128 ≤ m) := fun z => c1 (a.mpr z)
        have z2 := b.mp c2
        rw [decide_eq_true (by omega), decide_eq_true (by omega)]; rfl] at hP
      refine And.intro (fun cz => absurd cz (Int32.not_lt.mpr c2)) (fun _ => ?_)
      exact And.intro rfl (hP)
    · rw [show (decide (97 ≤ m) && decide (m ≤ 122)) = false from by
        have z2 : ¬ (m ≤ 122 ∨ 128 ≤ m) := fun z => c2 (b.mpr z)
        rw [decide_eq_false (p := m ≤ 122) (by omega), Bool.and_false]] at hP
      refine And.intro (fun _ => ?_) (fun cz => absurd (Int32.not_le.mp c2) cz)
      exact And.intro rfl (hP)
set_option maxHeartbeats 8000000 in
theorem x_isDigit {l : Launch} {G : GG} {h : AH} {nx : Nat} {Post : Option Value → AH → Nat → Prop} {m : Nat} (hX : XC G ∧ TX l G) (hm : m < 256) (hP : Post (some (.int (nI (cD m).toNat))) h nx) : Runs l G i_X8_isDigit 0 0 [.int (bvN m)] h nx Post := by
  obtain ⟨a, b⟩ := bv_D m hm
  unfold cD at hP
  refine en_X8_isDigit hX [] 20 rfl ?_
  by_cases c1 : bvN m < 48
  · rw [show (decide (48 ≤ m) && decide (m ≤ 57)) = false from by
      rcases a.mp c1 with z | z
      · rw [decide_eq_false (by omega)]; rfl
      · rw [decide_eq_false (p := m ≤ 57) (by omega), Bool.and_false]] at hP
    refine And.intro (fun _ => ?_) (fun cz => absurd (c1) cz)
    exact And.intro rfl (hP)
  · refine And.intro (fun cz => absurd cz (c1)) (fun _ => ?_)
    by_cases c2 : bvN m ≤ 57
    · rw [show (decide (48 ≤ m) && decide (m ≤ 57)) = true from by
        have z1 : ¬ (m < 48 ∨ 128 ≤ m) := fun z => c1 (a.mpr z)
        have z2 := b.mp c2
        rw [decide_eq_true (by omega), decide_eq_true (by omega)]; rfl] at hP
      refine And.intro (fun cz => absurd cz (Int32.not_lt.mpr c2)) (fun _ => ?_)
      exact And.intro rfl (hP)
    · rw [show (decide (48 ≤ m) && decide (m ≤ 57)) = false from by
        have z2 : ¬ (m ≤ 57 ∨ 128 ≤ m) := fun z => c2 (b.mpr z)
        rw [decide_eq_false (p := m ≤ 57) (by omega), Bool.and_false]] at hP
      refine And.intro (fun _ => ?_) (fun cz => absurd (Int32.not_le.mp c2) cz)
      exact And.intro rfl (hP)
set_option maxHeartbeats 8000000 in
theorem x_isBlank {l : Launch} {G : GG} {h : AH} {nx : Nat} {Post : Option Value → AH → Nat → Prop} {m : Nat} (hX : XC G ∧ TX l G) (hm : m < 256) (hP : Post (some (.int (nI (cB m).toNat))) h nx) : Runs l G i_X8_isBlank 0 0 [.int (bvN m)] h nx Post := by
  obtain ⟨a, b, c, d⟩ := bv_B m hm
  unfold cB at hP
  refine en_X8_isBlank hX [] 20 rfl ?_
  by_cases c1 : m = 9
  · rw [decide_eq_true c1, Bool.true_or] at hP
    refine And.intro (fun _ => ?_) (fun cz => absurd (a.mpr c1) cz)
    exact And.intro rfl (hP)
  · rw [decide_eq_false c1, Bool.false_or] at hP
    refine And.intro (fun cz => absurd cz (fun z => c1 (a.mp z))) (fun _ => ?_)
    by_cases c2 : m = 10
    · rw [decide_eq_true c2, Bool.true_or] at hP
      refine And.intro (fun _ => ?_) (fun cz => absurd (b.mpr c2) cz)
      exact And.intro rfl (hP)
    · rw [decide_eq_false c2, Bool.false_or] at hP
      refine And.intro (fun cz => absurd cz (fun z => c2 (b.mp z))) (fun _ => ?_)
      by_cases c3 : m = 13
      · rw [decide_eq_true c3, Bool.true_or] at hP
        refine And.intro (fun _ => ?_) (fun cz => absurd (c.mpr c3) cz)
        exact And.intro rfl (hP)
      · rw [decide_eq_false c3, Bool.false_or] at hP
        refine And.intro (fun cz => absurd cz (fun z => c3 (c.mp z))) (fun _ => ?_)
        by_cases c4 : m = 32
        · rw [decide_eq_true c4] at hP
          refine And.intro (fun cz => absurd (d.mpr c4) cz) (fun _ => ?_)
          exact And.intro rfl (hP)
        · rw [decide_eq_false c4] at hP
          refine And.intro (fun _ => ?_) (fun cz => absurd cz (fun z => c4 (d.mp z)))
          exact And.intro rfl (hP)
/-- how many bytes of a kind stand from a on -/
def rl (c : Nat → Bool) (u : Nat → Nat) (n : Nat) : Nat → Nat → Nat
  | 0, _ => 0
  | f + 1, a => if a < n ∧ c (u a) = true then rl c u n f (a + 1) + 1 else 0
def rL (c : Nat → Bool) (u : Nat → Nat) (n a : Nat) : Nat := rl c u n (n - a) a
theorem rL_s {c : Nat → Bool} {u : Nat → Nat} {n a : Nat} (h : a < n) (hc : c (u a) = true) : rL c u n a = rL c u n (a + 1) + 1 := by
  unfold rL
  rw [show n - a = (n - (a + 1)) + 1 by omega]
  exact if_pos ⟨h, hc⟩
theorem rL_0 {c : Nat → Bool} {u : Nat → Nat} {n a : Nat} (h : n ≤ a ∨ c (u a) = false) : rL c u n a = 0 := by
  unfold rL
  cases hn : n - a with
  | zero => rfl
  | succ m => exact if_neg (fun z => by
      rcases h with h | h
      · omega
      · rw [h] at z; cases z.2)
theorem rl_le {c : Nat → Bool} {u : Nat → Nat} {n : Nat} : ∀ f a, rl c u n f a ≤ n - a
  | 0, a => Nat.zero_le _
  | f + 1, a => by
    unfold rl
    split
    · next h =>
      have := rl_le (c := c) (u := u) (n := n) f (a + 1)
      omega
    · exact Nat.zero_le _
theorem rL_le (c : Nat → Bool) (u : Nat → Nat) (n a : Nat) : rL c u n a ≤ n - a := rl_le _ _
theorem rl_all {c : Nat → Bool} {u : Nat → Nat} {n : Nat} : ∀ f a i, i < rl c u n f a → c (u (a + i)) = true
  | 0, a, i, h => absurd h (Nat.not_lt_zero i)
  | f + 1, a, i, h => by
    unfold rl at h
    split at h
    · next h1 =>
      cases i with
      | zero => exact h1.2
      | succ i =>
        have := rl_all (c := c) (u := u) (n := n) f (a + 1) i (by omega)
        rw [show a + (i + 1) = a + 1 + i by omega]
        exact this
    · exact absurd h (Nat.not_lt_zero i)
theorem rL_all {c : Nat → Bool} {u : Nat → Nat} {n a i : Nat} (h : i < rL c u n a) : c (u (a + i)) = true := rl_all _ _ _ h
theorem rl_end {c : Nat → Bool} {u : Nat → Nat} {n : Nat} : ∀ f a, a + rl c u n f a < n → f = n - a → c (u (a + rl c u n f a)) = false
  | 0, a, h1, h2 => by
    have e : rl c u n 0 a = 0 := rfl
    omega
  | f + 1, a, h1, h2 => by
    by_cases cc : a < n ∧ c (u a) = true
    · have e1 : rl c u n (f + 1) a = rl c u n f (a + 1) + 1 := if_pos cc
      rw [e1] at h1 ⊢
      rw [show a + (rl c u n f (a + 1) + 1) = a + 1 + rl c u n f (a + 1) by omega]
      exact rl_end f (a + 1) (by omega) (by omega)
    · have e1 : rl c u n (f + 1) a = 0 := if_neg cc
      rw [e1] at h1 ⊢
      cases w : c (u (a + 0)) with
      | false => rfl
      | true => exact absurd ⟨by omega, w⟩ cc
theorem rL_end {c : Nat → Bool} {u : Nat → Nat} {n a : Nat} (h : a + rL c u n a < n) : c (u (a + rL c u n a)) = false := rl_end _ _ h rfl
/-- a letter's value, a word's, a number's -/
def lvN (m : Nat) : Int64 := (bvN m - 97 + 1).toInt64
def wv (u : Nat → Nat) (a : Nat) : Nat → Int64
  | 0 => 0
  | k + 1 => wv u a k * 27 + lvN (u (a + k))
def xv (u : Nat → Nat) (a : Nat) : Nat → Int64
  | 0 => 0
  | k + 1 => xv u a k * 10 + (bvN (u (a + k)) - 48).toInt64
/-- what a word is: its place in the row of words, or a name -/
def kwS (v : Int64) : Nat → Nat → Nat
  | 0, _ => 2
  | f + 1, i => if packS i = v then 4 + i else kwS v f (i + 1)
def kwV (v : Int64) : Nat := kwS v 8 0
def sgI (m : Nat) : Int32 := ixF (nI m) (byS 8) 0
def sgK (m : Nat) : Nat := if sgI m < 0 then 1 else 12 + (sgI m).toNatClampNeg
def skB (u : Nat → Nat) (n p : Nat) : Nat := p + rL cB u n p
/-- a token with no blank ahead of it: its kind, place, value, and where it ends -/
def tkB (u : Nat → Nat) (n p : Nat) : Nat × Nat × Int64 × Nat :=
  if n ≤ p then (0, p, 0, p)
  else if cL (u p) = true then (if rL cL u n p > 8 then 1 else kwV (wv u p (rL cL u n p)), p, wv u p (rL cL u n p), p + rL cL u n p)
  else if cD (u p) = true then (if rL cD u n p > 4 then 1 else 3, p, xv u p (rL cD u n p), p + rL cD u n p)
  else (sgK (u p), p, 0, p + 1)
def tkN (u : Nat → Nat) (n p : Nat) : Nat × Nat × Int64 × Nat := tkB u n (skB u n p)
theorem skB_le {u : Nat → Nat} {n p : Nat} (h : p ≤ n) : skB u n p ≤ n := by
  have := rL_le cB u n p
  unfold skB
  omega
theorem tkB_le {u : Nat → Nat} {n p : Nat} (h : p ≤ n) : (tkB u n p).2.2.2 ≤ n ∧ p ≤ (tkB u n p).2.2.2 := by
  unfold tkB
  split
  · exact ⟨h, Nat.le_refl _⟩
  · split
    · have := rL_le cL u n p
      exact ⟨by show p + _ ≤ n; omega, Nat.le_add_right _ _⟩
    · split
      · have := rL_le cD u n p
        exact ⟨by show p + _ ≤ n; omega, Nat.le_add_right _ _⟩
      · exact ⟨by show p + 1 ≤ n; omega, Nat.le_add_right _ _⟩
theorem kwS_lt (v : Int64) : ∀ f i, f + i ≤ 8 → kwS v f i < 12
  | 0, i, _ => by show 2 < 12; decide
  | f + 1, i, h => by
    unfold kwS
    split
    · omega
    · exact kwS_lt v f (i + 1) (by omega)
theorem kwV_lt (v : Int64) : kwV v < 12 := kwS_lt v 8 0 (by decide)
theorem sgK_c : ∀ m, m < 256 → sgK m < 19 := by decide +kernel
theorem sgK_23 : ∀ m, m < 256 → sgK m ≠ 2 ∧ sgK m ≠ 3 := by decide +kernel
theorem sgI_c : ∀ m, m < 256 → (sgI m < 0 ∧ sgK m = 1) ∨ (¬ sgI m < 0 ∧ 12 + sgI m = nI (sgK m)) := by decide +kernel
theorem i2c_c : ∀ m, m < 256 → ((bvN m &&& 255).toUInt32 % 65536).toInt32 = nI m := by decide +kernel
/-- the object that cuts -/
def tkO (qw qt n a kd pl : Nat) (v : Int64) : List Value := [.ref qw, .ref qt, .int (nI n), .int (nI a), .int (nI kd), .int (nI pl), .long v]
def wRow (h : AH) (qw : Nat) : Prop := ∃ g : Nat → Int64, h qw = some (.inl (1, 8, .inr (.inl g))) ∧ ∀ i, i < 8 → g i = packS i
def tRow (h : AH) (qt n : Nat) (u : Nat → Nat) : Prop := ∃ (N : Nat) (g : Nat → Int32), h qt = some (.inl (2, N, .inl g)) ∧ (n ≤ N ∧ N < 2 ^ 31) ∧ ∀ i, i < n → g i = bvN (u i)
set_option maxHeartbeats 8000000 in
theorem x_kindOfWord {l : Launch} {G : GG} {h : AH} {nx : Nat} {Post : Option Value → AH → Nat → Prop} {k qw qt n a kd pl : Nat} {v : Int64} (hX : XC G ∧ TX l G) (hk : h k = some (.inr (8, tkO qw qt n a kd pl v))) (hw : wRow h qw) (hP : Post (some (.int (nI (kwV v)))) h nx) : Runs l G i_X8_kindOfWord 0 0 [.ref k] h nx Post := by
  obtain ⟨g, e, p⟩ := hw
  have loop : ∀ (f i : Nat), f + i = 8 → kwS v f i = kwV v → Go l G 8 s_X8_kindOfWord 0 0 Post 2 [(1, .int (nI i)), (0, .ref k)] [] h nx 0 0 := by
    intro f
    induction f with
    | zero =>
      intro i hi hv
      have e2 : i = 8 := by omega
      subst e2
      rw [← hv] at hP
      refine Go.of hX.2 ck_X8_kindOfWord [] 30 ?_
      refine Exists.intro _ (And.intro hk (Exists.intro _ (And.intro rfl ?_)))
      refine Exists.intro _ (Exists.intro _ (And.intro e (And.intro (by decide) ?_)))
      refine And.intro (fun _ => ?_) (fun cz => absurd ((show (nI 8 : Int32) ≤ nI 8 from Int32.le_refl _)) cz)
      exact And.intro rfl (hP)
    | succ f ih =>
      intro i hi hv
      refine Go.of hX.2 ck_X8_kindOfWord [2] 30 ?_
      refine Exists.intro _ (And.intro hk (Exists.intro _ (And.intro rfl ?_)))
      refine Exists.intro _ (Exists.intro _ (And.intro e (And.intro (by decide) ?_)))
      refine And.intro (fun cz => absurd cz (nI_ge (a := i) (b := 8) (by omega) (by decide))) (fun _ => ?_)
      refine Exists.intro _ (And.intro hk (Exists.intro _ (And.intro rfl ?_)))
      refine Exists.intro _ (Exists.intro _ (And.intro e (And.intro (vp_in_nI (show i < 8 by omega) (by decide)) ?_)))
      rw [nI_clamp (show i < 2 ^ 31 by omega), p i (by omega)]
      refine Exists.intro _ (And.intro hk (Exists.intro _ (And.intro rfl ?_)))
      unfold kwS at hv
      by_cases c1 : packS i = v
      · rw [if_pos c1] at hv
        rw [← hv, ← nI_add] at hP
        refine And.intro (fun cz => absurd (cmp_eq.mpr c1) cz) (fun _ => ?_)
        exact And.intro rfl (hP)
      · rw [if_neg c1] at hv
        refine And.intro (fun _ => ?_) (fun cz => absurd cz (fun z => c1 (cmp_eq.mp z)))
        refine go_loc (lv' := [(1, .int (nI i + 1)), (0, .ref k)]) ⟨rfl, rfl, trivial⟩ ?_
        rw [← nI_succ]
        exact ih (i + 1) (by omega) hv
  refine en_X8_kindOfWord hX [2] 20 rfl ?_
  exact go_loc (lv' := [(1, .int (nI 0)), (0, .ref k)]) ⟨rfl, rfl, trivial⟩ (loop 8 0 (by decide) rfl)
set_option maxHeartbeats 8000000 in
theorem x_takeWord {l : Launch} {G : GG} {h : AH} {nx : Nat} {Post : Option Value → AH → Nat → Prop} {k qw qt n a kd : Nat} {u : Nat → Nat} (hX : XC G ∧ TX l G) (hk : h k = some (.inr (8, tkO qw qt n a kd a 0))) (hw : wRow h qw) (ht : tRow h qt n u) (hu : ∀ i, u i < 256) (ha : a ≤ n) (hn : n ≤ 2000) (nw : qw ≠ k) (nt : qt ≠ k) (hP : ∀ h1 : AH, (∀ x, x ≠ k → h1 x = h x) → h1 k = some (.inr (8, tkO qw qt n (a + rL cL u n a) (if rL cL u n a > 8 then 1 else kwV (wv u a (rL cL u n a))) a (wv u a (rL cL u n a)))) → Post none h1 nx) : Runs l G i_X8_takeWord 0 0 [.ref k] h nx Post := by
  obtain ⟨gw, ew, pw⟩ := id hw
  obtain ⟨N, gt, et, hN, pt⟩ := ht
  have loop : ∀ (m j : Nat) (h1 : AH), a + j + m = n → (∀ x, x ≠ k → h1 x = h x) → h1 k = some (.inr (8, tkO qw qt n (a + j) kd a (wv u a j))) → j + rL cL u n (a + j) = rL cL u n a → Go l G 8 s_X8_takeWord 0 0 Post 0 [(0, .ref k)] [] h1 nx 0 0 := by
    intro m
    have fin : ∀ (j : Nat) (h1 : AH), a + j ≤ n → (∀ x, x ≠ k → h1 x = h x) → h1 k = some (.inr (8, tkO qw qt n (a + j) kd a (wv u a j))) → rL cL u n a = j → Go l G 8 s_X8_takeWord 0 0 Post 59 [(0, .ref k)] [] h1 nx 0 0 := by
      intro j h1 hj fr e1 ej
      rw [ej] at hP
      refine Go.of hX.2 ck_X8_takeWord [] 40 ?_
      refine Exists.intro _ (And.intro e1 (Exists.intro _ (And.intro rfl ?_)))
      refine Exists.intro _ (And.intro e1 (Exists.intro _ (And.intro rfl ?_)))
      have es : nI (a + j) - nI a = nI j := by rw [nI_sub (by omega), Nat.add_sub_cancel_left]
      by_cases c1 : j > 8
      · rw [if_pos c1] at hP
        refine And.intro (fun cz => absurd cz (show ¬ nI (a + j) - nI a ≤ nI 8 from by rw [es]; exact fun z => absurd ((nI_leI (by omega) (by decide)).mp z) (by omega))) (fun _ => ?_)
        refine Exists.intro _ (And.intro e1 (And.intro (Nat.le_of_ble_eq_true rfl) (And.intro rfl (And.intro rfl ?_))))
        exact hP _ (fun x hx => (uph_ne hx).trans (fr x hx)) uph_eq
      · rw [if_neg c1] at hP
        refine And.intro (fun _ => ?_) (fun cz => absurd (show nI (a + j) - nI a ≤ nI 8 from by rw [es]; exact nI_le (by omega) (by decide)) cz)
        refine Exists.intro _ (And.intro e1 (Exists.intro 0 (Exists.intro 0 (And.intro (Nat.le_refl _) (And.intro (Nat.le_refl _) (x_kindOfWord hX e1 ⟨gw, (fr qw nw).trans ew, pw⟩ ?_))))))
        refine Exists.intro _ (And.intro e1 (And.intro (Nat.le_of_ble_eq_true rfl) (And.intro rfl (And.intro rfl ?_))))
        exact hP _ (fun x hx => (uph_ne hx).trans (fr x hx)) uph_eq
    induction m with
    | zero =>
      intro j h1 hj fr e1 er
      rw [rL_0 (Or.inl (by omega)), Nat.add_zero] at er
      refine Go.of hX.2 ck_X8_takeWord [59] 20 ?_
      refine Exists.intro _ (And.intro e1 (Exists.intro _ (And.intro rfl ?_)))
      refine Exists.intro _ (And.intro e1 (Exists.intro _ (And.intro rfl ?_)))
      refine And.intro (fun _ => ?_) (fun cz => absurd (nI_le (a := n) (b := a + j) (by omega) (by omega)) cz)
      exact go_loc (lv' := [(0, .ref k)]) ⟨rfl, trivial⟩ (fin j h1 (by omega) fr e1 er.symm)
    | succ m ih =>
      intro j h1 hj fr e1 er
      have et1 := (fr qt nt).trans et
      refine Go.of hX.2 ck_X8_takeWord [0, 59] 60 ?_
      refine Exists.intro _ (And.intro e1 (Exists.intro _ (And.intro rfl ?_)))
      refine Exists.intro _ (And.intro e1 (Exists.intro _ (And.intro rfl ?_)))
      refine And.intro (fun cz => absurd cz (nI_ge (a := a + j) (b := n) (by omega) (by omega))) (fun _ => ?_)
      refine Exists.intro _ (And.intro e1 (Exists.intro _ (And.intro rfl ?_)))
      refine Exists.intro _ (And.intro e1 (Exists.intro _ (And.intro rfl ?_)))
      refine Exists.intro 2 (Exists.intro _ (Exists.intro _ (And.intro et1 (And.intro (Or.inl rfl) (And.intro (vp_in_nI (show a + j < N by omega) (by omega)) ?_)))))
      rw [nI_clamp (show a + j < 2 ^ 31 by omega), pt (a + j) (by omega)]
      refine Exists.intro 0 (Exists.intro 0 (And.intro (Nat.le_refl _) (And.intro (Nat.le_refl _) (x_isLetter hX (hu _) ?_))))
      cases cl : cL (u (a + j)) with
      | false =>
        rw [rL_0 (Or.inr cl), Nat.add_zero] at er
        refine And.intro (fun _ => ?_) (fun cz => by first | exact absurd cz (by decide) | exact absurd (by decide) cz)
        exact go_loc (lv' := [(0, .ref k)]) ⟨rfl, trivial⟩ (fin j h1 (by omega) fr e1 er.symm)
      | true =>
        rw [rL_s (by omega) cl] at er
        refine And.intro (fun cz => by first | exact absurd cz (by decide) | exact absurd (by decide) cz) (fun _ => ?_)
        refine Exists.intro _ (And.intro e1 (Exists.intro _ (And.intro rfl ?_)))
        refine Exists.intro _ (And.intro e1 (Exists.intro _ (And.intro rfl ?_)))
        refine Exists.intro _ (And.intro e1 (Exists.intro _ (And.intro rfl ?_)))
        refine Exists.intro 2 (Exists.intro _ (Exists.intro _ (And.intro et1 (And.intro (Or.inl rfl) (And.intro (vp_in_nI (show a + j < N by omega) (by omega)) ?_)))))
        rw [nI_clamp (show a + j < 2 ^ 31 by omega), pt (a + j) (by omega)]
        refine Exists.intro 0 (Exists.intro 0 (And.intro (Nat.le_refl _) (And.intro (Nat.le_refl _) (c_packLetter hX ?_))))
        refine Exists.intro _ (And.intro e1 (And.intro (Nat.le_of_ble_eq_true rfl) (And.intro rfl (And.intro rfl ?_))))
        refine Exists.intro _ (And.intro uph_eq (Exists.intro _ (And.intro rfl ?_)))
        refine Exists.intro _ (And.intro uph_eq (And.intro (Nat.le_of_ble_eq_true rfl) (And.intro rfl (And.intro rfl ?_))))
        refine go_loc (lv' := [(0, .ref k)]) ⟨rfl, trivial⟩ ?_
        rw [uph_uph]
        refine ih (j + 1) _ (by omega) (fun x hx => (uph_ne hx).trans (fr x hx)) (uph_eq.trans ?_) (by rw [show a + (j + 1) = a + j + 1 by omega]; omega)
        show some (Sum.inr (8, [.ref qw, .ref qt, .int (nI n), .int (nI (a + j) + 1), .int (nI kd), .int (nI a), .long (wv u a j * 27 + (bvN (u (a + j)) - 97 + 1).toInt64)])) = some (Sum.inr (8, tkO qw qt n (a + (j + 1)) kd a (wv u a (j + 1))))
        rw [← nI_succ]
        rfl
  refine en_X8_takeWord hX [] 0 rfl ?_
  exact go_loc (lv' := [(0, .ref k)]) ⟨rfl, trivial⟩ (loop (n - a) 0 h (by omega) (fun _ _ => rfl) hk (by rw [Nat.zero_add, Nat.add_zero]))
set_option maxHeartbeats 8000000 in
theorem x_takeNumber {l : Launch} {G : GG} {h : AH} {nx : Nat} {Post : Option Value → AH → Nat → Prop} {k qw qt n a kd : Nat} {u : Nat → Nat} (hX : XC G ∧ TX l G) (hk : h k = some (.inr (8, tkO qw qt n a kd a 0))) (ht : tRow h qt n u) (hu : ∀ i, u i < 256) (ha : a ≤ n) (hn : n ≤ 2000) (nt : qt ≠ k) (hP : ∀ h1 : AH, (∀ x, x ≠ k → h1 x = h x) → h1 k = some (.inr (8, tkO qw qt n (a + rL cD u n a) (if rL cD u n a > 4 then 1 else 3) a (xv u a (rL cD u n a)))) → Post none h1 nx) : Runs l G i_X8_takeNumber 0 0 [.ref k] h nx Post := by
  obtain ⟨N, gt, et, hN, pt⟩ := ht
  have loop : ∀ (m j : Nat) (h1 : AH), a + j + m = n → (∀ x, x ≠ k → h1 x = h x) → h1 k = some (.inr (8, tkO qw qt n (a + j) kd a (xv u a j))) → j + rL cD u n (a + j) = rL cD u n a → Go l G 8 s_X8_takeNumber 0 0 Post 0 [(0, .ref k)] [] h1 nx 0 0 := by
    intro m
    have fin : ∀ (j : Nat) (h1 : AH), a + j ≤ n → (∀ x, x ≠ k → h1 x = h x) → h1 k = some (.inr (8, tkO qw qt n (a + j) kd a (xv u a j))) → rL cD u n a = j → Go l G 8 s_X8_takeNumber 0 0 Post 65 [(0, .ref k)] [] h1 nx 0 0 := by
      intro j h1 hj fr e1 ej
      rw [ej] at hP
      refine Go.of hX.2 ck_X8_takeNumber [] 40 ?_
      refine Exists.intro _ (And.intro e1 (Exists.intro _ (And.intro rfl ?_)))
      refine Exists.intro _ (And.intro e1 (Exists.intro _ (And.intro rfl ?_)))
      have es : nI (a + j) - nI a = nI j := by rw [nI_sub (by omega), Nat.add_sub_cancel_left]
      by_cases c1 : j > 4
      · rw [if_pos c1] at hP
        refine And.intro (fun cz => absurd cz (show ¬ nI (a + j) - nI a ≤ nI 4 from by rw [es]; exact fun z => absurd ((nI_leI (by omega) (by decide)).mp z) (by omega))) (fun _ => ?_)
        refine Exists.intro _ (And.intro e1 (And.intro (Nat.le_of_ble_eq_true rfl) (And.intro rfl (And.intro rfl ?_))))
        exact hP _ (fun x hx => (uph_ne hx).trans (fr x hx)) uph_eq
      · rw [if_neg c1] at hP
        refine And.intro (fun _ => ?_) (fun cz => absurd (show nI (a + j) - nI a ≤ nI 4 from by rw [es]; exact nI_le (by omega) (by decide)) cz)
        refine Exists.intro _ (And.intro e1 (And.intro (Nat.le_of_ble_eq_true rfl) (And.intro rfl (And.intro rfl ?_))))
        exact hP _ (fun x hx => (uph_ne hx).trans (fr x hx)) uph_eq
    induction m with
    | zero =>
      intro j h1 hj fr e1 er
      rw [rL_0 (Or.inl (by omega)), Nat.add_zero] at er
      refine Go.of hX.2 ck_X8_takeNumber [65] 20 ?_
      refine Exists.intro _ (And.intro e1 (Exists.intro _ (And.intro rfl ?_)))
      refine Exists.intro _ (And.intro e1 (Exists.intro _ (And.intro rfl ?_)))
      refine And.intro (fun _ => ?_) (fun cz => absurd (nI_le (a := n) (b := a + j) (by omega) (by omega)) cz)
      exact go_loc (lv' := [(0, .ref k)]) ⟨rfl, trivial⟩ (fin j h1 (by omega) fr e1 er.symm)
    | succ m ih =>
      intro j h1 hj fr e1 er
      have et1 := (fr qt nt).trans et
      refine Go.of hX.2 ck_X8_takeNumber [0, 65] 60 ?_
      refine Exists.intro _ (And.intro e1 (Exists.intro _ (And.intro rfl ?_)))
      refine Exists.intro _ (And.intro e1 (Exists.intro _ (And.intro rfl ?_)))
      refine And.intro (fun cz => absurd cz (nI_ge (a := a + j) (b := n) (by omega) (by omega))) (fun _ => ?_)
      refine Exists.intro _ (And.intro e1 (Exists.intro _ (And.intro rfl ?_)))
      refine Exists.intro _ (And.intro e1 (Exists.intro _ (And.intro rfl ?_)))
      refine Exists.intro 2 (Exists.intro _ (Exists.intro _ (And.intro et1 (And.intro (Or.inl rfl) (And.intro (vp_in_nI (show a + j < N by omega) (by omega)) ?_)))))
      rw [nI_clamp (show a + j < 2 ^ 31 by omega), pt (a + j) (by omega)]
      refine Exists.intro 0 (Exists.intro 0 (And.intro (Nat.le_refl _) (And.intro (Nat.le_refl _) (x_isDigit hX (hu _) ?_))))
      cases cl : cD (u (a + j)) with
      | false =>
        rw [rL_0 (Or.inr cl), Nat.add_zero] at er
        refine And.intro (fun _ => ?_) (fun cz => by first | exact absurd cz (by decide) | exact absurd (by decide) cz)
        exact go_loc (lv' := [(0, .ref k)]) ⟨rfl, trivial⟩ (fin j h1 (by omega) fr e1 er.symm)
      | true =>
        rw [rL_s (by omega) cl] at er
        refine And.intro (fun cz => by first | exact absurd cz (by decide) | exact absurd (by decide) cz) (fun _ => ?_)
        refine Exists.intro _ (And.intro e1 (Exists.intro _ (And.intro rfl ?_)))
        refine Exists.intro _ (And.intro e1 (Exists.intro _ (And.intro rfl ?_)))
        refine Exists.intro _ (And.intro e1 (Exists.intro _ (And.intro rfl ?_)))
        refine Exists.intro 2 (Exists.intro _ (Exists.intro _ (And.intro et1 (And.intro (Or.inl rfl) (And.intro (vp_in_nI (show a + j < N by omega) (by omega)) ?_)))))
        rw [nI_clamp (show a + j < 2 ^ 31 by omega), pt (a + j) (by omega)]
        refine Exists.intro _ (And.intro e1 (And.intro (Nat.le_of_ble_eq_true rfl) (And.intro rfl (And.intro rfl ?_))))
        refine Exists.intro _ (And.intro uph_eq (Exists.intro _ (And.intro rfl ?_)))
        refine Exists.intro _ (And.intro uph_eq (And.intro (Nat.le_of_ble_eq_true rfl) (And.intro rfl (And.intro rfl ?_))))
        refine go_loc (lv' := [(0, .ref k)]) ⟨rfl, trivial⟩ ?_
        rw [uph_uph]
        refine ih (j + 1) _ (by omega) (fun x hx => (uph_ne hx).trans (fr x hx)) (uph_eq.trans ?_) (by rw [show a + (j + 1) = a + j + 1 by omega]; omega)
        show some (Sum.inr (8, [.ref qw, .ref qt, .int (nI n), .int (nI (a + j) + 1), .int (nI kd), .int (nI a), .long (xv u a j * 10 + (bvN (u (a + j)) - 48).toInt64)])) = some (Sum.inr (8, tkO qw qt n (a + (j + 1)) kd a (xv u a (j + 1))))
        rw [← nI_succ]
        rfl
  refine en_X8_takeNumber hX [] 0 rfl ?_
  exact go_loc (lv' := [(0, .ref k)]) ⟨rfl, trivial⟩ (loop (n - a) 0 h (by omega) (fun _ _ => rfl) hk (by rw [Nat.zero_add, Nat.add_zero]))
set_option maxHeartbeats 8000000 in
theorem x_takeToken {l : Launch} {G : GG} {h : AH} {nx : Nat} {Post : Option Value → AH → Nat → Prop} {k qw qt n p kd pl : Nat} {v : Int64} {u : Nat → Nat} (hX : XC G ∧ TX l G) (hk : h k = some (.inr (8, tkO qw qt n p kd pl v))) (hw : wRow h qw) (ht : tRow h qt n u) (hu : ∀ i, u i < 256) (hp : p ≤ n) (hn : n ≤ 2000) (nw : qw ≠ k) (nt : qt ≠ k) (hP : ∀ h1 : AH, (∀ x, x ≠ k → h1 x = h x) → h1 k = some (.inr (8, tkO qw qt n (tkN u n p).2.2.2 (tkN u n p).1 (tkN u n p).2.1 (tkN u n p).2.2.1)) → Post none h1 nx) : Runs l G i_X8_takeToken 0 0 [.ref k] h nx Post := by
  obtain ⟨N, gt, et, hN, pt⟩ := id ht
  obtain ⟨gw, ew, pw⟩ := id hw
  have mid : ∀ (a : Nat) (h1 : AH), a ≤ n → (∀ x, x ≠ k → h1 x = h x) → h1 k = some (.inr (8, tkO qw qt n a kd a 0)) → tkN u n p = tkB u n a → Go l G 8 s_X8_takeToken 0 0 Post 52 [(0, .ref k)] [] h1 nx 0 0 := by
    intro a h1 ha fr e1 ea
    rw [ea] at hP
    unfold tkB at hP
    have et1 : h1 qt = some (.inl (2, N, .inl gt)) := (fr qt nt).trans et
    refine Go.of hX.2 ck_X8_takeToken [135] 80 ?_
    refine Exists.intro _ (And.intro e1 (Exists.intro _ (And.intro rfl ?_)))
    refine Exists.intro _ (And.intro e1 (Exists.intro _ (And.intro rfl ?_)))
    by_cases c0 : n ≤ a
    · rw [if_pos c0] at hP
      refine And.intro (fun cz => absurd cz (nI_nlt c0 (by omega))) (fun _ => ?_)
      refine Exists.intro _ (And.intro e1 (And.intro (Nat.le_of_ble_eq_true rfl) (And.intro rfl (And.intro rfl ?_))))
      exact hP _ (fun x hx => (uph_ne hx).trans (fr x hx)) uph_eq
    · rw [if_neg c0] at hP
      refine And.intro (fun _ => ?_) (fun cz => absurd (nI_lt (a := a) (b := n) (by omega) (by omega)) cz)
      refine Exists.intro _ (And.intro e1 (Exists.intro _ (And.intro rfl ?_)))
      refine Exists.intro _ (And.intro e1 (Exists.intro _ (And.intro rfl ?_)))
      refine Exists.intro 2 (Exists.intro _ (Exists.intro _ (And.intro et1 (And.intro (Or.inl rfl) (And.intro (vp_in_nI (show a < N by omega) (by omega)) ?_)))))
      rw [nI_clamp (show a < 2 ^ 31 by omega), pt a (by omega)]
      refine Exists.intro 0 (Exists.intro 0 (And.intro (Nat.le_refl _) (And.intro (Nat.le_refl _) (x_isLetter hX (hu _) ?_))))
      cases cl : cL (u a) with
      | true =>
        rw [if_pos cl] at hP
        refine And.intro (fun cz => by first | exact absurd cz (by decide) | exact absurd (by decide) cz) (fun _ => ?_)
        refine Exists.intro _ (And.intro e1 (Exists.intro 0 (Exists.intro 0 (And.intro (Nat.le_refl _) (And.intro (Nat.le_refl _) (x_takeWord hX e1 ⟨gw, (fr qw nw).trans ew, pw⟩ ⟨N, gt, et1, hN, pt⟩ hu ha hn nw nt (fun h2 f2 e2 => ?_)))))))
        exact hP h2 (fun x hx => (f2 x hx).trans (fr x hx)) e2
      | false =>
        rw [if_neg (by rw [cl]; decide)] at hP
        refine And.intro (fun _ => ?_) (fun cz => by first | exact absurd cz (by decide) | exact absurd (by decide) cz)
        refine Exists.intro _ (And.intro e1 (Exists.intro _ (And.intro rfl ?_)))
        refine Exists.intro _ (And.intro e1 (Exists.intro _ (And.intro rfl ?_)))
        refine Exists.intro 2 (Exists.intro _ (Exists.intro _ (And.intro et1 (And.intro (Or.inl rfl) (And.intro (vp_in_nI (show a < N by omega) (by omega)) ?_)))))
        rw [nI_clamp (show a < 2 ^ 31 by omega), pt a (by omega)]
        refine Exists.intro 0 (Exists.intro 0 (And.intro (Nat.le_refl _) (And.intro (Nat.le_refl _) (x_isDigit hX (hu _) ?_))))
        cases cd : cD (u a) with
        | true =>
          rw [if_pos cd] at hP
          refine And.intro (fun cz => by first | exact absurd cz (by decide) | exact absurd (by decide) cz) (fun _ => ?_)
          refine Exists.intro _ (And.intro e1 (Exists.intro 0 (Exists.intro 0 (And.intro (Nat.le_refl _) (And.intro (Nat.le_refl _) (x_takeNumber hX e1 ⟨N, gt, et1, hN, pt⟩ hu ha hn nt (fun h2 f2 e2 => ?_)))))))
          exact hP h2 (fun x hx => (f2 x hx).trans (fr x hx)) e2
        | false =>
          rw [if_neg (by rw [cd]; decide)] at hP
          refine And.intro (fun _ => ?_) (fun cz => by first | exact absurd cz (by decide) | exact absurd (by decide) cz)
          refine Exists.intro _ (And.intro e1 (Exists.intro _ (And.intro rfl ?_)))
          refine Exists.intro _ (And.intro e1 (Exists.intro _ (And.intro rfl ?_)))
          refine Exists.intro 2 (Exists.intro _ (Exists.intro _ (And.intro et1 (And.intro (Or.inl rfl) (And.intro (vp_in_nI (show a < N by omega) (by omega)) ?_)))))
          rw [nI_clamp (show a < 2 ^ 31 by omega), pt a (by omega)]
          refine Exists.intro 8 (And.intro rfl (And.intro (by decide) (And.intro rfl ?_)))
          refine go_loc (lv' := [(1, .int (ixF (((bvN (u a) &&& 255).toUInt32 % 65536).toInt32) (byS 8) 0)), (0, .ref k)]) ⟨rfl, rfl, trivial⟩ ?_
          rw [i2c_c _ (hu a)]
          refine Go.of hX.2 ck_X8_takeToken [] 40 ?_
          rcases sgI_c (u a) (hu a) with ⟨z1, z2⟩ | ⟨z1, z2⟩
          · refine And.intro (fun cz => absurd cz (Int32.not_le.mpr (show ixF (nI (u a)) (byS 8) 0 < 0 from z1))) (fun _ => ?_)
            refine Exists.intro _ (And.intro e1 (And.intro (Nat.le_of_ble_eq_true rfl) (And.intro rfl (And.intro rfl ?_))))
            refine Exists.intro _ (And.intro uph_eq (Exists.intro _ (And.intro rfl ?_)))
            refine Exists.intro _ (And.intro uph_eq (And.intro (Nat.le_of_ble_eq_true rfl) (And.intro rfl (And.intro rfl ?_))))
            refine hP _ (fun x hx => (uph_ne hx).trans ((uph_ne hx).trans (fr x hx))) (uph_eq.trans ?_)
            show some (Sum.inr (8, [.ref qw, .ref qt, .int (nI n), .int (nI a + 1), .int 1, .int (nI a), .long 0])) = some (Sum.inr (8, tkO qw qt n (a + 1) (sgK (u a)) a 0))
            rw [← nI_succ, z2]
            rfl
          · refine And.intro (fun _ => ?_) (fun cz => absurd (Int32.not_lt.mp (show ¬ ixF (nI (u a)) (byS 8) 0 < 0 from z1)) cz)
            refine Exists.intro _ (And.intro e1 (And.intro (Nat.le_of_ble_eq_true rfl) (And.intro rfl (And.intro rfl ?_))))
            refine Exists.intro _ (And.intro uph_eq (Exists.intro _ (And.intro rfl ?_)))
            refine Exists.intro _ (And.intro uph_eq (And.intro (Nat.le_of_ble_eq_true rfl) (And.intro rfl (And.intro rfl ?_))))
            refine hP _ (fun x hx => (uph_ne hx).trans ((uph_ne hx).trans (fr x hx))) (uph_eq.trans ?_)
            show some (Sum.inr (8, [.ref qw, .ref qt, .int (nI n), .int (nI a + 1), .int (12 + sgI (u a)), .int (nI a), .long 0])) = some (Sum.inr (8, tkO qw qt n (a + 1) (sgK (u a)) a 0))
            rw [← nI_succ, z2]
            rfl
  have fin : ∀ (a : Nat) (h1 : AH), a ≤ n → (∀ x, x ≠ k → h1 x = h x) → h1 k = some (.inr (8, tkO qw qt n a kd pl v)) → tkN u n p = tkB u n a → Go l G 8 s_X8_takeToken 0 0 Post 39 [(0, .ref k)] [] h1 nx 0 0 := by
    intro a h1 ha fr e1 ea
    refine Go.of hX.2 ck_X8_takeToken [52] 40 ?_
    refine Exists.intro _ (And.intro e1 (Exists.intro _ (And.intro rfl ?_)))
    refine Exists.intro _ (And.intro e1 (And.intro (Nat.le_of_ble_eq_true rfl) (And.intro rfl (And.intro rfl ?_))))
    refine Exists.intro _ (And.intro uph_eq (And.intro (Nat.le_of_ble_eq_true rfl) (And.intro rfl (And.intro rfl ?_))))
    refine go_loc (lv' := [(0, .ref k)]) ⟨rfl, trivial⟩ ?_
    exact mid a _ ha (fun x hx => (uph_ne hx).trans ((uph_ne hx).trans (fr x hx))) uph_eq ea
  have loop : ∀ (m a : Nat) (h1 : AH), a + m = n → (∀ x, x ≠ k → h1 x = h x) → h1 k = some (.inr (8, tkO qw qt n a kd pl v)) → skB u n p = skB u n a → Go l G 8 s_X8_takeToken 0 0 Post 0 [(0, .ref k)] [] h1 nx 0 0 := by
    intro m
    have ok : ∀ a, skB u n p = skB u n a → rL cB u n a = 0 → tkN u n p = tkB u n a := fun a h1 h2 => by
      unfold tkN
      rw [h1]
      unfold skB
      rw [h2]
      rfl
    induction m with
    | zero =>
      intro a h1 ha fr e1 es
      refine Go.of hX.2 ck_X8_takeToken [39] 20 ?_
      refine Exists.intro _ (And.intro e1 (Exists.intro _ (And.intro rfl ?_)))
      refine Exists.intro _ (And.intro e1 (Exists.intro _ (And.intro rfl ?_)))
      refine And.intro (fun _ => ?_) (fun cz => absurd (nI_le (a := n) (b := a) (by omega) (by omega)) cz)
      exact go_loc (lv' := [(0, .ref k)]) ⟨rfl, trivial⟩ (fin a h1 (by omega) fr e1 (ok a es (rL_0 (Or.inl (by omega)))))
    | succ m ih =>
      intro a h1 ha fr e1 es
      have et1 := (fr qt nt).trans et
      refine Go.of hX.2 ck_X8_takeToken [0, 39] 60 ?_
      refine Exists.intro _ (And.intro e1 (Exists.intro _ (And.intro rfl ?_)))
      refine Exists.intro _ (And.intro e1 (Exists.intro _ (And.intro rfl ?_)))
      refine And.intro (fun cz => absurd cz (nI_ge (a := a) (b := n) (by omega) (by omega))) (fun _ => ?_)
      refine Exists.intro _ (And.intro e1 (Exists.intro _ (And.intro rfl ?_)))
      refine Exists.intro _ (And.intro e1 (Exists.intro _ (And.intro rfl ?_)))
      refine Exists.intro 2 (Exists.intro _ (Exists.intro _ (And.intro et1 (And.intro (Or.inl rfl) (And.intro (vp_in_nI (show a < N by omega) (by omega)) ?_)))))
      rw [nI_clamp (show a < 2 ^ 31 by omega), pt a (by omega)]
      refine Exists.intro 0 (Exists.intro 0 (And.intro (Nat.le_refl _) (And.intro (Nat.le_refl _) (x_isBlank hX (hu _) ?_))))
      cases cl : cB (u a) with
      | false =>
        refine And.intro (fun _ => ?_) (fun cz => by first | exact absurd cz (by decide) | exact absurd (by decide) cz)
        exact go_loc (lv' := [(0, .ref k)]) ⟨rfl, trivial⟩ (fin a h1 (by omega) fr e1 (ok a es (rL_0 (Or.inr cl))))
      | true =>
        refine And.intro (fun cz => by first | exact absurd cz (by decide) | exact absurd (by decide) cz) (fun _ => ?_)
        refine Exists.intro _ (And.intro e1 (Exists.intro _ (And.intro rfl ?_)))
        refine Exists.intro _ (And.intro e1 (And.intro (Nat.le_of_ble_eq_true rfl) (And.intro rfl (And.intro rfl ?_))))
        refine go_loc (lv' := [(0, .ref k)]) ⟨rfl, trivial⟩ ?_
        refine ih (a + 1) _ (by omega) (fun x hx => (uph_ne hx).trans (fr x hx)) (uph_eq.trans ?_) (es.trans ?_)
        · show some (Sum.inr (8, [.ref qw, .ref qt, .int (nI n), .int (nI a + 1), .int (nI kd), .int (nI pl), .long v])) = some (Sum.inr (8, tkO qw qt n (a + 1) kd pl v))
          rw [← nI_succ]
          rfl
        · unfold skB
          rw [rL_s (by omega) cl]
          omega
  refine en_X8_takeToken hX [] 0 rfl ?_
  exact go_loc (lv' := [(0, .ref k)]) ⟨rfl, trivial⟩ (loop (n - p) p h (by omega) (fun _ _ => rfl) hk rfl)
/-- the tokens of a text, one after the other -/
def psN (u : Nat → Nat) (n : Nat) : Nat → Nat
  | 0 => 0
  | i + 1 => (tkN u n (psN u n i)).2.2.2
def kdN (u : Nat → Nat) (n i : Nat) : Nat := (tkN u n (psN u n i)).1
def plN (u : Nat → Nat) (n i : Nat) : Nat := (tkN u n (psN u n i)).2.1
def vaN (u : Nat → Nat) (n i : Nat) : Int64 := (tkN u n (psN u n i)).2.2.1
theorem psN_le (u : Nat → Nat) (n : Nat) : ∀ i, psN u n i ≤ n
  | 0 => Nat.zero_le n
  | i + 1 => (tkB_le (skB_le (psN_le u n i))).1
theorem kdN_lt {u : Nat → Nat} (hu : ∀ i, u i < 256) (n i : Nat) : kdN u n i < 19 := by
  unfold kdN tkN
  generalize skB u n (psN u n i) = q
  unfold tkB
  split
  · show 0 < 19
    decide
  · split
    · show (if rL cL u n q > 8 then 1 else kwV (wv u q (rL cL u n q))) < 19
      have := kwV_lt (wv u q (rL cL u n q))
      split <;> omega
    · split
      · show (if rL cD u n q > 4 then 1 else 3) < 19
        split <;> omega
      · exact sgK_c _ (hu _)
theorem plN_le (u : Nat → Nat) (n i : Nat) : plN u n i ≤ n := by
  have := skB_le (u := u) (psN_le u n i)
  unfold plN tkN
  generalize skB u n (psN u n i) = q at *
  unfold tkB
  split
  · exact this
  · split
    · exact this
    · split
      · exact this
      · exact this
