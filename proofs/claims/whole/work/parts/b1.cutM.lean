/-! the model cuts a text -/
set_option maxHeartbeats 8000000 in
theorem m_isLetter {l : Launch} {G : GG} {h : AH} {nx : Nat} {Post : Option Value → AH → Nat → Prop} {m : Nat} (hX : XC G ∧ TX l G) (hm : m < 256) (hP : Post (some (.int (nI (cL m).toNat))) h nx) : Runs l G i_X12_isLetter 0 0 [.int (nI m)] h nx Post := by
  unfold cL at hP
  refine en_X12_isLetter hX [] 20 rfl ?_
  by_cases c1 : 97 ≤ m
  · rw [decide_eq_true c1, Bool.true_and] at hP
    refine And.intro (fun cz => absurd cz (nI_nlt (a := m) (b := 97) c1 (by omega))) (fun _ => ?_)
    by_cases c2 : m ≤ 122
    · rw [decide_eq_true c2] at hP
      refine And.intro (fun cz => absurd cz (nI_nlt (a := 122) (b := m) c2 (by decide))) (fun _ => ?_)
      exact And.intro rfl (hP)
    · rw [decide_eq_false c2] at hP
      refine And.intro (fun _ => ?_) (fun cz => absurd (nI_lt (a := 122) (b := m) (by omega) (by omega)) cz)
      exact And.intro rfl (hP)
  · rw [decide_eq_false c1, Bool.false_and] at hP
    refine And.intro (fun _ => ?_) (fun cz => absurd (nI_lt (a := m) (b := 97) (by omega) (by decide)) cz)
    exact And.intro rfl (hP)
set_option maxHeartbeats 8000000 in
theorem m_isDigit {l : Launch} {G : GG} {h : AH} {nx : Nat} {Post : Option Value → AH → Nat → Prop} {m : Nat} (hX : XC G ∧ TX l G) (hm : m < 256) (hP : Post (some (.int (nI (cD m).toNat))) h nx) : Runs l G i_X12_isDigit 0 0 [.int (nI m)] h nx Post := by
  unfold cD at hP
  refine en_X12_isDigit hX [] 20 rfl ?_
  by_cases c1 : 48 ≤ m
  · rw [decide_eq_true c1, Bool.true_and] at hP
    refine And.intro (fun cz => absurd cz (nI_nlt (a := m) (b := 48) c1 (by omega))) (fun _ => ?_)
    by_cases c2 : m ≤ 57
    · rw [decide_eq_true c2] at hP
      refine And.intro (fun cz => absurd cz (nI_nlt (a := 57) (b := m) c2 (by decide))) (fun _ => ?_)
      exact And.intro rfl (hP)
    · rw [decide_eq_false c2] at hP
      refine And.intro (fun _ => ?_) (fun cz => absurd (nI_lt (a := 57) (b := m) (by omega) (by omega)) cz)
      exact And.intro rfl (hP)
  · rw [decide_eq_false c1, Bool.false_and] at hP
    refine And.intro (fun _ => ?_) (fun cz => absurd (nI_lt (a := m) (b := 48) (by omega) (by decide)) cz)
    exact And.intro rfl (hP)
/-- the byte at i, 0 behind the text -/
def byU (u : Nat → Nat) (n i : Nat) : Nat := if i < n then u i else 0
theorem byU_lt {u : Nat → Nat} (hu : ∀ i, u i < 256) (n i : Nat) : byU u n i < 256 := by
  unfold byU
  split
  · exact hu i
  · decide
set_option maxHeartbeats 8000000 in
theorem m_byteAt {l : Launch} {G : GG} {h : AH} {nx : Nat} {Post : Option Value → AH → Nat → Prop} {o qt n i : Nat} {u : Nat → Nat} {fs : List Value} (hX : XC G ∧ TX l G) (ho : h o = some (.inr (12, fs))) (f4 : fs[4]? = some (.int (nI n))) (f3 : fs[3]? = some (.ref qt)) (ht : tRow h qt n u) (hu : ∀ i, u i < 256) (hn : n ≤ 2000) (hi : i < 4000) (hP : Post (some (.int (nI (byU u n i)))) h nx) : Runs l G i_X12_byteAt 0 0 [.ref o, .int (nI i)] h nx Post := by
  obtain ⟨N, g, e, hN, p⟩ := ht
  unfold byU at hP
  refine en_X12_byteAt hX [] 20 rfl ?_
  refine Exists.intro _ (And.intro ho (Exists.intro _ (And.intro f4 ?_)))
  by_cases c : i < n
  · rw [if_pos c, ← bv_and (u i) (hu i)] at hP
    refine And.intro (fun cz => absurd cz (nI_ge c (by omega))) (fun _ => ?_)
    refine Exists.intro _ (And.intro ho (Exists.intro _ (And.intro f3 ?_)))
    refine Exists.intro 2 (Exists.intro _ (Exists.intro _ (And.intro e (And.intro (Or.inl rfl) (And.intro (vp_in_nI (show i < N by omega) (by omega)) ?_)))))
    rw [nI_clamp (show i < 2 ^ 31 by omega), p i c]
    exact And.intro rfl (hP)
  · rw [if_neg c] at hP
    refine And.intro (fun _ => ?_) (fun cz => absurd (nI_le (a := n) (b := i) (by omega) (by omega)) cz)
    exact And.intro rfl (hP)
set_option maxHeartbeats 8000000 in
theorem m_appends {l : Launch} {G : GG} {h : AH} {nx : Nat} {Post : Option Value → AH → Nat → Prop} {v : Int64} {m : Nat} (hX : XC G ∧ TX l G) (hm : cL m = true) (hP : Post (some (.long (v * 27 + lvN m))) h nx) : Runs l G i_X12_appends 0 0 [.long v, .int (nI m)] h nx Post := by
  unfold cL at hm
  rw [Bool.and_eq_true, decide_eq_true_eq, decide_eq_true_eq] at hm
  have e : (27 : Int64) * v + (nI m - 97 + 1).toInt64 = v * 27 + lvN m := by
    rw [Int64.mul_comm]
    unfold lvN
    rw [bv_low m (by omega)]
  rw [← e] at hP
  refine en_X12_appends hX [] 30 rfl ?_
  refine And.intro (fun _ => ?_) (fun cz => absurd cz (nI_ne0 (by omega) (by omega)))
  exact hP
/-- the sign's kind, the model's way -/
def sgM (m : Nat) : Nat := if m = 59 then 4 else if m = 61 then 5 else if m = 40 then 6 else if m = 41 then 7 else if m = 33 then 8 else if m = 38 then 9 else if m = 124 then 10 else 3
/-- x's kinds of tokens as the model numbers them -/
def mkK (k : Nat) : Nat := if k = 0 then 0 else if k = 1 then 3 else if k = 2 then 1 else if k = 3 then 2 else if k < 12 then k + 16 else if k = 12 then 4 else if k = 13 then 5 else if k = 14 then 8 else if k = 15 then 9 else if k = 16 then 10 else if k = 17 then 6 else 7
theorem sgM_c : ∀ m, m < 256 → sgM m = mkK (sgK m) := by decide +kernel
set_option maxHeartbeats 8000000 in
theorem m_sign {l : Launch} {G : GG} {h : AH} {nx : Nat} {Post : Option Value → AH → Nat → Prop} {m : Nat} (hX : XC G ∧ TX l G) (hm : m < 256) (hP : Post (some (.int (nI (sgM m)))) h nx) : Runs l G i_X12_sign 0 0 [.int (nI m)] h nx Post := by
  have ne : ∀ k, k < 256 → m ≠ k → ¬ nI m = nI k := fun k hk z y => z ((nI_eq (by omega) (by omega)).mp y)
  unfold sgM at hP
  refine en_X12_sign hX [] 60 rfl ?_
  by_cases c1 : m = 59
  · rw [if_pos c1] at hP
    refine And.intro (fun cz => absurd (show nI m = 59 from by rw [c1]; rfl) cz) (fun _ => ?_)
    exact And.intro rfl (hP)
  · rw [if_neg c1] at hP
    refine And.intro (fun _ => ?_) (fun cz => absurd cz (ne 59 (by decide) c1))
    by_cases c2 : m = 61
    · rw [if_pos c2] at hP
      refine And.intro (fun cz => absurd (show nI m = 61 from by rw [c2]; rfl) cz) (fun _ => ?_)
      exact And.intro rfl (hP)
    · rw [if_neg c2] at hP
      refine And.intro (fun _ => ?_) (fun cz => absurd cz (ne 61 (by decide) c2))
      by_cases c3 : m = 40
      · rw [if_pos c3] at hP
        refine And.intro (fun cz => absurd (show nI m = 40 from by rw [c3]; rfl) cz) (fun _ => ?_)
        exact And.intro rfl (hP)
      · rw [if_neg c3] at hP
        refine And.intro (fun _ => ?_) (fun cz => absurd cz (ne 40 (by decide) c3))
        by_cases c4 : m = 41
        · rw [if_pos c4] at hP
          refine And.intro (fun cz => absurd (show nI m = 41 from by rw [c4]; rfl) cz) (fun _ => ?_)
          exact And.intro rfl (hP)
        · rw [if_neg c4] at hP
          refine And.intro (fun _ => ?_) (fun cz => absurd cz (ne 41 (by decide) c4))
          by_cases c5 : m = 33
          · rw [if_pos c5] at hP
            refine And.intro (fun cz => absurd (show nI m = 33 from by rw [c5]; rfl) cz) (fun _ => ?_)
            exact And.intro rfl (hP)
          · rw [if_neg c5] at hP
            refine And.intro (fun _ => ?_) (fun cz => absurd cz (ne 33 (by decide) c5))
            by_cases c6 : m = 38
            · rw [if_pos c6] at hP
              refine And.intro (fun cz => absurd (show nI m = 38 from by rw [c6]; rfl) cz) (fun _ => ?_)
              exact And.intro rfl (hP)
            · rw [if_neg c6] at hP
              refine And.intro (fun _ => ?_) (fun cz => absurd cz (ne 38 (by decide) c6))
              by_cases c7 : m = 124
              · rw [if_pos c7] at hP
                refine And.intro (fun cz => absurd (show nI m = 124 from by rw [c7]; rfl) cz) (fun _ => ?_)
                exact And.intro rfl (hP)
              · rw [if_neg c7] at hP
                refine And.intro (fun _ => ?_) (fun cz => absurd cz (ne 124 (by decide) c7))
                exact And.intro rfl (hP)
/-- a word's value as a number; words of eight letters are no key words -/
def wvN (u : Nat → Nat) (a : Nat) : Nat → Nat
  | 0 => 0
  | k + 1 => wvN u a k * 27 + (u (a + k) - 96)
theorem lvN_c : ∀ m, 97 ≤ m → m ≤ 122 → lvN m = lN (m - 96) := by
  have : ∀ m, m < 123 → 97 ≤ m → lvN m = lN (m - 96) := by decide +kernel
  exact fun m h1 h2 => this m (by omega) h1
theorem wv_N {u : Nat → Nat} {a : Nat} : ∀ k, (∀ i, i < k → cL (u (a + i)) = true) → wv u a k = lN (wvN u a k)
  | 0, _ => rfl
  | k + 1, h => by
    have hk := h k (Nat.lt_succ_self k)
    unfold cL at hk
    rw [Bool.and_eq_true, decide_eq_true_eq, decide_eq_true_eq] at hk
    show wv u a k * 27 + lvN (u (a + k)) = lN (wvN u a k * 27 + (u (a + k) - 96))
    rw [wv_N k (fun i hi => h i (by omega)), lvN_c _ hk.1 hk.2, show (27 : Int64) = lN 27 from rfl, lN_mul, lN_add]
theorem wvN_b {u : Nat → Nat} {a : Nat} : ∀ k, (∀ i, i < k → cL (u (a + i)) = true) → wvN u a k < 27 ^ k ∧ (0 < k → 27 ^ (k - 1) ≤ wvN u a k)
  | 0, _ => ⟨by show 0 < 27 ^ 0; decide, fun h => absurd h (by decide)⟩
  | k + 1, h => by
    have hk := h k (Nat.lt_succ_self k)
    unfold cL at hk
    rw [Bool.and_eq_true, decide_eq_true_eq, decide_eq_true_eq] at hk
    obtain ⟨a1, a2⟩ := wvN_b k (fun i hi => h i (by omega))
    have e : wvN u a (k + 1) = wvN u a k * 27 + (u (a + k) - 96) := rfl
    rw [e, Nat.pow_succ, Nat.add_sub_cancel]
    refine ⟨by omega, fun _ => ?_⟩
    cases k with
    | zero => show 27 ^ 0 ≤ _; have : (27 : Nat) ^ 0 = 1 := rfl; omega
    | succ k =>
      have := a2 (by omega)
      rw [Nat.add_sub_cancel] at this
      rw [Nat.pow_succ]
      omega
theorem pkS_lt : ∀ i, i < 8 → packS i < 27 ^ 5 ∧ 0 < packS i := by decide +kernel
theorem kw_8 {u : Nat → Nat} {a : Nat} (h : ∀ i, i < 8 → cL (u (a + i)) = true) : ∀ i, i < 8 → packS i ≠ wv u a 8 := fun i hi e => by
  obtain ⟨b1, b2⟩ := wvN_b 8 h
  have b3 := b2 (by decide)
  have h1 := (pkS_lt i hi).1
  rw [e, wv_N 8 h] at h1
  have h2 : (lN (wvN u a 8)).toInt = (wvN u a 8 : Int) := lg_ofNat_toInt (by
    have : (27 : Nat) ^ 8 < 2 ^ 63 := by decide
    omega)
  rw [Int64.lt_iff_toInt_lt, h2] at h1
  have h3 : ((27 : Int64) ^ 5).toInt = 14348907 := by decide
  rw [h3] at h1
  have h4 : (27 : Nat) ^ (8 - 1) = 10460353203 := by decide
  omega
theorem kwS_no {v : Int64} : ∀ f i, (∀ j, i ≤ j → j < i + f → packS j ≠ v) → kwS v f i = 2
  | 0, _, _ => rfl
  | f + 1, i, h => by
    unfold kwS
    rw [if_neg (h i (Nat.le_refl i) (by omega))]
    exact kwS_no f (i + 1) (fun j h1 h2 => h j (by omega) (by omega))
theorem kwS_at {v : Int64} : ∀ f i j, i ≤ j → j < i + f → packS j = v → (∀ k, i ≤ k → k < j → packS k ≠ v) → kwS v f i = 4 + j
  | 0, i, j, h1, h2, _, _ => by omega
  | f + 1, i, j, h1, h2, h3, h4 => by
    unfold kwS
    by_cases c : i = j
    · rw [c, if_pos h3]
    · rw [if_neg (h4 i (Nat.le_refl i) (by omega))]
      exact kwS_at f (i + 1) j (by omega) (by omega) h3 (fun k a b => h4 k (by omega) b)
theorem pkS_inj : ∀ i, i < 8 → ∀ j, j < 8 → packS i = packS j → i = j := by decide +kernel
/-- numbers of at most four digits -/
def nvN (u : Nat → Nat) (a : Nat) : Nat → Nat
  | 0 => 0
  | k + 1 => 10 * nvN u a k + (u (a + k) - 48)
theorem dv_c : ∀ m, 48 ≤ m → m ≤ 57 → (bvN m - 48).toInt64 = lN (m - 48) := by
  have : ∀ m, m < 58 → 48 ≤ m → (bvN m - 48).toInt64 = lN (m - 48) := by decide +kernel
  exact fun m h1 h2 => this m (by omega) h1
theorem xv_N {u : Nat → Nat} {a : Nat} : ∀ k, (∀ i, i < k → cD (u (a + i)) = true) → xv u a k = lN (nvN u a k) ∧ nvN u a k < 10 ^ k
  | 0, _ => ⟨rfl, by show 0 < 10 ^ 0; decide⟩
  | k + 1, h => by
    have hk := h k (Nat.lt_succ_self k)
    unfold cD at hk
    rw [Bool.and_eq_true, decide_eq_true_eq, decide_eq_true_eq] at hk
    obtain ⟨a1, a2⟩ := xv_N k (fun i hi => h i (by omega))
    refine ⟨?_, ?_⟩
    · show xv u a k * 10 + (bvN (u (a + k)) - 48).toInt64 = lN (10 * nvN u a k + (u (a + k) - 48))
      rw [a1, dv_c _ hk.1 hk.2, show (10 : Int64) = lN 10 from rfl, lN_mul, lN_add, Nat.mul_comm]
    · show 10 * nvN u a k + (u (a + k) - 48) < 10 ^ (k + 1)
      rw [Nat.pow_succ]
      omega
/-- what the model's rows of tokens hold: those up to the text's end, 401 at most -/
def tokM (h : AH) (o : Nat) (u : Nat → Nat) (n m : Nat) : Prop := ∃ (g2 g3 g4 : Nat → Int32) (g5 : Nat → Int64), h (o + 1 + 2) = some (.inl (0, 403, .inl g2)) ∧ h (o + 1 + 3) = some (.inl (0, 403, .inl g3)) ∧ h (o + 1 + 4) = some (.inl (0, 403, .inl g4)) ∧ h (o + 1 + 5) = some (.inl (1, 403, .inr (.inl g5))) ∧ ∀ i, i < m → g2 i = nI (mkK (kdN u n i)) ∧ g3 i = nI (plN u n i) ∧ (kdN u n i = 3 → ∃ q, q < 10000 ∧ vaN u n i = lN q ∧ g4 i = nI q) ∧ (kdN u n i = 2 → g5 i = vaN u n i)
def mkRow (h : AH) (o : Nat) : Prop := ∃ g : Nat → Int64, h (o + 1 + 6) = some (.inl (1, 8, .inr (.inl g))) ∧ ∀ i, i < 8 → g i = packS i
theorem rfM_no10 : ∀ j, j < 63 → rfM j ≠ 10 := by decide +kernel
theorem tok_of {u : Nat → Nat} {n i t : Nat} (h : skB u n (psN u n t) = skB u n i) (h0 : rL cB u n i = 0) : tkN u n (psN u n t) = tkB u n i := by
  unfold tkN
  rw [h]
  unfold skB
  rw [h0]
  rfl
set_option maxHeartbeats 8000000 in
theorem m_token {l : Launch} {G : GG} {h : AH} {nx : Nat} {Post : Option Value → AH → Nat → Prop} {o t kd pl n : Nat} {vl : Int32} {nm : Int64} {u : Nat → Nat} {fs : List Value} (hX : XC G ∧ TX l G) (hM : MA h o fs) (ht : t < 403) (f10 : fs[10]? = some (.int (nI t))) (hT : tokM h o u n t) (e1 : kd = mkK (kdN u n t)) (e2 : pl = plN u n t) (e3 : kdN u n t = 3 → ∃ q, q < 10000 ∧ vaN u n t = lN q ∧ vl = nI q) (e4 : kdN u n t = 2 → nm = vaN u n t) (hP : ∀ h1 : AH, MA h1 o (fs.set 10 (.int (nI (t + 1)))) → (∀ x, x ≠ o → (x < o + 1 + 2 ∨ o + 1 + 6 ≤ x) → h1 x = h x) → tokM h1 o u n (t + 1) → Post none h1 nx) : Runs l G i_X12_token 0 0 [.ref o, .int (nI kd), .int (nI pl), .int vl, .long nm] h nx Post := by
  obtain ⟨g2, g3, g4, g5, a2, a3, a4, a5, p⟩ := hT
  refine c_token (k5 := o + 1 + 2) (k6 := o + 1 + 3) (k7 := o + 1 + 4) (k8 := o + 1 + 5) hX ht hM.1 hM.2.1 (hM.2.2 2 (by decide)) (hM.2.2 3 (by decide)) (hM.2.2 4 (by decide)) (hM.2.2 5 (by decide)) f10 a2 a3 a4 a5 (by omega) (by omega) (by omega) ?_
  refine hP _ ⟨uph_eq, by rw [List.length_set]; exact hM.2.1, fun j hj => by rw [get_set_ne (rfM_no10 j hj).symm]; exact hM.2.2 j hj⟩ (fun x h1 h2 => by rw [uph_ne h1, uph_ne (by omega), uph_ne (by omega), uph_ne (by omega), uph_ne (by omega)]) ⟨upd g2 t (nI kd), upd g3 t (nI pl), upd g4 t vl, vp_updL g5 t nm, ?_, ?_, ?_, ?_, fun i hi => ?_⟩
  · rw [uph_ne (by omega), uph_ne (by omega), uph_ne (by omega), uph_ne (by omega)]; exact uph_eq
  · rw [uph_ne (by omega), uph_ne (by omega), uph_ne (by omega)]; exact uph_eq
  · rw [uph_ne (by omega), uph_ne (by omega)]; exact uph_eq
  · rw [uph_ne (by omega)]; exact uph_eq
  · by_cases c : i = t
    · rw [c]
      refine ⟨by rw [pk_us, e1], by rw [pk_us, e2], fun z => ?_, fun z => ?_⟩
      · rw [pk_us]; exact e3 z
      · rw [← e4 z]; exact if_pos rfl
    · rw [pk_un c, pk_un c, pk_un c]
      have := p i (by omega)
      refine ⟨this.1, this.2.1, this.2.2.1, fun z => ?_⟩
      rw [← this.2.2.2 z]
      exact if_neg c
/-- what a cut leaves -/
def MCut (h : AH) (o : Nat) (fs : List Value) (h1 : AH) (fs1 : List Value) : Prop := MA h1 o fs1 ∧ (∀ k, k ≠ 10 → fs1[k]? = fs[k]?) ∧ (∀ x, x ≠ o → (x < o + 1 + 2 ∨ o + 1 + 6 ≤ x) → h1 x = h x)
theorem MCut.tok {h h1 h2 : AH} {o : Nat} {fs fs1 : List Value} {v : Value} (R : MCut h o fs h1 fs1) (a : MA h2 o (fs1.set 10 v)) (b : ∀ x, x ≠ o → (x < o + 1 + 2 ∨ o + 1 + 6 ≤ x) → h2 x = h1 x) : MCut h o fs h2 (fs1.set 10 v) := ⟨a, fun k hk => by rw [get_set_ne hk.symm]; exact R.2.1 k hk, fun x h1 h2 => (b x h1 h2).trans (R.2.2 x h1 h2)⟩
theorem kw_end {v : Int64} {k6 : Int32} (h : (k6 = nI 1 ∧ ∀ x, x < 8 → packS x ≠ v) ∨ (∃ x, x < 8 ∧ packS x = v ∧ k6 = nI (20 + x))) : k6 = nI (mkK (kwV v)) := by
  rcases h with ⟨rfl, h⟩ | ⟨x, hx, e, rfl⟩
  · unfold kwV
    rw [kwS_no 8 0 (fun j _ hj => h j (by omega))]
    rfl
  · unfold kwV
    rw [kwS_at 8 0 x (Nat.zero_le x) (by omega) e (fun k _ hk e2 => by have := pkS_inj k (by omega) x hx (e2.trans e.symm); omega)]
    have : ∀ x, x < 8 → nI (20 + x) = nI (mkK (4 + x)) := by decide
    exact this x hx
set_option maxHeartbeats 8000000 in
theorem m_cut {l : Launch} {G : GG} {h : AH} {nx : Nat} {Post : Option Value → AH → Nat → Prop} {o n : Nat} {u : Nat → Nat} {fs : List Value} (hX : XC G ∧ TX l G) (hM : MA h o fs) (hS : SHm h o) (f4 : fs[4]? = some (.int (nI n))) (ht : tRow h (o + 1 + 1) n u) (hk : mkRow h o) (hu : ∀ i, u i < 256) (hn : n ≤ 2000) (hP : ∀ (h1 : AH) (fs1 : List Value), MCut h o fs h1 fs1 → (∃ m, m ≤ 401 ∧ tokM h1 o u n m ∧ (m = 401 ∨ ∃ e, e + 1 = m ∧ kdN u n e = 0)) → Post none h1 nx) : Runs l G i_X12_cut 0 0 [.ref o] h nx Post := by
  have loop : ∀ (m i t : Nat) (h1 : AH) (fs1 : List Value), n - i ≤ m → i ≤ n → t ≤ 401 → MCut h o fs h1 fs1 → fs1[10]? = some (.int (nI t)) → tokM h1 o u n t → skB u n (psN u n t) = skB u n i → Go l G 12 s_X12_cut 0 0 Post 7 [(1, .int (nI i)), (0, .ref o)] [] h1 nx 0 0 := by
    intro m
    induction m with
    | zero =>
      intro i t h1 fs1 hm hi htt R f10 hT hs
      have e : i = n := by omega
      subst e
      refine Go.of hX.2 ck_X12_cut [] 60 ?_
      refine Exists.intro _ (And.intro R.1.1 (Exists.intro _ (And.intro f10 ?_)))
      by_cases c1 : t = 401
      · refine And.intro (fun _ => ?_) (fun cz => absurd (nI_lt (a := 400) (b := t) (by omega) (by omega)) cz)
        exact hP h1 fs1 R ⟨401, Nat.le_refl _, c1 ▸ hT, Or.inl rfl⟩
      · refine And.intro (fun cz => absurd cz (nI_nlt (a := 400) (b := t) (by omega) (by decide))) (fun _ => ?_)
        refine Exists.intro _ (And.intro R.1.1 (Exists.intro 0 (Exists.intro 0 (And.intro (Nat.le_refl _) (And.intro (Nat.le_refl _) (m_byteAt hX R.1.1 ((R.2.1 4 (by decide)).trans f4) (R.1.2.2 1 (by decide)) (Exists.elim ht (fun N z => Exists.elim z (fun g z => ⟨N, g, (R.2.2 _ (by omega) (by omega)).trans z.1, z.2⟩))) hu hn (by omega) ?_))))))
        refine Exists.intro _ (And.intro R.1.1 (Exists.intro _ (And.intro ((R.2.1 4 (by decide)).trans f4) ?_)))
        refine And.intro (fun cz => absurd cz (nI_nlt (Nat.le_refl i) (by omega))) (fun _ => ?_)
        refine Exists.intro _ (And.intro R.1.1 (Exists.intro _ (And.intro ((R.2.1 4 (by decide)).trans f4) ?_)))
        have et := tok_of hs (rL_0 (Or.inl (Nat.le_refl i)))
        have eb : tkB u i i = (0, i, 0, i) := by unfold tkB; rw [if_pos (Nat.le_refl i)]
        rw [eb] at et
        have k0 : kdN u i t = 0 := by unfold kdN; rw [et]
        have p0 : plN u i t = i := by unfold plN; rw [et]
        refine Exists.intro _ (And.intro R.1.1 (Exists.intro 0 (Exists.intro 0 (And.intro (Nat.le_refl _) (And.intro (Nat.le_refl _) (m_token (kd := 0) (pl := i) hX R.1 (by omega) f10 hT (by rw [k0]; rfl) p0.symm (fun z => by rw [k0] at z; cases z) (fun z => by rw [k0] at z; cases z) (fun h2 y1 y2 y3 => ?_)))))))
        exact hP h2 _ (R.tok y1 y2) ⟨t + 1, by omega, y3, Or.inr ⟨t, rfl, k0⟩⟩
    | succ m ih =>
      intro i t h1 fs1 hm hi htt R f10 hT hs
      have tr1 : tRow h1 (o + 1 + 1) n u := Exists.elim ht (fun N z => Exists.elim z (fun g z => ⟨N, g, (R.2.2 _ (by omega) (by omega)).trans z.1, z.2⟩))
      have g4 := (R.2.1 4 (by decide)).trans f4
      refine Go.of hX.2 ck_X12_cut [7, 43, 292] 80 ?_
      refine Exists.intro _ (And.intro R.1.1 (Exists.intro _ (And.intro f10 ?_)))
      by_cases c1 : t = 401
      · refine And.intro (fun _ => ?_) (fun cz => absurd (nI_lt (a := 400) (b := t) (by omega) (by omega)) cz)
        refine go_loc (lv' := [(0, .ref o)]) ⟨rfl, trivial⟩ ?_
        refine Go.of hX.2 ck_X12_cut [] 5 ?_
        exact hP h1 fs1 R ⟨401, Nat.le_refl _, c1 ▸ hT, Or.inl rfl⟩
      · refine And.intro (fun cz => absurd cz (nI_nlt (a := 400) (b := t) (by omega) (by decide))) (fun _ => ?_)
        refine Exists.intro _ (And.intro R.1.1 (Exists.intro 0 (Exists.intro 0 (And.intro (Nat.le_refl _) (And.intro (Nat.le_refl _) (m_byteAt hX R.1.1 g4 (R.1.2.2 1 (by decide)) tr1 hu hn (by omega) ?_))))))
        refine Exists.intro _ (And.intro R.1.1 (Exists.intro _ (And.intro g4 ?_)))
        by_cases ci : n ≤ i
        · have e : i = n := by omega
          subst e
          refine And.intro (fun cz => absurd cz (nI_nlt (Nat.le_refl i) (by omega))) (fun _ => ?_)
          refine Exists.intro _ (And.intro R.1.1 (Exists.intro _ (And.intro g4 ?_)))
          have et := tok_of hs (rL_0 (Or.inl (Nat.le_refl i)))
          have eb : tkB u i i = (0, i, 0, i) := by unfold tkB; rw [if_pos (Nat.le_refl i)]
          rw [eb] at et
          have k0 : kdN u i t = 0 := by unfold kdN; rw [et]
          have p0 : plN u i t = i := by unfold plN; rw [et]
          refine Exists.intro _ (And.intro R.1.1 (Exists.intro 0 (Exists.intro 0 (And.intro (Nat.le_refl _) (And.intro (Nat.le_refl _) (m_token (kd := 0) (pl := i) hX R.1 (by omega) f10 hT (by rw [k0]; rfl) p0.symm (fun z => by rw [k0] at z; cases z) (fun z => by rw [k0] at z; cases z) (fun h2 y1 y2 y3 => ?_)))))))
          exact hP h2 _ (R.tok y1 y2) ⟨t + 1, by omega, y3, Or.inr ⟨t, rfl, k0⟩⟩
        · have ci := Nat.lt_of_not_le ci
          have eby : byU u n i = u i := if_pos ci
          refine And.intro (fun _ => ?_) (fun cz => absurd (nI_lt ci (by omega)) cz)
          rw [eby]
          have hui := hu i
          have neq : ∀ k, k < 256 → u i ≠ k → ¬ nI (u i) = nI k := fun k hk z y => z ((nI_eq (by omega) (by omega)).mp y)
          have blank : cB (u i) = true → Go l G 12 s_X12_cut 0 0 Post 67 [(2, .int (nI (u i))), (1, .int (nI i)), (0, .ref o)] [] h1 nx 0 0 := by
            intro hb
            have := ih (i + 1) t h1 fs1 (by omega) (by omega) htt R f10 hT (hs.trans (by unfold skB; rw [rL_s ci hb]; omega))
            rw [nI_succ] at this
            refine Go.of hX.2 ck_X12_cut [7] 10 ?_
            exact go_loc (lv' := [(1, .int (nI i + 1)), (0, .ref o)]) ⟨rfl, rfl, trivial⟩ (this)
          refine go_loc (lv' := [(2, .int (nI (u i))), (1, .int (nI i)), (0, .ref o)]) ⟨rfl, rfl, rfl, trivial⟩ ?_
          refine Go.of hX.2 ck_X12_cut [7, 67, 85, 208] 80 ?_
          by_cases b1 : u i = 9
          · refine And.intro (fun _ => ?_) (fun cz => absurd (show nI (u i) = 9 from by rw [b1]; rfl) cz)
            exact go_loc (lv' := [(2, .int (nI (u i))), (1, .int (nI i)), (0, .ref o)]) ⟨rfl, rfl, rfl, trivial⟩ (blank (by rw [b1]; rfl))
          · refine And.intro (fun cz => absurd cz (neq 9 (by decide) b1)) (fun _ => ?_)
            by_cases b2 : u i = 10
            · refine And.intro (fun _ => ?_) (fun cz => absurd (show nI (u i) = 10 from by rw [b2]; rfl) cz)
              exact go_loc (lv' := [(2, .int (nI (u i))), (1, .int (nI i)), (0, .ref o)]) ⟨rfl, rfl, rfl, trivial⟩ (blank (by rw [b2]; rfl))
            · refine And.intro (fun cz => absurd cz (neq 10 (by decide) b2)) (fun _ => ?_)
              by_cases b3 : u i = 13
              · refine And.intro (fun _ => ?_) (fun cz => absurd (show nI (u i) = 13 from by rw [b3]; rfl) cz)
                exact go_loc (lv' := [(2, .int (nI (u i))), (1, .int (nI i)), (0, .ref o)]) ⟨rfl, rfl, rfl, trivial⟩ (blank (by rw [b3]; rfl))
              · refine And.intro (fun cz => absurd cz (neq 13 (by decide) b3)) (fun _ => ?_)
                by_cases b4 : u i = 32
                · refine And.intro (fun cz => absurd (show nI (u i) = 32 from by rw [b4]; rfl) cz) (fun _ => ?_)
                  exact go_loc (lv' := [(2, .int (nI (u i))), (1, .int (nI i)), (0, .ref o)]) ⟨rfl, rfl, rfl, trivial⟩ (blank (by rw [b4]; rfl))
                · refine And.intro (fun _ => ?_) (fun cz => absurd cz (neq 32 (by decide) b4))
                  have cb : cB (u i) = false := by unfold cB; rw [decide_eq_false b1, decide_eq_false b2, decide_eq_false b3, decide_eq_false b4]; rfl
                  have et := tok_of hs (rL_0 (Or.inr cb))
                  have nxt : ∀ (h2 : AH) (v : Value) (j : Nat), MA h2 o (fs1.set 10 (.int (nI (t + 1)))) → (∀ x, x ≠ o → (x < o + 1 + 2 ∨ o + 1 + 6 ≤ x) → h2 x = h1 x) → tokM h2 o u n (t + 1) → (tkB u n i).2.2.2 = j → i < j → Go l G 12 s_X12_cut 0 0 Post 7 [(1, .int (nI j)), (0, .ref o)] [] h2 nx 0 0 := by
                    intro h2 v j y1 y2 y3 ej hij
                    have hj : j ≤ n := by rw [← ej]; exact (tkB_le hi).1
                    refine ih j (t + 1) h2 _ (by omega) hj (by omega) (R.tok y1 y2) (get_set (by have := R.1.2.1; omega)) y3 ?_
                    show skB u n (tkN u n (psN u n t)).2.2.2 = _
                    rw [et, ej]
                  refine Exists.intro 0 (Exists.intro 0 (And.intro (Nat.le_refl _) (And.intro (Nat.le_refl _) (m_isLetter hX hui ?_))))
                  cases cl : cL (u i) with
                  | true =>
                    refine And.intro (fun cz => by first | exact absurd cz (by decide) | exact absurd (by decide) cz) (fun _ => ?_)
                    have eb : tkB u n i = (if rL cL u n i > 8 then 1 else kwV (wv u i (rL cL u n i)), i, wv u i (rL cL u n i), i + rL cL u n i) := by unfold tkB; rw [if_neg (by omega), if_pos cl]
                    have hle := rL_le cL u n i
                    have hpos : 0 < rL cL u n i := by rw [rL_s ci cl]; omega
                    have hall : ∀ k, k < rL cL u n i → cL (u (i + k)) = true := fun k hk => rL_all hk
                    have kk : kdN u n t = if rL cL u n i > 8 then 1 else kwV (wv u i (rL cL u n i)) := by unfold kdN; rw [et, eb]
                    have kp : plN u n t = i := by unfold plN; rw [et, eb]
                    have kv : vaN u n t = wv u i (rL cL u n i) := by unfold vaN; rw [et, eb]
                    generalize hlen : rL cL u n i = len at *
                    have done : ∀ (k6 : Int32), k6 = nI (mkK (kdN u n t)) → Go l G 12 s_X12_cut 0 0 Post 179 [(6, .int k6), (4, .long (wv u i (if len < 8 then len else 8))), (3, .int (nI len)), (2, .int (nI (u i))), (1, .int (nI i)), (0, .ref o)] [] h1 nx 0 0 := by
                      intro k6 e6
                      refine Go.of hX.2 ck_X12_cut [7] 40 ?_
                      refine Exists.intro _ (And.intro R.1.1 (Exists.intro 0 (Exists.intro 0 (And.intro (Nat.le_refl _) (And.intro (Nat.le_refl _) ?_)))))
                      rw [e6]
                      refine m_token hX R.1 (by omega) f10 hT rfl kp.symm (fun z => ?_) (fun z => ?_) (fun h2 y1 y2 y3 => ?_)
                      · rw [kk] at z
                        split at z
                        · cases z
                        · have : ∀ v : Int64, kwV v ≠ 3 := fun v => by
                            unfold kwV
                            by_cases hx : ∃ j, j < 8 ∧ packS j = v
                            · obtain ⟨j, hj, ej⟩ := hx
                              rw [kwS_at 8 0 j (Nat.zero_le j) (by omega) ej (fun k _ hk e2 => by have := pkS_inj k (by omega) j hj (e2.trans ej.symm); omega)]
                              omega
                            · rw [kwS_no 8 0 (fun j _ hj e => hx ⟨j, by omega, e⟩)]
                              decide
                          exact absurd z (this _)
                      · rw [kk] at z
                        rw [kv]
                        split at z
                        · cases z
                        · by_cases c8 : len < 8
                          · rw [if_pos c8]
                          · rw [if_neg c8, show len = 8 by omega]
                      · refine go_loc (lv' := [(1, .int (nI i + nI len)), (0, .ref o)]) ⟨rfl, rfl, trivial⟩ ?_
                        rw [nI_add]
                        exact nxt h2 .null (i + len) y1 y2 y3 (by rw [eb]) (by omega)
                    have keys : len ≤ 7 → ∀ (f j : Nat) (k6 : Int32), j + f = 8 → ((k6 = nI 1 ∧ ∀ x, x < j → packS x ≠ wv u i len) ∨ (∃ x, x < j ∧ packS x = wv u i len ∧ k6 = nI (20 + x))) → Go l G 12 s_X12_cut 0 0 Post 146 [(7, .int (nI j)), (6, .int k6), (4, .long (wv u i len)), (3, .int (nI len)), (2, .int (nI (u i))), (1, .int (nI i)), (0, .ref o)] [] h1 nx 0 0 := by
                      intro l7 f
                      obtain ⟨gk, ek, pk⟩ := hk
                      have ek1 : h1 (o + 1 + 6) = some (.inl (1, 8, .inr (.inl gk))) := (R.2.2 _ (by omega) (by omega)).trans ek
                      induction f with
                      | zero =>
                        intro j k6 hj hk6
                        have e8 : j = 8 := by omega
                        subst e8
                        have d := done k6 (by rw [kk, if_neg (by omega)]; exact kw_end hk6)
                        rw [if_pos (show len < 8 by omega)] at d
                        refine Go.of hX.2 ck_X12_cut [179] 10 ?_
                        refine And.intro (fun _ => ?_) (fun cz => by first | exact absurd cz (by decide) | exact absurd (by decide) cz)
                        exact go_loc (lv' := [(6, .int k6), (4, .long (wv u i len)), (3, .int (nI len)), (2, .int (nI (u i))), (1, .int (nI i)), (0, .ref o)]) ⟨rfl, rfl, rfl, rfl, rfl, rfl, trivial⟩ (d)
                      | succ f ihk =>
                        intro j k6 hj hk6
                        refine Go.of hX.2 ck_X12_cut [146] 40 ?_
                        refine And.intro (fun cz => absurd cz (nI_ge (a := j) (b := 8) (by omega) (by decide))) (fun _ => ?_)
                        refine Exists.intro _ (And.intro R.1.1 (Exists.intro _ (And.intro (R.1.2.2 6 (by decide)) ?_)))
                        refine Exists.intro _ (Exists.intro _ (And.intro ek1 (And.intro (vp_in_nI (show j < 8 by omega) (by decide)) ?_)))
                        rw [nI_clamp (show j < 2 ^ 31 by omega), pk j (by omega)]
                        by_cases c2 : packS j = wv u i len
                        · refine And.intro (fun cz => absurd (cmp_eq.mpr c2) cz) (fun _ => ?_)
                          refine go_loc (lv' := [(7, .int (nI j + 1)), (6, .int (20 + nI j)), (4, .long (wv u i len)), (3, .int (nI len)), (2, .int (nI (u i))), (1, .int (nI i)), (0, .ref o)]) ⟨rfl, rfl, rfl, rfl, rfl, rfl, rfl, trivial⟩ ?_
                          rw [← nI_succ]
                          exact ihk (j + 1) _ (by omega) (Or.inr ⟨j, Nat.lt_succ_self j, c2, nI_add 20 j⟩)
                        · refine And.intro (fun _ => ?_) (fun cz => absurd cz (fun z => c2 (cmp_eq.mp z)))
                          refine go_loc (lv' := [(7, .int (nI j + 1)), (6, .int k6), (4, .long (wv u i len)), (3, .int (nI len)), (2, .int (nI (u i))), (1, .int (nI i)), (0, .ref o)]) ⟨rfl, rfl, rfl, rfl, rfl, rfl, rfl, trivial⟩ ?_
                          rw [← nI_succ]
                          refine ihk (j + 1) k6 (by omega) ?_
                          rcases hk6 with ⟨a, b⟩ | ⟨x, a, b, c⟩
                          · refine Or.inl ⟨a, fun x hx => ?_⟩
                            by_cases e : x = j
                            · rw [e]; exact c2
                            · exact b x (by omega)
                          · exact Or.inr ⟨x, by omega, b, c⟩
                    have fin : Go l G 12 s_X12_cut 0 0 Post 124 [(3, .int (nI len)), (4, .long (wv u i (if len < 8 then len else 8))), (2, .int (nI (u i))), (1, .int (nI i)), (0, .ref o)] [] h1 nx 0 0 := by
                      refine Go.of hX.2 ck_X12_cut [146, 179] 40 ?_
                      by_cases l8 : len ≤ 8
                      · refine And.intro (fun _ => ?_) (fun cz => absurd (nI_le (b := 8) l8 (by decide)) cz)
                        by_cases l7 : len ≤ 7
                        · refine And.intro (fun cz => absurd cz (nI_nlt (a := 7) l7 (by decide))) (fun _ => ?_)
                          rw [if_pos (show len < 8 by omega)]
                          exact go_loc (lv' := [(7, .int (nI 0)), (6, .int (nI 1)), (4, .long (wv u i len)), (3, .int (nI len)), (2, .int (nI (u i))), (1, .int (nI i)), (0, .ref o)]) ⟨rfl, rfl, rfl, rfl, rfl, rfl, rfl, trivial⟩ (keys l7 8 0 (nI 1) (by decide) (Or.inl ⟨rfl, fun x hx => absurd hx (Nat.not_lt_zero x)⟩))
                        · refine And.intro (fun _ => ?_) (fun cz => absurd (nI_lt (a := 7) (b := len) (by omega) (by omega)) cz)
                          have e8 : len = 8 := by omega
                          exact go_loc (lv' := [(6, .int (nI 1)), (4, .long (wv u i (if len < 8 then len else 8))), (3, .int (nI len)), (2, .int (nI (u i))), (1, .int (nI i)), (0, .ref o)]) ⟨rfl, rfl, rfl, rfl, rfl, rfl, trivial⟩ (done (nI 1) (by rw [kk, if_neg (by omega), e8]; exact kw_end (Or.inl ⟨rfl, fun x hx => kw_8 (fun k hk => hall k (by omega)) x hx⟩)))
                      · refine And.intro (fun cz => absurd cz (fun z => absurd ((nI_leI (by omega) (by decide)).mp (show nI len ≤ nI 8 from z)) (by omega))) (fun _ => ?_)
                        refine And.intro (fun _ => ?_) (fun cz => absurd (nI_lt (a := 7) (b := len) (by omega) (by omega)) cz)
                        exact go_loc (lv' := [(6, .int (nI 3)), (4, .long (wv u i (if len < 8 then len else 8))), (3, .int (nI len)), (2, .int (nI (u i))), (1, .int (nI i)), (0, .ref o)]) ⟨rfl, rfl, rfl, rfl, rfl, rfl, trivial⟩ (done (nI 3) (by rw [kk, if_pos (by omega)]; rfl))
                    have words : ∀ (q j : Nat), j + q = len → Go l G 12 s_X12_cut 0 0 Post 85 [(4, .long (wv u i (if j < 8 then j else 8))), (3, .int (nI j)), (2, .int (nI (u i))), (1, .int (nI i)), (0, .ref o)] [] h1 nx 0 0 := by
                      intro q
                      induction q with
                      | zero =>
                        intro j hj
                        have ej : j = len := by omega
                        subst ej
                        have hend : cL (byU u n (i + j)) = false := by
                          unfold byU
                          split
                          · have h4 := rL_end (c := cL) (u := u) (n := n) (a := i)
                            rw [hlen] at h4
                            exact h4 (by assumption)
                          · rfl
                        refine Go.of hX.2 ck_X12_cut [124] 40 ?_
                        refine Exists.intro _ (And.intro R.1.1 (Exists.intro 0 (Exists.intro 0 (And.intro (Nat.le_refl _) (And.intro (Nat.le_refl _) ?_)))))
                        rw [nI_add]
                        refine m_byteAt hX R.1.1 g4 (R.1.2.2 1 (by decide)) tr1 hu hn (by omega) ?_
                        refine Exists.intro 0 (Exists.intro 0 (And.intro (Nat.le_refl _) (And.intro (Nat.le_refl _) (m_isLetter hX (byU_lt hu _ _) ?_))))
                        rw [hend]
                        refine And.intro (fun _ => ?_) (fun cz => by first | exact absurd cz (by decide) | exact absurd (by decide) cz)
                        exact go_loc (lv' := [(3, .int (nI j)), (4, .long (wv u i (if j < 8 then j else 8))), (2, .int (nI (u i))), (1, .int (nI i)), (0, .ref o)]) ⟨rfl, rfl, rfl, rfl, rfl, trivial⟩ (fin)
                      | succ q ihq =>
                        intro j hj
                        have hcl := hall j (by omega)
                        have hby : byU u n (i + j) = u (i + j) := if_pos (by omega)
                        have nx1 := ihq (j + 1) (by omega)
                        rw [nI_succ] at nx1
                        refine Go.of hX.2 ck_X12_cut [85, 118] 60 ?_
                        refine Exists.intro _ (And.intro R.1.1 (Exists.intro 0 (Exists.intro 0 (And.intro (Nat.le_refl _) (And.intro (Nat.le_refl _) ?_)))))
                        rw [nI_add]
                        refine m_byteAt hX R.1.1 g4 (R.1.2.2 1 (by decide)) tr1 hu hn (by omega) ?_
                        rw [hby]
                        refine Exists.intro 0 (Exists.intro 0 (And.intro (Nat.le_refl _) (And.intro (Nat.le_refl _) (m_isLetter hX (hu _) ?_))))
                        rw [hcl]
                        refine And.intro (fun cz => by first | exact absurd cz (by decide) | exact absurd (by decide) cz) (fun _ => ?_)
                        by_cases c8 : j < 8
                        · refine And.intro (fun cz => absurd cz (nI_ge (b := 8) c8 (by decide))) (fun _ => ?_)
                          refine Exists.intro _ (And.intro R.1.1 (Exists.intro 0 (Exists.intro 0 (And.intro (Nat.le_refl _) (And.intro (Nat.le_refl _) ?_)))))
                          rw [nI_add]
                          refine m_byteAt hX R.1.1 g4 (R.1.2.2 1 (by decide)) tr1 hu hn (by omega) ?_
                          rw [hby]
                          refine Exists.intro 0 (Exists.intro 0 (And.intro (Nat.le_refl _) (And.intro (Nat.le_refl _) (m_appends hX hcl ?_))))
                          rw [if_pos c8]
                          refine go_loc (lv' := [(4, .long (wv u i j * 27 + lvN (u (i + j)))), (3, .int (nI j)), (2, .int (nI (u i))), (1, .int (nI i)), (0, .ref o)]) ⟨rfl, rfl, rfl, rfl, rfl, trivial⟩ ?_
                          have ew : (if j + 1 < 8 then j + 1 else 8) = j + 1 := by split <;> omega
                          rw [ew] at nx1
                          refine Go.of hX.2 ck_X12_cut [85] 5 ?_
                          exact go_loc (lv' := [(4, .long (wv u i (j + 1))), (3, .int (nI j + 1)), (2, .int (nI (u i))), (1, .int (nI i)), (0, .ref o)]) ⟨rfl, rfl, rfl, rfl, rfl, trivial⟩ (nx1)
                        · refine And.intro (fun _ => ?_) (fun cz => absurd (nI_le (a := 8) (b := j) (by omega) (by omega)) cz)
                          rw [if_neg c8]
                          refine go_loc (lv' := [(4, .long (wv u i 8)), (3, .int (nI j)), (2, .int (nI (u i))), (1, .int (nI i)), (0, .ref o)]) ⟨rfl, rfl, rfl, rfl, rfl, trivial⟩ ?_
                          rw [if_neg (show ¬ j + 1 < 8 by omega)] at nx1
                          refine Go.of hX.2 ck_X12_cut [85] 5 ?_
                          exact go_loc (lv' := [(4, .long (wv u i 8)), (3, .int (nI j + 1)), (2, .int (nI (u i))), (1, .int (nI i)), (0, .ref o)]) ⟨rfl, rfl, rfl, rfl, rfl, trivial⟩ (nx1)
                    exact go_loc (lv' := [(4, .long (wv u i (if 0 < 8 then 0 else 8))), (3, .int (nI 0)), (2, .int (nI (u i))), (1, .int (nI i)), (0, .ref o)]) ⟨rfl, rfl, rfl, rfl, rfl, trivial⟩ (words len 0 (Nat.zero_add _))
                  | false =>
                    refine And.intro (fun _ => ?_) (fun cz => by first | exact absurd cz (by decide) | exact absurd (by decide) cz)
                    refine Exists.intro 0 (Exists.intro 0 (And.intro (Nat.le_refl _) (And.intro (Nat.le_refl _) (m_isDigit hX hui ?_))))
                    cases cd : cD (u i) with
                    | true =>
                      refine And.intro (fun cz => by first | exact absurd cz (by decide) | exact absurd (by decide) cz) (fun _ => ?_)
                      have eb : tkB u n i = (if rL cD u n i > 4 then 1 else 3, i, xv u i (rL cD u n i), i + rL cD u n i) := by unfold tkB; rw [if_neg (by omega), if_neg (by rw [cl]; decide), if_pos cd]
                      have hle := rL_le cD u n i
                      have hpos : 0 < rL cD u n i := by rw [rL_s ci cd]; omega
                      have hall : ∀ k, k < rL cD u n i → cD (u (i + k)) = true := fun k hk => rL_all hk
                      have kk : kdN u n t = if rL cD u n i > 4 then 1 else 3 := by unfold kdN; rw [et, eb]
                      have kp : plN u n t = i := by unfold plN; rw [et, eb]
                      have kv : vaN u n t = xv u i (rL cD u n i) := by unfold vaN; rw [et, eb]
                      generalize hlen : rL cD u n i = len at *
                      have done : Go l G 12 s_X12_cut 0 0 Post 250 [(4, .int (nI (nvN u i (if len < 4 then len else 4)))), (3, .int (nI len)), (2, .int (nI (u i))), (1, .int (nI i)), (0, .ref o)] [] h1 nx 0 0 := by
                        have n2 : ∀ h2 : AH, MA h2 o (fs1.set 10 (.int (nI (t + 1)))) → (∀ x, x ≠ o → (x < o + 1 + 2 ∨ o + 1 + 6 ≤ x) → h2 x = h1 x) → tokM h2 o u n (t + 1) → Go l G 12 s_X12_cut 0 0 Post 7 [(1, .int (nI (i + len))), (0, .ref o)] [] h2 nx 0 0 := fun h2 y1 y2 y3 => nxt h2 .null (i + len) y1 y2 y3 (by rw [eb]) (by omega)
                        refine Go.of hX.2 ck_X12_cut [7] 40 ?_
                        by_cases l4 : len ≤ 4
                        · refine And.intro (fun _ => ?_) (fun cz => absurd (nI_le (b := 4) l4 (by decide)) cz)
                          refine Exists.intro _ (And.intro R.1.1 (Exists.intro 0 (Exists.intro 0 (And.intro (Nat.le_refl _) (And.intro (Nat.le_refl _) ?_)))))
                          refine m_token (kd := 2) hX R.1 (by omega) f10 hT (by rw [kk, if_neg (by omega)]; rfl) kp.symm (fun z => ?_) (fun z => ?_) (fun h2 y1 y2 y3 => ?_)
                          · obtain ⟨z1, z2⟩ := xv_N len hall
                            have e4 : nvN u i (if len < 4 then len else 4) = nvN u i len := by
                              split
                              · rfl
                              · rw [show len = 4 by omega]
                            rw [e4]
                            refine ⟨nvN u i len, Nat.lt_of_lt_of_le z2 ?_, kv.trans z1, rfl⟩
                            exact Nat.le_trans (Nat.pow_le_pow_right (by decide) (show len ≤ 4 by omega)) (by decide)
                          · rw [kk] at z
                            split at z <;> cases z
                          · refine go_loc (lv' := [(1, .int (nI i + nI len)), (0, .ref o)]) ⟨rfl, rfl, trivial⟩ ?_
                            rw [nI_add]
                            exact n2 h2 y1 y2 y3
                        · refine And.intro (fun cz => absurd cz (fun z => absurd ((nI_leI (by omega) (by decide)).mp (show nI len ≤ nI 4 from z)) (by omega))) (fun _ => ?_)
                          refine Exists.intro _ (And.intro R.1.1 (Exists.intro 0 (Exists.intro 0 (And.intro (Nat.le_refl _) (And.intro (Nat.le_refl _) ?_)))))
                          refine m_token (kd := 3) hX R.1 (by omega) f10 hT (by rw [kk, if_pos (by omega)]; rfl) kp.symm (fun z => ?_) (fun z => ?_) (fun h2 y1 y2 y3 => ?_)
                          · rw [kk, if_pos (by omega)] at z
                            cases z
                          · rw [kk, if_pos (by omega)] at z
                            cases z
                          · refine go_loc (lv' := [(1, .int (nI i + nI len)), (0, .ref o)]) ⟨rfl, rfl, trivial⟩ ?_
                            rw [nI_add]
                            exact n2 h2 y1 y2 y3
                      have digits : ∀ (q j : Nat), j + q = len → Go l G 12 s_X12_cut 0 0 Post 208 [(4, .int (nI (nvN u i (if j < 4 then j else 4)))), (3, .int (nI j)), (2, .int (nI (u i))), (1, .int (nI i)), (0, .ref o)] [] h1 nx 0 0 := by
                        intro q
                        induction q with
                        | zero =>
                          intro j hj
                          have ej : j = len := by omega
                          subst ej
                          have hend : cD (byU u n (i + j)) = false := by
                            unfold byU
                            split
                            · have h4 := rL_end (c := cD) (u := u) (n := n) (a := i)
                              rw [hlen] at h4
                              exact h4 (by assumption)
                            · rfl
                          refine Go.of hX.2 ck_X12_cut [250] 40 ?_
                          refine Exists.intro _ (And.intro R.1.1 (Exists.intro 0 (Exists.intro 0 (And.intro (Nat.le_refl _) (And.intro (Nat.le_refl _) ?_)))))
                          rw [nI_add]
                          refine m_byteAt hX R.1.1 g4 (R.1.2.2 1 (by decide)) tr1 hu hn (by omega) ?_
                          refine Exists.intro 0 (Exists.intro 0 (And.intro (Nat.le_refl _) (And.intro (Nat.le_refl _) (m_isDigit hX (byU_lt hu _ _) ?_))))
                          rw [hend]
                          refine And.intro (fun _ => ?_) (fun cz => by first | exact absurd cz (by decide) | exact absurd (by decide) cz)
                          exact go_loc (lv' := [(4, .int (nI (nvN u i (if j < 4 then j else 4)))), (3, .int (nI j)), (2, .int (nI (u i))), (1, .int (nI i)), (0, .ref o)]) ⟨rfl, rfl, rfl, rfl, rfl, trivial⟩ (done)
                        | succ q ihq =>
                          intro j hj
                          have hcl := hall j (by omega)
                          have hby : byU u n (i + j) = u (i + j) := if_pos (by omega)
                          have nx1 := ihq (j + 1) (by omega)
                          rw [nI_succ] at nx1
                          refine Go.of hX.2 ck_X12_cut [208, 244] 60 ?_
                          refine Exists.intro _ (And.intro R.1.1 (Exists.intro 0 (Exists.intro 0 (And.intro (Nat.le_refl _) (And.intro (Nat.le_refl _) ?_)))))
                          rw [nI_add]
                          refine m_byteAt hX R.1.1 g4 (R.1.2.2 1 (by decide)) tr1 hu hn (by omega) ?_
                          rw [hby]
                          refine Exists.intro 0 (Exists.intro 0 (And.intro (Nat.le_refl _) (And.intro (Nat.le_refl _) (m_isDigit hX (hu _) ?_))))
                          rw [hcl]
                          refine And.intro (fun cz => by first | exact absurd cz (by decide) | exact absurd (by decide) cz) (fun _ => ?_)
                          by_cases c8 : j < 4
                          · refine And.intro (fun cz => absurd cz (nI_ge (b := 4) c8 (by decide))) (fun _ => ?_)
                            refine Exists.intro _ (And.intro R.1.1 (Exists.intro 0 (Exists.intro 0 (And.intro (Nat.le_refl _) (And.intro (Nat.le_refl _) ?_)))))
                            rw [nI_add]
                            refine m_byteAt hX R.1.1 g4 (R.1.2.2 1 (by decide)) tr1 hu hn (by omega) ?_
                            rw [hby, if_pos c8]
                            refine go_loc (lv' := [(4, .int (10 * nI (nvN u i j) + nI (u (i + j)) - 48)), (3, .int (nI j)), (2, .int (nI (u i))), (1, .int (nI i)), (0, .ref o)]) ⟨rfl, rfl, rfl, rfl, rfl, trivial⟩ ?_
                            have ew : (if j + 1 < 4 then j + 1 else 4) = j + 1 := by split <;> omega
                            rw [ew] at nx1
                            unfold cD at hcl
                            rw [Bool.and_eq_true, decide_eq_true_eq, decide_eq_true_eq] at hcl
                            have e5 : (10 : Int32) * nI (nvN u i j) + nI (u (i + j)) - 48 = nI (nvN u i (j + 1)) := by
                              rw [show (10 : Int32) = nI 10 from rfl, nI_mul, nI_add, show (48 : Int32) = nI 48 from rfl, nI_sub (by omega)]
                              show nI _ = nI (10 * nvN u i j + (u (i + j) - 48))
                              congr 1
                              omega
                            rw [e5]
                            refine Go.of hX.2 ck_X12_cut [208] 5 ?_
                            exact go_loc (lv' := [(4, .int (nI (nvN u i (j + 1)))), (3, .int (nI j + 1)), (2, .int (nI (u i))), (1, .int (nI i)), (0, .ref o)]) ⟨rfl, rfl, rfl, rfl, rfl, trivial⟩ (nx1)
                          · refine And.intro (fun _ => ?_) (fun cz => absurd (nI_le (a := 4) (b := j) (by omega) (by omega)) cz)
                            rw [if_neg c8]
                            refine go_loc (lv' := [(4, .int (nI (nvN u i 4))), (3, .int (nI j)), (2, .int (nI (u i))), (1, .int (nI i)), (0, .ref o)]) ⟨rfl, rfl, rfl, rfl, rfl, trivial⟩ ?_
                            rw [if_neg (show ¬ j + 1 < 4 by omega)] at nx1
                            refine Go.of hX.2 ck_X12_cut [208] 5 ?_
                            exact go_loc (lv' := [(4, .int (nI (nvN u i 4))), (3, .int (nI j + 1)), (2, .int (nI (u i))), (1, .int (nI i)), (0, .ref o)]) ⟨rfl, rfl, rfl, rfl, rfl, trivial⟩ (nx1)
                      exact go_loc (lv' := [(4, .int (nI (nvN u i (if 0 < 4 then 0 else 4)))), (3, .int (nI 0)), (2, .int (nI (u i))), (1, .int (nI i)), (0, .ref o)]) ⟨rfl, rfl, rfl, rfl, rfl, trivial⟩ (digits len 0 (Nat.zero_add _))
                    | false =>
                      refine And.intro (fun _ => ?_) (fun cz => by first | exact absurd cz (by decide) | exact absurd (by decide) cz)
                      have eb : tkB u n i = (sgK (u i), i, 0, i + 1) := by unfold tkB; rw [if_neg (by omega), if_neg (by rw [cl]; decide), if_neg (by rw [cd]; decide)]
                      have kk : kdN u n t = sgK (u i) := by unfold kdN; rw [et, eb]
                      have kp : plN u n t = i := by unfold plN; rw [et, eb]
                      refine Exists.intro 0 (Exists.intro 0 (And.intro (Nat.le_refl _) (And.intro (Nat.le_refl _) (m_sign hX hui ?_))))
                      refine Exists.intro _ (And.intro R.1.1 (Exists.intro 0 (Exists.intro 0 (And.intro (Nat.le_refl _) (And.intro (Nat.le_refl _) (m_token hX R.1 (by omega) f10 hT (by rw [kk]; exact sgM_c _ hui) kp.symm (fun z => absurd (kk.symm.trans z) (sgK_23 _ hui).2) (fun z => absurd (kk.symm.trans z) (sgK_23 _ hui).1) (fun h2 y1 y2 y3 => ?_)))))))
                      refine go_loc (lv' := [(1, .int (nI i + 1)), (0, .ref o)]) ⟨rfl, rfl, trivial⟩ ?_
                      rw [← nI_succ]
                      exact nxt h2 .null (i + 1) y1 y2 y3 (by rw [eb]) (by omega)
  obtain ⟨g2, a2⟩ := hS.i 2 (by decide) (by decide) (t := 0) (n := 403) rfl
  obtain ⟨g3, a3⟩ := hS.i 3 (by decide) (by decide) (t := 0) (n := 403) rfl
  obtain ⟨g4, a4⟩ := hS.i 4 (by decide) (by decide) (t := 0) (n := 403) rfl
  obtain ⟨g5, a5⟩ : ∃ g : Nat → Int64, h (o + 1 + 5) = some (.inl (1, 403, .inr (.inl g))) := hS 5 (by decide)
  refine en_X12_cut hX [7] 20 rfl ?_
  refine Exists.intro _ (And.intro hM.1 (And.intro (by have := hM.2.1; omega) (And.intro rfl (And.intro rfl ?_))))
  refine go_loc (lv' := [(1, .int (nI 0)), (0, .ref o)]) ⟨rfl, rfl, trivial⟩ ?_
  refine loop n 0 0 _ (fs.set 10 (.int 0)) (by omega) (Nat.zero_le n) (by decide) ⟨⟨uph_eq, by rw [List.length_set]; exact hM.2.1, fun j hj => by rw [get_set_ne (rfM_no10 j hj).symm]; exact hM.2.2 j hj⟩, fun k hk => get_set_ne hk.symm, fun x h1 h2 => uph_ne h1⟩ (get_set (by have := hM.2.1; omega)) ⟨g2, g3, g4, g5, (uph_ne (by omega)).trans a2, (uph_ne (by omega)).trans a3, (uph_ne (by omega)).trans a4, (uph_ne (by omega)).trans a5, fun i hi => absurd hi (Nat.not_lt_zero i)⟩ rfl
