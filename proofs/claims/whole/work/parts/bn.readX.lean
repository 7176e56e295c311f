/-! x's hand; x reads -/
theorem kwS_2 {v : Int64} : ∀ f i, kwS v f i = 2 ∨ 4 ≤ kwS v f i
  | 0, _ => Or.inl rfl
  | f + 1, i => by
    show (if packS i = v then 4 + i else kwS v f (i + 1)) = 2 ∨ 4 ≤ (if packS i = v then 4 + i else kwS v f (i + 1))
    split
    · exact Or.inr (by omega)
    · exact kwS_2 f (i + 1)
theorem sgK_x (m : Nat) : sgK m = 1 ∨ 12 ≤ sgK m := by
  unfold sgK
  split
  · exact Or.inl rfl
  · exact Or.inr (by omega)
theorem tkB_3 {u : Nat → Nat} {n p : Nat} (h : (tkB u n p).1 = 3) : ∃ q, q < 10000 ∧ (tkB u n p).2.2.1 = lN q := by
  unfold tkB at h ⊢
  by_cases c1 : n ≤ p
  · rw [if_pos c1] at h; cases h
  · rw [if_neg c1] at h ⊢
    by_cases c2 : cL (u p) = true
    · rw [if_pos c2] at h
      have h : (if rL cL u n p > 8 then 1 else kwV (wv u p (rL cL u n p))) = 3 := h
      have := kwS_2 (v := wv u p (rL cL u n p)) 8 0
      unfold kwV at h
      split at h <;> omega
    · rw [if_neg c2] at h ⊢
      by_cases c3 : cD (u p) = true
      · rw [if_pos c3] at h ⊢
        have h : (if rL cD u n p > 4 then 1 else 3) = 3 := h
        have h4 : rL cD u n p ≤ 4 := by
          split at h <;> omega
        obtain ⟨a, b⟩ := xv_N (u := u) (a := p) (rL cD u n p) (fun i hi => rL_all hi)
        have h5 : (10 : Nat) ^ rL cD u n p ≤ 10 ^ 4 := Nat.pow_le_pow_right (by decide) h4
        exact ⟨nvN u p (rL cD u n p), by omega, a⟩
      · rw [if_neg c3] at h
        have h : sgK (u p) = 3 := h
        have := sgK_x (u p)
        omega
theorem tkB_2 {u : Nat → Nat} {n p : Nat} (h : (tkB u n p).1 = 2) : 0 < (tkB u n p).2.2.1 := by
  unfold tkB at h ⊢
  by_cases c1 : n ≤ p
  · rw [if_pos c1] at h; cases h
  · rw [if_neg c1] at h ⊢
    by_cases c2 : cL (u p) = true
    · rw [if_pos c2] at h ⊢
      have h : (if rL cL u n p > 8 then 1 else kwV (wv u p (rL cL u n p))) = 2 := h
      have h8 : rL cL u n p ≤ 8 := by
        split at h <;> omega
      have h1 := rL_s (c := cL) (u := u) (n := n) (a := p) (by omega) c2
      have e := wv_N (u := u) (a := p) (rL cL u n p) (fun i hi => rL_all hi)
      obtain ⟨b1, b2⟩ := wvN_b (u := u) (a := p) (rL cL u n p) (fun i hi => rL_all hi)
      have b2 := b2 (by omega)
      have h5 : (27 : Nat) ^ rL cL u n p ≤ 27 ^ 8 := Nat.pow_le_pow_right (by decide) h8
      have h6 : 0 < (27 : Nat) ^ (rL cL u n p - 1) := Nat.pow_pos (by decide)
      show 0 < wv u p (rL cL u n p)
      rw [e, Int64.lt_iff_toInt_lt]
      have hb : wvN u p (rL cL u n p) < 2 ^ 63 := by omega
      have hi : (lN (wvN u p (rL cL u n p))).toInt = (wvN u p (rL cL u n p) : Int) := by
        first | exact Int64.toInt_ofNat_of_lt hb | (unfold lN; rw [Int64.toInt_ofNat]; exact Int.bmod_eq_of_le (by omega) (by omega))
      rw [hi]
      show (0 : Int) < _
      omega
    · rw [if_neg c2] at h
      by_cases c3 : cD (u p) = true
      · rw [if_pos c3] at h
        have h : (if rL cD u n p > 4 then 1 else 3) = 2 := h
        split at h <;> omega
      · rw [if_neg c3] at h
        have h : sgK (u p) = 2 := h
        have := sgK_x (u p)
        omega
theorem vaN_3 {u : Nat → Nat} {n i : Nat} (h : kdN u n i = 3) : ∃ q, q < 10000 ∧ vaN u n i = lN q := tkB_3 h
theorem vaN_2 {u : Nat → Nat} {n i : Nat} (h : kdN u n i = 2) : 0 < vaN u n i := tkB_2 h
/-- a hand that holds nothing -/
def hw0 : HWk := ((0, 0, false), fun _ => false, fun _ => 0, fun _ => 0)
theorem XA.set {h : AH} {o w tl c : Nat} {fp ah : Int32} {da : Nat → Nat} {dd : Nat → DD} (hA : XA h o w tl fp c ah da dd) (tl' : Nat) (fp' ah' : Int32) : XA (uph h o (.inr (11, xfO w tl' fp' c ah'))) o w tl' fp' c ah' da dd := by
  obtain ⟨a1, ⟨df, a2, a3⟩, a4, a5, a6, a7, a8⟩ := hA
  exact ⟨uph_eq, ⟨df, (uph_ne (by omega)).trans a2, a3⟩, a4, a5.ag (fun x hx => uph_ne (by omega)), fun i hi => ⟨(a6 i hi).1.ag (fun x hx => uph_ne (by have := (a6 i hi).2.2; omega)), (a6 i hi).2⟩, a7, a8⟩
set_option maxHeartbeats 8000000 in
theorem x_takeToHand {l : Launch} {G : GG} {h : AH} {nx : Nat} {Post : Option Value → AH → Nat → Prop} {o w tl c t a : Nat} {fp ah : Int32} {da : Nat → Nat} {dd : Nat → DD} {s : HWk} (hX : XC G ∧ TX l G) (hA : XA h o w tl fp c ah da dd) (ht : t < c) (hW : XHw h w a s) (hP : ∀ h1 : AH, (∀ x, x ≠ o → x < w + 70 ∨ w + 73 ≤ x → h1 x = h x) → XA h1 o w tl fp c (nI t) da dd → XHw h1 w (da t) hw0 → Post none h1 nx) : Runs l G i_X11_takeToHand 0 0 [.ref o, .int (nI t)] h nx Post := by
  have hA1 := hA.set tl fp (nI t)
  have how := hA.2.2.2.2.2.2
  obtain ⟨z, ga, gw, e0, e1, e2, p1, p2⟩ := hW
  refine en_X11_takeToHand hX [] 30 rfl ?_
  refine Exists.intro _ (And.intro hA.1 (And.intro (Nat.le_of_ble_eq_true rfl) (And.intro rfl (And.intro rfl ?_))))
  refine Exists.intro _ (And.intro hA1.1 (Exists.intro _ (And.intro rfl ?_)))
  refine Exists.intro _ (And.intro hA1.1 (Exists.intro 0 (Exists.intro 0 (And.intro (Nat.le_refl _) (And.intro (Nat.le_refl _) (x_current hX hA1 ht ?_))))))
  refine Exists.intro _ (And.intro ((uph_ne (by omega)).trans e0) (Exists.intro 0 (Exists.intro 0 (And.intro (Nat.le_refl _) (And.intro (Nat.le_refl _) (c_takeDrawing hX ((uph_ne (by omega)).trans e0) rfl rfl rfl ((uph_ne (by omega)).trans e1) ((uph_ne (by omega)).trans e2) (by omega) (fun ga' gw' za zw => ?_)))))))
  refine hP _ (fun x x1 x2 => ?_) (hA1.ag (fun x hx => ?_)) ⟨0, ga', gw', ?_, ?_, ?_, fun k hk => ?_, fun r hr => ⟨za r hr, zw r hr⟩⟩
  · rw [uph_ne (by omega), uph_ne (by omega), uph_ne (by omega), uph_ne x1]
  · have h6 := hA.2.2.2.2.1
    have : x < w + 70 ∨ w + 73 ≤ x := by
      rcases hx with z | z | z | ⟨i, hi, z⟩
      · omega
      · omega
      · omega
      · have := (h6 i hi).2.2
        omega
    rw [uph_ne (by omega), uph_ne (by omega), uph_ne (by omega)]
    rfl
  · rw [uph_ne (by omega), uph_ne (by omega)]
    exact uph_eq
  · rw [uph_ne (by omega)]
    exact uph_eq
  · exact uph_eq
  · exact bl_0 k
set_option maxHeartbeats 8000000 in
theorem x_use {l : Launch} {G : GG} {h : AH} {nx : Nat} {Post : Option Value → AH → Nat → Prop} {o w tl c t a : Nat} {fp ah : Int32} {da : Nat → Nat} {dd : Nat → DD} {s : HWk} (hX : XC G ∧ TX l G) (hA : XA h o w tl fp c ah da dd) (ht : t < c) (hW : XHw h w a s) (hE : nI t = ah → Post (some (.int 1)) h nx) (hP : nI t ≠ ah → ∀ h1 : AH, (∀ x, x ≠ o → x < w + 70 ∨ w + 73 ≤ x → h1 x = h x) → XA h1 o w tl fp c (nI t) da dd → XHw h1 w (da t) hw0 → Post (some (.int 1)) h1 nx) : Runs l G i_X11_use 0 0 [.ref o, .int (nI t)] h nx Post := by
  have hc := hA.2.2.1
  refine en_X11_use hX [] 40 rfl ?_
  refine Exists.intro _ (And.intro hA.1 (Exists.intro 0 (Exists.intro 0 (And.intro (Nat.le_refl _) (And.intro (Nat.le_refl _) (x_isDrawing hX hA ?_))))))
  rw [show inR (nI t) c = true from (inR_c (by omega)).mpr ⟨t, ht, rfl⟩]
  refine And.intro (fun _ => ?_) (fun cz => by first | exact absurd cz (by decide) | exact absurd (by decide) cz)
  refine Exists.intro _ (And.intro hA.1 (Exists.intro _ (And.intro rfl ?_)))
  by_cases c1 : nI t = ah
  · refine And.intro (fun _ => ?_) (fun cz => absurd (c1) cz)
    exact And.intro rfl ((hE c1))
  · refine And.intro (fun cz => absurd cz (c1)) (fun _ => ?_)
    refine Exists.intro _ (And.intro hA.1 (Exists.intro 0 (Exists.intro 0 (And.intro (Nat.le_refl _) (And.intro (Nat.le_refl _) (x_takeToHand hX hA ht hW (fun h1 z1 z2 z3 => ?_)))))))
    exact And.intro rfl ((hP c1 h1 z1 z2 z3))
set_option maxHeartbeats 8000000 in
theorem x_useNo {l : Launch} {G : GG} {h : AH} {nx : Nat} {Post : Option Value → AH → Nat → Prop} {o w tl c : Nat} {fp ah d : Int32} {da : Nat → Nat} {dd : Nat → DD} (hX : XC G ∧ TX l G) (hA : XA h o w tl fp c ah da dd) (hd : inR d c = false) (hP : Post (some (.int 0)) h nx) : Runs l G i_X11_use 0 0 [.ref o, .int d] h nx Post := by
  refine en_X11_use hX [] 40 rfl ?_
  refine Exists.intro _ (And.intro hA.1 (Exists.intro 0 (Exists.intro 0 (And.intro (Nat.le_refl _) (And.intro (Nat.le_refl _) (x_isDrawing hX hA ?_))))))
  rw [hd]
  refine And.intro (fun cz => by first | exact absurd cz (by decide) | exact absurd (by decide) cz) (fun _ => ?_)
  exact And.intro rfl (hP)
