/-! the circuits closed in x's hut are those closed in the model's -/
def wl2 (f g : Option Nat) (k : Nat) : Bool := wlF f k || wlF g k
def br2 (f g : Option Nat) (k : Nat) : Bool := brF f k || brF g k
def cr2 (f g : Option Nat) (k : Nat) : Bool := crF f k || crF g k
theorem hu_1 {ow : Nat → Nat} {f : Option Nat} {k : Nat} (h : wlF f k = true ∨ brF f k = true ∨ crF f k = true) : (huF ow f).testBit (ow k) = true := by
  cases f with
  | none => rcases h with h | h | h <;> cases h
  | some n =>
    have hn : n < 200 ∧ n / 4 = k := by
      rcases h with h | h | h
      · have := of_decide_eq_true h; exact ⟨this.1, this.2.2⟩
      · have := of_decide_eq_true h; exact ⟨this.1, this.2.2⟩
      · have := of_decide_eq_true h; exact ⟨this.1, this.2.2⟩
    show (if n < 200 then 2 ^ ow (n / 4) else 0).testBit (ow k) = true
    rw [if_pos hn.1, hn.2, Nat.testBit_two_pow]
    exact decide_eq_true rfl
theorem hu_no {ow : Nat → Nat} {f g : Option Nat} {k : Nat} (h : (huF ow f ||| huF ow g).testBit (ow k) = false) : wl2 f g k = false ∧ br2 f g k = false ∧ cr2 f g k = false := by
  rw [Nat.testBit_or, Bool.or_eq_false_iff] at h
  have hf : ∀ {b : Bool}, (b = true → (huF ow f).testBit (ow k) = true) → b = false := fun {b} hb => by
    cases b
    · rfl
    · rw [h.1] at hb; exact absurd (hb rfl) (by decide)
  have hg : ∀ {b : Bool}, (b = true → (huF ow g).testBit (ow k) = true) → b = false := fun {b} hb => by
    cases b
    · rfl
    · rw [h.2] at hb; exact absurd (hb rfl) (by decide)
  unfold wl2 br2 cr2
  rw [hf (fun z => hu_1 (Or.inl z)), hg (fun z => hu_1 (Or.inl z)), hf (fun z => hu_1 (Or.inr (Or.inl z))), hg (fun z => hu_1 (Or.inr (Or.inl z))), hf (fun z => hu_1 (Or.inr (Or.inr z))), hg (fun z => hu_1 (Or.inr (Or.inr z)))]
  exact ⟨rfl, rfl, rfl⟩
/-- what is wired together in a circuit asks its own contacts alone -/
def depB (K : Nat) (ow : Nat → Nat) (CT : Nat → (Nat → Bool) → Bool) : Prop := ∀ (c : Nat) (a b : Nat → Bool), (∀ k, k < K → ow k = c → a k = b k) → CT c a = CT c b
theorem same_shut {K K2 nR nL nR2 nL2 set : Nat} {CT CT2 : Nat → (Nat → Bool) → Bool} {ow ow2 : Nat → Nat} {tg tg2 : Nat → Bool} {f g : Option Nat} {wz bz cz : Int64} (hK : K ≤ 40)
    (hw : ∀ k, bl wz k = (wlF f k || wlF g k)) (hb : ∀ k, bl bz k = (brF f k || brF g k)) (hc : ∀ k, bl cz k = (crF f k || crF g k))
    (hd : depB K ow CT) (hd2 : depB K2 ow2 CT2) (hcr : ∀ k, cr2 f g k = true → k + 1 < K ∧ ow (k + 1) = ow k) (hset : ∀ c, c < 11 → set.testBit c = true → cirB nR2 nL2 c = true) (hone : set = 0 ∨ (f = none ∧ g = none)) (hhc : ∀ c, c < 11 → (huF ow f ||| huF ow g).testBit c = true → cirB nR nL c = true) :
    bsum (fun c => if (huF ow f ||| huF ow g).testBit c = true then CT c (fun k => decide (k < 64) && ctX (bl wz) (bl bz) (bl cz) (fun k => decide (k < K) && tg k) k) else (if set.testBit c = true then (cirB nR2 nL2 c && CT2 c (fun k => decide (k < K2) && tg2 k)) else (cirB nR nL c && CT c (fun k => decide (k < K) && tg k)))) 11
      = bsum (shF set nR nL (fun k => CT k (clB (wl2 f g) (br2 f g) (cr2 f g) tg)) (fun k => CT2 k (clB (wl2 f g) (br2 f g) (cr2 f g) tg2))) 11 := by
  have ew : bl wz = wl2 f g := funext hw
  have eb : bl bz = br2 f g := funext hb
  have ec : bl cz = cr2 f g := funext hc
  rw [ew, eb, ec]
  refine bsum_congr (fun c hc11 => ?_)
  unfold shF
  have none2 : f = none ∧ g = none → ∀ (t : Nat → Bool), clB (wl2 f g) (br2 f g) (cr2 f g) t = t := fun ⟨q1, q2⟩ t => by
    subst q1; subst q2
    funext k
    unfold clB bsB wl2 br2 cr2 wlF brF crF
    simp
  cases hh : (huF ow f ||| huF ow g).testBit c
  · rw [if_neg (by decide)]
    cases hs : set.testBit c
    · rw [if_neg (by decide), if_neg (by decide)]
      congr 1
      refine hd c _ _ (fun k hk hkc => ?_)
      have hno : wl2 f g k = false ∧ br2 f g k = false ∧ cr2 f g k = false := hu_no (ow := ow) (by rw [hkc]; exact hh)
      have hprev : (decide (0 < k) && (cr2 f g (k - 1) && bsB (wl2 f g) (br2 f g) tg (k - 1))) = false := by
        by_cases h0 : 0 < k
        · cases hcp : cr2 f g (k - 1)
          · simp
          · have h1 := (hcr (k - 1) hcp).2
            rw [show k - 1 + 1 = k by omega] at h1
            have := (hu_no (ow := ow) (f := f) (g := g) (k := k - 1) (by rw [← h1, hkc]; exact hh)).2.2
            rw [hcp] at this; cases this
        · rw [decide_eq_false h0]; rfl
      unfold clB
      rw [hprev, hno.2.2]
      unfold bsB
      rw [hno.1, hno.2.1, decide_eq_true hk]
      simp
    · rw [if_pos rfl, if_pos rfl]
      have hnn : f = none ∧ g = none := by
        rcases hone with h | h
        · rw [h, Nat.zero_testBit] at hs; cases hs
        · exact h
      rw [hset c hc11 hs, Bool.true_and, none2 hnn]
      exact hd2 c _ _ (fun k hk _ => by rw [decide_eq_true hk, Bool.true_and])
  · rw [if_pos rfl]
    have hs : set.testBit c = false := by
      rcases hone with h | ⟨h1, h2⟩
      · rw [h, Nat.zero_testBit]
      · subst h1; subst h2
        rw [show huF ow none = 0 from rfl, Nat.or_self, Nat.zero_testBit] at hh
        cases hh
    rw [hs, if_neg (by decide), hhc c hc11 hh, Bool.true_and]
    refine hd c _ _ (fun k hk hkc => ?_)
    unfold ctX clB bsB
    dsimp only
    rw [decide_eq_true (show k < 64 by omega), decide_eq_true hk]
    have hn1 : (((decide (k + 1 < K) && tg (k + 1)) && !br2 f g (k + 1)) || wl2 f g (k + 1)) = (wl2 f g (k + 1) || (!br2 f g (k + 1) && tg (k + 1))) ∨ cr2 f g k = false := by
      cases hck : cr2 f g k
      · exact Or.inr rfl
      · refine Or.inl ?_
        rw [decide_eq_true (hcr k hck).1]
        cases tg (k + 1) <;> cases br2 f g (k + 1) <;> cases wl2 f g (k + 1) <;> rfl
    have hp1 : (((decide (k - 1 < K) && tg (k - 1)) && !br2 f g (k - 1)) || wl2 f g (k - 1)) = (wl2 f g (k - 1) || (!br2 f g (k - 1) && tg (k - 1))) := by
      rw [decide_eq_true (show k - 1 < K by omega)]
      cases tg (k - 1) <;> cases br2 f g (k - 1) <;> cases wl2 f g (k - 1) <;> rfl
    rw [hp1]
    rcases hn1 with hn1 | hn1
    · rw [hn1]
      cases tg k <;> cases br2 f g k <;> cases wl2 f g k <;> cases cr2 f g k <;> cases decide (0 < k) <;> cases cr2 f g (k - 1) <;> simp
    · rw [hn1]
      cases tg k <;> cases br2 f g k <;> cases wl2 f g k <;> cases decide (0 < k) <;> cases cr2 f g (k - 1) <;> simp
