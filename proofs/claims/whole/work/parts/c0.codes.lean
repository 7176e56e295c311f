/-! the codes that a text's circuits are written in, pure: the pile of signs that wait, the codes so far -/
def cSt (s k i : Nat) (x : List Nat × List Nat) : List Nat × List Nat := if s < 10 then x
  else if k = 2 then (x.1, x.2 ++ [1000 + i])
  else if k = 14 then x
  else if k = 17 then (6 :: x.1, x.2)
  else if k = 15 then (9 :: (gsA 9 x.1).1, x.2 ++ (gsA 9 x.1).2)
  else if k = 16 then (10 :: (gsA 4 x.1).1, x.2 ++ (gsA 4 x.1).2)
  else if k = 18 then ((gsA 4 x.1).1.tail, x.2 ++ (gsA 4 x.1).2)
  else ((gsA 4 x.1).1, x.2 ++ (gsA 4 x.1).2)
/-- ahead of token i -/
def cG (kd : Nat → Nat) : Nat → List Nat × List Nat
  | 0 => ([], [])
  | i + 1 => cSt (zS (zz kd i)) (kd i) i (cG kd i)
theorem gs2_q {q : Nat} (h : q ≠ 9) (W : List Nat) : gs2 q W = gs2 4 W := by
  cases W with
  | nil => rfl
  | cons k W =>
    show (if q ≠ 9 ∧ k = 10 then (W, [51]) else (k :: W, [])) = (if 4 ≠ 9 ∧ k = 10 then (W, [51]) else (k :: W, []))
    by_cases c : k = 10
    · rw [if_pos ⟨h, c⟩, if_pos ⟨by decide, c⟩]
    · rw [if_neg (fun z => c z.2), if_neg (fun z => c z.2)]
theorem gsA_q {q : Nat} (h : q ≠ 9) (W : List Nat) : gsA q W = gsA 4 W := by
  unfold gsA
  rw [gs2_q h]
theorem gs1_l (W : List Nat) : (gs1 W).1.length + (gs1 W).2.length = W.length ∧ ((gs1 W).2 = [] ∨ (gs1 W).2 = [50]) := by
  cases W with
  | nil => exact ⟨rfl, Or.inl rfl⟩
  | cons k W =>
    have e1 : gs1 (k :: W) = if k = 9 then (W, [50]) else (k :: W, []) := rfl
    rw [e1]
    split
    · exact ⟨rfl, Or.inr rfl⟩
    · exact ⟨rfl, Or.inl rfl⟩
theorem gs2_l (q : Nat) (W : List Nat) : (gs2 q W).1.length + (gs2 q W).2.length = W.length ∧ ((gs2 q W).2 = [] ∨ (gs2 q W).2 = [51]) := by
  cases W with
  | nil => exact ⟨rfl, Or.inl rfl⟩
  | cons k W =>
    have e1 : gs2 q (k :: W) = if q ≠ 9 ∧ k = 10 then (W, [51]) else (k :: W, []) := rfl
    rw [e1]
    split
    · exact ⟨rfl, Or.inr rfl⟩
    · exact ⟨rfl, Or.inl rfl⟩
theorem gsA_l (q : Nat) (W : List Nat) : (gsA q W).1.length + (gsA q W).2.length = W.length ∧ ∀ x ∈ (gsA q W).2, x = 50 ∨ x = 51 := by
  obtain ⟨a, b⟩ := gs1_l W
  obtain ⟨c, d⟩ := gs2_l q (gs1 W).1
  refine ⟨?_, fun x hx => ?_⟩
  · show (gs2 q (gs1 W).1).1.length + ((gs1 W).2 ++ (gs2 q (gs1 W).1).2).length = _
    rw [List.length_append]
    omega
  · have hx : x ∈ (gs1 W).2 ++ (gs2 q (gs1 W).1).2 := hx
    rcases List.mem_append.mp hx with z | z
    · rcases b with e | e
      · rw [e] at z; cases z
      · rw [e] at z
        exact Or.inl (List.mem_singleton.mp z)
    · rcases d with e | e
      · rw [e] at z; cases z
      · rw [e] at z
        exact Or.inr (List.mem_singleton.mp z)
/-- a step of it, by the token's kind -/
theorem cSt_2 {s i : Nat} (x : List Nat × List Nat) (h : 10 ≤ s) : cSt s 2 i x = (x.1, x.2 ++ [1000 + i]) := by
  unfold cSt; rw [if_neg (by omega)]; rfl
theorem cSt_14 {s i : Nat} (x : List Nat × List Nat) (h : 10 ≤ s) : cSt s 14 i x = x := by
  unfold cSt; rw [if_neg (by omega)]; rfl
theorem cSt_17 {s i : Nat} (x : List Nat × List Nat) (h : 10 ≤ s) : cSt s 17 i x = (6 :: x.1, x.2) := by
  unfold cSt; rw [if_neg (by omega)]; rfl
theorem cSt_15 {s i : Nat} (x : List Nat × List Nat) (h : 10 ≤ s) : cSt s 15 i x = (9 :: (gsA 9 x.1).1, x.2 ++ (gsA 9 x.1).2) := by
  unfold cSt; rw [if_neg (by omega)]; rfl
theorem cSt_16 {s i : Nat} (x : List Nat × List Nat) (h : 10 ≤ s) : cSt s 16 i x = (10 :: (gsA 4 x.1).1, x.2 ++ (gsA 4 x.1).2) := by
  unfold cSt; rw [if_neg (by omega)]; rfl
theorem cSt_18 {s i : Nat} (x : List Nat × List Nat) (h : 10 ≤ s) : cSt s 18 i x = ((gsA 4 x.1).1.tail, x.2 ++ (gsA 4 x.1).2) := by
  unfold cSt; rw [if_neg (by omega)]; rfl
theorem cSt_12 {s i : Nat} (x : List Nat × List Nat) (h : 10 ≤ s) : cSt s 12 i x = ((gsA 4 x.1).1, x.2 ++ (gsA 4 x.1).2) := by
  unfold cSt; rw [if_neg (by omega)]; rfl
theorem cSt_n {s k i : Nat} (x : List Nat × List Nat) (h : s < 10) : cSt s k i x = x := if_pos h
/-- the number of names in circuits of nevers ahead of token i -/
def wQ (kd : Nat → Nat) (i : Nat) : Bool := zQ kd i && decide (zT (zz kd i) = 10)
def wN (kd : Nat → Nat) : Nat → Nat
  | 0 => 0
  | i + 1 => wN kd i + (if wQ kd i = true then 1 else 0)
theorem wN_le (kd : Nat → Nat) : ∀ i, wN kd i ≤ i
  | 0 => Nat.le_refl 0
  | i + 1 => by
    have := wN_le kd i
    show wN kd i + _ ≤ i + 1
    split <;> omega
/-- the number of circuits' tokens ahead of token i -/
def gCn (kd : Nat → Nat) : Nat → Nat
  | 0 => 0
  | i + 1 => gCn kd i + (if 10 ≤ zS (zz kd i) ∧ kd i ≠ 12 then 1 else 0)
theorem gCn_le (kd : Nat → Nat) : ∀ i, gCn kd i ≤ i
  | 0 => Nat.le_refl 0
  | i + 1 => by
    have := gCn_le kd i
    show gCn kd i + _ ≤ i + 1
    split <;> omega
theorem zB_hi {q d : Nat} (hq : q < 10) : ∀ k, 14 ≤ k → k < 19 → zB q d k = none := by
  intro k h1 h2
  have hq2 : q = 0 ∨ q = 1 ∨ q = 2 ∨ q = 3 ∨ q = 4 ∨ q = 5 ∨ q = 6 ∨ q = 7 ∨ q = 8 ∨ q = 9 := by omega
  have hk : k = 14 ∨ k = 15 ∨ k = 16 ∨ k = 17 ∨ k = 18 := by omega
  rcases hq2 with rfl | rfl | rfl | rfl | rfl | rfl | rfl | rfl | rfl | rfl <;> rcases hk with rfl | rfl | rfl | rfl | rfl <;> rfl
/-- what holds of the pile and the codes ahead of every token -/
theorem cG_w {kd : Nat → Nat} (hkd : ∀ i, kd i < 19) : ∀ {t : Nat}, (∀ j, j < t → zok kd j) → wpl (cG kd t).1 ∧ opC (cG kd t).1 = zD (zz kd t) ∧ (zS (zz kd t) < 10 → (cG kd t).1 = []) ∧ (cG kd t).1.length + (cG kd t).2.length ≤ t
  | 0, _ => ⟨True.intro, rfl, fun _ => rfl, Nat.le_refl 0⟩
  | t + 1, h => by
    have h0 : ∀ j, j < t → zok kd j := fun j hj => h j (by omega)
    obtain ⟨i1, i2, i3, i4⟩ := cG_w hkd h0
    obtain ⟨s, hb, hs, hz, ho⟩ := zst hkd h (Nat.lt_succ_self t)
    have hw := zW_all hkd h0
    have eS : zS (zz kd (t + 1)) = s := by rw [hz, zA_S]
    show wpl (cSt (zS (zz kd t)) (kd t) t (cG kd t)).1 ∧ opC (cSt (zS (zz kd t)) (kd t) t (cG kd t)).1 = _ ∧ (_ → (cSt (zS (zz kd t)) (kd t) t (cG kd t)).1 = []) ∧ (cSt (zS (zz kd t)) (kd t) t (cG kd t)).1.length + (cSt (zS (zz kd t)) (kd t) t (cG kd t)).2.length ≤ t + 1
    rw [eS]
    by_cases c10 : zS (zz kd t) < 10
    · rw [cSt_n _ c10]
      have d0 : zD (zz kd t) = 0 := hw.2.2.2.2.2.2.2.2.1 c10
      have d1 : zD (zz kd (t + 1)) = 0 := by
        rw [hz]
        by_cases c0 : zS (zz kd t) = 0
        · rw [zA_D0 c0]; exact d0
        · rw [zA_D c0]
          have h17 : kd t ≠ 17 := fun e => by
            rw [e, zB_hi c10 17 (by decide) (by decide)] at hb
            cases hb
          rw [if_neg h17]
          split <;> omega
      rw [i3 c10]
      refine ⟨True.intro, by rw [d1]; rfl, fun _ => rfl, ?_⟩
      rw [i3 c10] at i4
      show ([] : List Nat).length + (cG kd t).2.length ≤ t + 1
      omega
    · have h10 : 10 ≤ zS (zz kd t) := by omega
      have hD : zD (zz kd (t + 1)) = if kd t = 17 then zD (zz kd t) + 1 else if kd t = 18 then zD (zz kd t) - 1 else zD (zz kd t) := by rw [hz, zA_D (by omega)]
      rw [hD]
      have hc := zfr hs h10 hb
      obtain ⟨w1, w2, w3, w4⟩ := gsA_w (q := 4) i1
      have l4 := (gsA_l 4 (cG kd t).1).1
      by_cases k2 : kd t = 2
      · rw [k2, cSt_2 _ h10]
        refine ⟨i1, i2, fun z => by omega, ?_⟩
        show (cG kd t).1.length + ((cG kd t).2 ++ [1000 + t]).length ≤ t + 1
        rw [List.length_append]
        show (cG kd t).1.length + ((cG kd t).2.length + 1) ≤ t + 1
        omega
      · by_cases k14 : kd t = 14
        · rw [k14, cSt_14 _ h10]
          exact ⟨i1, i2, fun z => by omega, by omega⟩
        · by_cases k17 : kd t = 17
          · rw [k17, cSt_17 _ h10]
            refine ⟨⟨Or.inl rfl, i1⟩, ?_, fun z => by omega, ?_⟩
            · show 1 + opC (cG kd t).1 = zD (zz kd t) + 1
              omega
            · show (cG kd t).1.length + 1 + (cG kd t).2.length ≤ t + 1
              omega
          · by_cases k15 : kd t = 15
            · rw [k15, cSt_15 _ h10]
              obtain ⟨y1, y2, y3, y4⟩ := gsA_w (q := 9) i1
              have l9 := (gsA_l 9 (cG kd t).1).1
              refine ⟨⟨Or.inr (Or.inr ⟨rfl, y4.imp id (fun z => z.imp id (fun z => z.2))⟩), y1⟩, ?_, fun z => by omega, ?_⟩
              · show 0 + opC (gsA 9 (cG kd t).1).1 = zD (zz kd t)
                omega
              · show (gsA 9 (cG kd t).1).1.length + 1 + ((cG kd t).2 ++ (gsA 9 (cG kd t).1).2).length ≤ t + 1
                rw [List.length_append]
                omega
            · have w4b : (gsA 4 (cG kd t).1).1 = [] ∨ (gsA 4 (cG kd t).1).1.head? = some 6 := by
                rcases w4 with z | z | z
                · exact Or.inl z
                · exact Or.inr z
                · exact absurd z.1 (by decide)
              by_cases k16 : kd t = 16
              · rw [k16, cSt_16 _ h10]
                refine ⟨⟨Or.inr (Or.inl ⟨rfl, w4b⟩), w1⟩, ?_, fun z => by omega, ?_⟩
                · show 0 + opC (gsA 4 (cG kd t).1).1 = zD (zz kd t)
                  omega
                · show (gsA 4 (cG kd t).1).1.length + 1 + ((cG kd t).2 ++ (gsA 4 (cG kd t).1).2).length ≤ t + 1
                  rw [List.length_append]
                  omega
              · by_cases k18 : kd t = 18
                · rw [k18, cSt_18 _ h10]
                  cases hW : (gsA 4 (cG kd t).1).1 with
                  | nil =>
                    exfalso
                    rw [hW] at w2
                    have : opC [] = 0 := rfl
                    omega
                  | cons k W =>
                    rw [hW] at w1 w2 w4b l4
                    have k6 : k = 6 := by
                      rcases w4b with z | z
                      · cases z
                      · injection z
                    subst k6
                    have e1 : opC (6 :: W) = 1 + opC W := rfl
                    have e2 : (6 :: W).length = W.length + 1 := rfl
                    refine ⟨w1.2, ?_, fun z => by omega, ?_⟩
                    · show opC W = zD (zz kd t) - 1
                      omega
                    · show W.length + ((cG kd t).2 ++ (gsA 4 (cG kd t).1).2).length ≤ t + 1
                      rw [List.length_append]
                      omega
                · have k12 : kd t = 12 ∧ zD (zz kd t) = 0 ∧ s = 0 := by omega
                  rw [k12.1, cSt_12 _ h10]
                  have e0 : (gsA 4 (cG kd t).1).1 = [] := by
                    cases hW : (gsA 4 (cG kd t).1).1 with
                    | nil => rfl
                    | cons k W =>
                      exfalso
                      rw [hW] at w2 w4b
                      have k6 : k = 6 := by
                        rcases w4b with z | z
                        · cases z
                        · injection z
                      subst k6
                      have e1 : opC (6 :: W) = 1 + opC W := rfl
                      omega
                  rw [e0] at l4 ⊢
                  refine ⟨True.intro, ?_, fun _ => rfl, ?_⟩
                  · show 0 = zD (zz kd t)
                    omega
                  · show 0 + ((cG kd t).2 ++ (gsA 4 (cG kd t).1).2).length ≤ t + 1
                    have : ([] : List Nat).length = 0 := rfl
                    rw [List.length_append]
                    omega
