/-! what the model's goes and unit find, by the machine that reads -/
theorem zB12_n {d k : Nat} (h : k ≠ 15 ∧ k ≠ 16 ∧ ¬ (k = 18 ∧ 0 < d) ∧ ¬ (k = 12 ∧ d = 0)) : zB 12 d k = none := by
  show (if k = 15 ∨ k = 16 then some 10 else if k = 18 ∧ 0 < d then some 12 else if k = 12 ∧ d = 0 then some 0 else (none : Option Nat)) = none
  rw [if_neg (by omega), if_neg h.2.2.1, if_neg h.2.2.2]
theorem zB12_s {d k : Nat} (h : k = 15 ∨ k = 16) : zB 12 d k = some 10 := by
  show (if k = 15 ∨ k = 16 then some 10 else if k = 18 ∧ 0 < d then some 12 else if k = 12 ∧ d = 0 then some 0 else (none : Option Nat)) = some 10
  rw [if_pos h]
theorem zB12_c {d : Nat} (h : 0 < d) : zB 12 d 18 = some 12 := by
  show (if (18 : Nat) = 15 ∨ (18 : Nat) = 16 then some 10 else if (18 : Nat) = 18 ∧ 0 < d then some 12 else if (18 : Nat) = 12 ∧ d = 0 then some 0 else (none : Option Nat)) = some 12
  rw [if_neg (by decide), if_pos ⟨rfl, h⟩]
theorem zB10_n {d k : Nat} (h : k ≠ 2 ∧ k ≠ 14 ∧ k ≠ 17) : zB 10 d k = none := by
  show (if k = 2 then some 12 else if k = 14 then some 11 else if k = 17 then some 10 else (none : Option Nat)) = none
  rw [if_neg h.1, if_neg h.2.1, if_neg h.2.2]
theorem zB11_n {d k : Nat} (h : k ≠ 2) : zB 11 d k = none := by
  show (if k = 2 then some 12 else (none : Option Nat)) = none
  rw [if_neg h]
/-- within a circuit: a token leaves the telling and its counts -/
theorem zst_c {kd : Nat → Nat} (hkd : ∀ i, kd i < 19) {N i : Nat} (hok : ∀ j, j < N → zok kd j) (hi : i < N) (h10 : 10 ≤ zS (zz kd i)) (h12 : kd i ≠ 12) : 10 ≤ zS (zz kd (i + 1)) ∧ zT (zz kd (i + 1)) = zT (zz kd i) ∧ zI (zz kd (i + 1)) = zI (zz kd i) ∧ zR (zz kd (i + 1)) = zR (zz kd i) ∧ zL (zz kd (i + 1)) = zL (zz kd i) ∧ zV (zz kd (i + 1)) = zV (zz kd i) := by
  obtain ⟨s, hb, hs, hz, ho⟩ := zst hkd hok hi
  have hc := zfr hs h10 hb
  rw [hz]
  refine ⟨by rw [zA_S]; omega, by rw [zA_T, if_neg (by omega)], by rw [zA_I, if_neg (by omega)], by rw [zA_R, if_neg (by omega)], by rw [zA_L, if_neg (by omega)], by rw [zA_V, if_neg (by omega)]⟩
theorem kk9 {kd : Nat → Nat} (hkd : ∀ i, kd i < 19) (t : Nat) : (mkK (kd t) = 9 ↔ kd t = 15) ∧ (mkK (kd t) = 10 ↔ kd t = 16) ∧ (mkK (kd t) = 7 ↔ kd t = 18) ∧ (mkK (kd t) = 6 ↔ kd t = 17) ∧ (mkK (kd t) = 4 ↔ kd t = 12) ∧ (mkK (kd t) = 1 ↔ kd t = 2) := by
  have : ∀ k, k < 19 → (mkK k = 9 ↔ k = 15) ∧ (mkK k = 10 ↔ k = 16) ∧ (mkK k = 7 ↔ k = 18) ∧ (mkK k = 6 ↔ k = 17) ∧ (mkK k = 4 ↔ k = 12) ∧ (mkK k = 1 ↔ k = 2) := by decide
  exact this _ (hkd t)
/-- tokens a .. b of a circuit -/
def inC (kd : Nat → Nat) (a b : Nat) : Prop := ∀ q, a ≤ q → q < b → 10 ≤ zS (zz kd q) ∧ kd q ≠ 12
theorem inC.app {kd : Nat → Nat} {a b c : Nat} (x : inC kd a b) (y : inC kd b c) : inC kd a c := fun q h1 h2 => by
  rcases Nat.lt_or_ge q b with z | z
  · exact x q h1 z
  · exact y q z h2
theorem inC.z {kd : Nat → Nat} (hkd : ∀ i, kd i < 19) {N a : Nat} (hok : ∀ j, j < N → zok kd j) : ∀ {b : Nat}, a ≤ b → b ≤ N → inC kd a b → zT (zz kd b) = zT (zz kd a) ∧ zI (zz kd b) = zI (zz kd a) ∧ zR (zz kd b) = zR (zz kd a) ∧ zL (zz kd b) = zL (zz kd a) ∧ zV (zz kd b) = zV (zz kd a) := fun {b} hab hb hi => by
  obtain ⟨m, rfl⟩ := Nat.exists_eq_add_of_le hab
  induction m with
  | zero => exact ⟨rfl, rfl, rfl, rfl, rfl⟩
  | succ m ih =>
    obtain ⟨h1, h2⟩ := hi (a + m) (by omega) (by omega)
    obtain ⟨_, x1, x2, x3, x4, x5⟩ := zst_c hkd hok (show a + m < N by omega) h1 h2
    obtain ⟨y1, y2, y3, y4, y5⟩ := ih (by omega) (by omega) (fun q q1 q2 => hi q q1 (by omega))
    exact ⟨x1.trans y1, x2.trans y2, x3.trans y3, x4.trans y4, x5.trans y5⟩
theorem cG_2 {kd : Nat → Nat} {i : Nat} (h : 10 ≤ zS (zz kd i)) (hk : kd i = 2) : cG kd (i + 1) = ((cG kd i).1, (cG kd i).2 ++ [1000 + i]) := by
  show cSt (zS (zz kd i)) (kd i) i (cG kd i) = _
  rw [hk, cSt_2 _ h]
theorem cG_14 {kd : Nat → Nat} {i : Nat} (h : 10 ≤ zS (zz kd i)) (hk : kd i = 14) : cG kd (i + 1) = cG kd i := by
  show cSt (zS (zz kd i)) (kd i) i (cG kd i) = _
  rw [hk, cSt_14 _ h]
theorem cG_17 {kd : Nat → Nat} {i : Nat} (h : 10 ≤ zS (zz kd i)) (hk : kd i = 17) : cG kd (i + 1) = (6 :: (cG kd i).1, (cG kd i).2) := by
  show cSt (zS (zz kd i)) (kd i) i (cG kd i) = _
  rw [hk, cSt_17 _ h]
theorem cG_15 {kd : Nat → Nat} {i : Nat} (h : 10 ≤ zS (zz kd i)) (hk : kd i = 15) : cG kd (i + 1) = (9 :: (gsA 9 (cG kd i).1).1, (cG kd i).2 ++ (gsA 9 (cG kd i).1).2) := by
  show cSt (zS (zz kd i)) (kd i) i (cG kd i) = _
  rw [hk, cSt_15 _ h]
theorem cG_16 {kd : Nat → Nat} {i : Nat} (h : 10 ≤ zS (zz kd i)) (hk : kd i = 16) : cG kd (i + 1) = (10 :: (gsA 4 (cG kd i).1).1, (cG kd i).2 ++ (gsA 4 (cG kd i).1).2) := by
  show cSt (zS (zz kd i)) (kd i) i (cG kd i) = _
  rw [hk, cSt_16 _ h]
theorem cG_18 {kd : Nat → Nat} {i : Nat} (h : 10 ≤ zS (zz kd i)) (hk : kd i = 18) : cG kd (i + 1) = ((gsA 4 (cG kd i).1).1.tail, (cG kd i).2 ++ (gsA 4 (cG kd i).1).2) := by
  show cSt (zS (zz kd i)) (kd i) i (cG kd i) = _
  rw [hk, cSt_18 _ h]
theorem cG_12 {kd : Nat → Nat} {i : Nat} (h : 10 ≤ zS (zz kd i)) (hk : kd i = 12) : cG kd (i + 1) = ((gsA 4 (cG kd i).1).1, (cG kd i).2 ++ (gsA 4 (cG kd i).1).2) := by
  show cSt (zS (zz kd i)) (kd i) i (cG kd i) = _
  rw [hk, cSt_12 _ h]
theorem cG_n {kd : Nat → Nat} {i : Nat} (h : zS (zz kd i) < 10) : cG kd (i + 1) = cG kd i := cSt_n _ h
theorem gsA_lt {q x : Nat} {W : List Nat} (h : x ∈ (gsA q W).2) : x < 1000 := by
  have := (gsA_l q W).2 x h
  omega
/-- what goes finds from token t on -/
def gsR (kd : Nat → Nat) (N t : Nat) (c : List Nat) (r : (Nat × Nat) × Nat × List Nat × List Nat) : Prop := (∃ f t' x, r = ((0, f), t', x) ∧ N = t' ∧ zFt kd N = f) ∨ (∃ t' c' e, r = ((1, 0), t', [], c') ∧ t ≤ t' ∧ t' ≤ 400 ∧ (∀ j, j < t' → zok kd j) ∧ inC kd t t' ∧ zS (zz kd t') = 12 ∧ zD (zz kd t') = 0 ∧ kd t' ≠ 15 ∧ kd t' ≠ 16 ∧ wN kd t' = wN kd t ∧ zK (zz kd t') = zK (zz kd t) ∧ (gsA 4 (cG kd t').1).1 = [] ∧ c' = c ++ e ∧ (cG kd t').2 ++ (gsA 4 (cG kd t').1).2 = (cG kd t).2 ++ e ∧ ∀ x ∈ e, x < 1000) ∨ (∃ t' W' c' e, r = ((2, 0), t', W', c') ∧ t < t' ∧ t' ≤ 400 ∧ (∀ j, j < t' → zok kd j) ∧ inC kd t t' ∧ zS (zz kd t') = 10 ∧ wN kd t' = wN kd t ∧ zK (zz kd t') = zK (zz kd t) ∧ (cG kd t').1 = W' ∧ c' = c ++ e ∧ (cG kd t').2 = (cG kd t).2 ++ e ∧ ∀ x ∈ e, x < 1000)
theorem wN_s {kd : Nat → Nat} {t : Nat} (h : kd t ≠ 2) : wN kd (t + 1) = wN kd t := by
  show wN kd t + (if wQ kd t = true then 1 else 0) = _
  have : wQ kd t = false := by
    unfold wQ zQ
    rw [decide_eq_false h, Bool.false_and, Bool.false_and]
  rw [this, if_neg (by decide)]
  rfl
theorem zK_s {z : ZT} {k s : Nat} (h : k ≠ 2) : zK (zA z k s) = zK z := by rw [zA_K, if_neg (fun y => h y.2)]
theorem gs_tie {kd : Nat → Nat} (hkd : ∀ i, kd i < 19) {N : Nat} (hE : zEnd kd N) : ∀ (f t : Nat) (c : List Nat), (∀ j, j < t → zok kd j) → zS (zz kd t) = 12 → (cG kd t).1.length < f → t ≤ 400 → gsR kd N t c (gsP (fun t => mkK (kd t)) f t (cG kd t).1 c)
  | 0, _, _, _, _, hf, _ => absurd hf (Nat.not_lt_zero _)
  | f + 1, t, c, ha, hs, hf, ht => by
    obtain ⟨q9, q10, q7, _⟩ := kk9 hkd t
    obtain ⟨i1, i2, i3, i4⟩ := cG_w hkd ha
    have hd4 := (zW_all hkd ha).2.1
    have h10 : 10 ≤ zS (zz kd t) := by omega
    have eG : gsP (fun t => mkK (kd t)) (f + 1) t (cG kd t).1 c = if mkK (kd t) = 9 ∨ mkK (kd t) = 10 then (if t = 400 then ((0, 2), t, (cG kd t).1, c) else ((2, 0), t + 1, mkK (kd t) :: (gsA (mkK (kd t)) (cG kd t).1).1, c ++ (gsA (mkK (kd t)) (cG kd t).1).2)) else if (gsA (mkK (kd t)) (cG kd t).1).1 = [] then ((1, 0), t, [], c ++ (gsA (mkK (kd t)) (cG kd t).1).2) else if mkK (kd t) = 7 then (if t = 400 then ((0, 2), t, (cG kd t).1, c) else gsP (fun t => mkK (kd t)) f (t + 1) (gsA (mkK (kd t)) (cG kd t).1).1.tail (c ++ (gsA (mkK (kd t)) (cG kd t).1).2)) else ((0, 1), t, (cG kd t).1, c) := rfl
    rw [eG]
    by_cases k56 : kd t = 15 ∨ kd t = 16
    · rw [if_pos (k56.imp q9.mpr q10.mpr)]
      have hb : zB (zS (zz kd t)) (zD (zz kd t)) (kd t) = some 10 := by rw [hs]; exact zB12_s k56
      have hO : zO (zz kd t) (kd t) = false := by rcases k56 with e | e <;> rw [e] <;> rfl
      by_cases c4 : t = 400
      · rw [if_pos c4]
        obtain ⟨a, b⟩ := stop_2 hkd hE ha hb (Or.inl (by omega))
        exact Or.inl ⟨2, t, _, rfl, a, b⟩
      · rw [if_neg c4]
        obtain ⟨a1, a2, a3, a4⟩ := zok_k hE hkd ha (by omega) hb hO
        have eS : zS (zz kd (t + 1)) = 10 := by rw [a4, zA_S]
        have k2 : kd t ≠ 2 := by omega
        have iC : inC kd t (t + 1) := fun q h1 h2 => by
          have e : q = t := by omega
          subst e
          exact ⟨h10, by omega⟩
        refine Or.inr (Or.inr ⟨t + 1, _, _, _, rfl, Nat.lt_succ_self t, by omega, a3, iC, eS, wN_s k2, by rw [a4]; exact zK_s k2, ?_, rfl, ?_, fun x hx => gsA_lt hx⟩)
        · rcases k56 with e | e
          · rw [cG_15 h10 e, e]; rfl
          · rw [cG_16 h10 e, e]
            show 10 :: (gsA 4 (cG kd t).1).1 = mkK 16 :: (gsA (mkK 16) (cG kd t).1).1
            rw [show mkK 16 = 10 from rfl, gsA_q (q := 10) (by decide)]
        · rcases k56 with e | e
          · rw [cG_15 h10 e, e]; rfl
          · rw [cG_16 h10 e, e]
            show (cG kd t).2 ++ (gsA 4 (cG kd t).1).2 = (cG kd t).2 ++ (gsA (mkK 16) (cG kd t).1).2
            rw [show mkK 16 = 10 from rfl, gsA_q (q := 10) (by decide)]
    · have n9 : mkK (kd t) ≠ 9 := fun e => k56 (Or.inl (q9.mp e))
      rw [if_neg (fun z => z.elim n9 (fun e => k56 (Or.inr (q10.mp e)))), gsA_q n9]
      obtain ⟨w1, w2, w3, w4⟩ := gsA_w (q := 4) i1
      have l4 := (gsA_l 4 (cG kd t).1).1
      cases hW : (gsA 4 (cG kd t).1).1 with
      | nil =>
        rw [if_pos rfl]
        rw [hW] at w2
        have e0 : opC [] = 0 := rfl
        exact Or.inr (Or.inl ⟨t, _, _, rfl, Nat.le_refl t, ht, ha, fun q h1 h2 => by omega, hs, by omega, by omega, by omega, rfl, rfl, hW, rfl, rfl, fun x hx => gsA_lt hx⟩)
      | cons k W =>
        rw [if_neg (fun z => by cases z)]
        rw [hW] at w2 w4 l4
        have k6 : k = 6 := by
          rcases w4 with z | z | z
          · cases z
          · injection z
          · exact absurd z.1 (by decide)
        subst k6
        have e1 : opC (6 :: W) = 1 + opC W := rfl
        by_cases k18 : kd t = 18
        · rw [if_pos (q7.mpr k18)]
          have hb : zB (zS (zz kd t)) (zD (zz kd t)) (kd t) = some 12 := by rw [hs, k18]; exact zB12_c (by omega)
          by_cases c4 : t = 400
          · rw [if_pos c4]
            obtain ⟨a, b⟩ := stop_2 hkd hE ha hb (Or.inl (by omega))
            exact Or.inl ⟨2, t, _, rfl, a, b⟩
          · rw [if_neg c4]
            obtain ⟨a1, a2, a3, a4⟩ := zok_k hE hkd ha (by omega) hb (by rw [k18]; rfl)
            have eS : zS (zz kd (t + 1)) = 12 := by rw [a4, zA_S]
            have k2 : kd t ≠ 2 := by omega
            have eC := cG_18 h10 k18
            rw [hW] at eC
            have eC1 : (cG kd (t + 1)).1 = W := by rw [eC]; rfl
            have eC2 : (cG kd (t + 1)).2 = (cG kd t).2 ++ (gsA 4 (cG kd t).1).2 := by rw [eC]
            have iC : inC kd t (t + 1) := fun q h1 h2 => by
              have e : q = t := by omega
              subst e
              exact ⟨h10, by omega⟩
            have l5 : (6 :: W).length = W.length + 1 := rfl
            have := gs_tie hkd hE f (t + 1) (c ++ (gsA 4 (cG kd t).1).2) a3 eS (by rw [eC1]; omega) (by omega)
            rw [eC1] at this
            show gsR kd N t c (gsP (fun t => mkK (kd t)) f (t + 1) W (c ++ (gsA 4 (cG kd t).1).2))
            have eK : zK (zz kd (t + 1)) = zK (zz kd t) := by rw [a4]; exact zK_s k2
            rcases this with x | ⟨t', c', e, x1, x2, x3, x4, x5, x6, x7, x8, x9, x10, x11, x12, x13, x14, x15⟩ | ⟨t', W', c', e, x1, x2, x3, x4, x5, x6, x7, x8, x9, x10, x11, x12⟩
            · exact Or.inl x
            · refine Or.inr (Or.inl ⟨t', c', (gsA 4 (cG kd t).1).2 ++ e, x1, by omega, x3, x4, iC.app x5, x6, x7, x8, x9, x10.trans (wN_s k2), x11.trans eK, x12, ?_, ?_, fun x hx => (List.mem_append.mp hx).elim gsA_lt (x15 x)⟩)
              · rw [x13, List.append_assoc]
              · rw [x14, eC2, List.append_assoc]
            · refine Or.inr (Or.inr ⟨t', W', c', (gsA 4 (cG kd t).1).2 ++ e, x1, by omega, x3, x4, iC.app x5, x6, x7.trans (wN_s k2), x8.trans eK, x9, ?_, ?_, fun x hx => (List.mem_append.mp hx).elim gsA_lt (x12 x)⟩)
              · rw [x10, List.append_assoc]
              · rw [x11, eC2, List.append_assoc]
        · rw [if_neg (fun z => k18 (q7.mp z))]
          obtain ⟨a, b⟩ := stop_1 hkd hE ha (by rw [hs]; exact zB12_n ⟨by omega, by omega, by omega, by omega⟩) (fun _ => by omega)
          exact Or.inl ⟨1, t, _, rfl, a, b⟩
/-- a unit's fault is the text's -/
theorem un_tie {kd : Nat → Nat} (hkd : ∀ i, kd i < 19) {N t j f : Nat} (hE : zEnd kd N) (ha : ∀ j, j < t → zok kd j) (hs : zS (zz kd t) = 10) (n17 : kd t ≠ 17) (h : unF kd t j f) : N = j ∧ zFt kd N = f := by
  have h14 : kd t = 14 → zB (zS (zz kd t)) (zD (zz kd t)) (kd t) = some 11 := fun e => by rw [hs, e]; rfl
  rcases h with ⟨a, b, rfl, rfl⟩ | ⟨a, b, rfl⟩
  · exact stop_2 hkd hE ha (h14 a) (Or.inl (by omega))
  · rcases a with ⟨a1, a2, rfl⟩ | ⟨a1, rfl⟩
    · obtain ⟨b1, b2, b3, b4⟩ := zok_k hE hkd ha a2 (h14 a1) (by rw [a1]; rfl)
      have eS : zS (zz kd (t + 1)) = 11 := by rw [b4, zA_S]
      exact stop_1 hkd hE b3 (by rw [eS]; exact zB11_n b) (fun _ => by omega)
    · exact stop_1 hkd hE ha (by rw [hs]; exact zB10_n ⟨b, a1, n17⟩) (fun _ => by omega)
/-- a unit's name, at token j -/
theorem un_at {kd : Nat → Nat} (hkd : ∀ i, kd i < 19) {N t j : Nat} {b : Bool} (hE : zEnd kd N) (ha : ∀ j, j < t → zok kd j) (hs : zS (zz kd t) = 10) (h : unA kd t j b) : (∀ i, i < j → zok kd i) ∧ t ≤ j ∧ (zS (zz kd j) = 10 ∨ zS (zz kd j) = 11) ∧ b = decide (zS (zz kd j) = 11) ∧ inC kd t j ∧ zD (zz kd j) = zD (zz kd t) ∧ cG kd j = cG kd t ∧ wN kd j = wN kd t ∧ zK (zz kd j) = zK (zz kd t) := by
  rcases h with ⟨rfl, a, b, rfl⟩ | ⟨rfl, a, rfl⟩
  · have hb : zB (zS (zz kd t)) (zD (zz kd t)) (kd t) = some 11 := by rw [hs, a]; rfl
    obtain ⟨b1, b2, b3, b4⟩ := zok_k hE hkd ha b hb (by rw [a]; rfl)
    have eS : zS (zz kd (t + 1)) = 11 := by rw [b4, zA_S]
    refine ⟨b3, Nat.le_succ t, Or.inr eS, (decide_eq_true eS).symm, fun q h1 h2 => ?_, ?_, cG_14 (by omega) a, wN_s (by omega), by rw [b4]; exact zK_s (by omega)⟩
    · have e : q = t := by omega
      subst e
      exact ⟨by omega, by omega⟩
    · rw [b4, zA_D (by omega), if_neg (by omega), if_neg (by omega)]
  · exact ⟨ha, Nat.le_refl _, Or.inl hs, (decide_eq_false (by omega)).symm, fun q h1 h2 => by omega, rfl, rfl, rfl, rfl⟩
/-- behind the name: no room is the text's fault; else it is read -/
theorem un_go {kd : Nat → Nat} (hkd : ∀ i, kd i < 19) {N j : Nat} (hE : zEnd kd N) (ha : ∀ i, i < j → zok kd i) (hs : zS (zz kd j) = 10 ∨ zS (zz kd j) = 11) (hk : kd j = 2) : (j = 400 ∨ (zC (zz kd j) = true ∧ 40 ≤ zK (zz kd j)) → N = j ∧ zFt kd N = 2) ∧ (j < 400 → (zC (zz kd j) = true → zK (zz kd j) < 40) → j < N ∧ (∀ i, i < j + 1 → zok kd i) ∧ zS (zz kd (j + 1)) = 12 ∧ zD (zz kd (j + 1)) = zD (zz kd j) ∧ inC kd j (j + 1) ∧ cG kd (j + 1) = ((cG kd j).1, (cG kd j).2 ++ [1000 + j]) ∧ zK (zz kd (j + 1)) = (if zC (zz kd j) = true then zK (zz kd j) + 1 else zK (zz kd j)) ∧ wN kd (j + 1) = wN kd j + (if zT (zz kd j) = 10 then 1 else 0)) := by
  have hb : zB (zS (zz kd j)) (zD (zz kd j)) (kd j) = some 12 := by
    rw [hk]
    rcases hs with e | e <;> rw [e] <;> rfl
  have eO : zO (zz kd j) (kd j) = (zC (zz kd j) && decide (40 ≤ zK (zz kd j))) := by rw [hk]; rfl
  refine ⟨fun h => ?_, fun h4 hK => ?_⟩
  · refine stop_2 hkd hE ha hb ?_
    rcases h with z | ⟨z1, z2⟩
    · exact Or.inl (by omega)
    · exact Or.inr (by rw [eO, z1, decide_eq_true z2]; rfl)
  · have hO : zO (zz kd j) (kd j) = false := by
      rw [eO]
      cases hc : zC (zz kd j) with
      | false => rfl
      | true => rw [decide_eq_false (by have := hK hc; omega)]; rfl
    obtain ⟨b1, b2, b3, b4⟩ := zok_k hE hkd ha h4 hb hO
    refine ⟨b1, b3, by rw [b4, zA_S], by rw [b4, zA_D (by omega), if_neg (by omega), if_neg (by omega)], fun q h1 h2 => ?_, cG_2 (by omega) hk, ?_, ?_⟩
    · have e : q = j := by omega
      subst e
      exact ⟨by omega, by omega⟩
    · rw [b4, zA_K]
      by_cases c : zC (zz kd j) = true
      · rw [if_pos ⟨c, hk⟩, if_pos c]
      · rw [if_neg (fun z => c z.1), if_neg c]
    · show wN kd j + (if wQ kd j = true then 1 else 0) = _
      have e : wQ kd j = decide (zT (zz kd j) = 10) := by
        unfold wQ zQ
        rw [decide_eq_true hk, Bool.true_and]
        rcases hs with e | e
        · rw [decide_eq_true e]; rfl
        · rw [decide_eq_true e, Bool.or_true]; rfl
      rw [e]
      by_cases c : zT (zz kd j) = 10
      · rw [if_pos (decide_eq_true c), if_pos c]
      · rw [if_neg (by rw [decide_eq_false c]; decide), if_neg c]
