/-! the model reads: the page ahead of a statement -/
/-- the fault of token i as to its name or number, found when it is read -/
def eXz (kd : Nat → Nat) (vl : Nat → Int64) (i : Nat) : Nat := if zS (zz kd i) = 5 then (if 9 < vl i then 5 else 0) else if kd i ≠ 2 then 0 else if zN (zS (zz kd i)) = true then (if (toL kd i).any (fun t => decide (vl t = vl i)) = true then 3 else 0) else if zS (zz kd i) = 8 then (if (zG kd vl (toL kd i) (vl i)).isNone = true then 4 else 0) else 0
theorem eX_le (kd : Nat → Nat) (vl : Nat → Int64) (i : Nat) : eXz kd vl i ≤ 5 := by
  unfold eXz
  repeat' split
  all_goals omega
theorem eX_0 {kd : Nat → Nat} {vl : Nat → Int64} {i : Nat} (h : zS (zz kd i) ≠ 5) (h2 : kd i ≠ 2 ∨ 10 ≤ zS (zz kd i)) : eXz kd vl i = 0 := by
  unfold eXz
  rw [if_neg h]
  rcases h2 with e | e
  · rw [if_pos e]
  · by_cases c : kd i ≠ 2
    · rw [if_pos c]
    · rw [if_neg c, if_neg (by
        unfold zN
        rw [decide_eq_false (p := zS (zz kd i) = 1) (by omega), decide_eq_false (p := zS (zz kd i) = 3) (by omega), decide_eq_false (p := zS (zz kd i) = 7) (by omega)]
        decide), if_neg (by omega)]
/-- the worst of the tokens below t -/
def WRs (kd : Nat → Nat) (vl : Nat → Int64) (pl : Nat → Nat) (t wo : Nat) (wp : Int32) : Prop := (wo = 0 ∧ ∀ i, i < t → eXz kd vl i = 0) ∨ (∃ i, i < t ∧ eXz kd vl i ≠ 0 ∧ wo = eXz kd vl i ∧ wp = nI (pl i) ∧ ∀ j, j < i → eXz kd vl j = 0)
section WR
variable {kd pl : Nat → Nat} {vl : Nat → Int64} {t wo : Nat} {wp : Int32}
theorem WRs.s0 (W : WRs kd vl pl t wo wp) (h : eXz kd vl t = 0) : WRs kd vl pl (t + 1) wo wp := by
  rcases W with ⟨a, b⟩ | ⟨i, a, b, c, e, f⟩
  · refine Or.inl ⟨a, fun i hi => ?_⟩
    by_cases e : i = t
    · rw [e]; exact h
    · exact b i (by omega)
  · exact Or.inr ⟨i, by omega, b, c, e, f⟩
theorem WRs.s1 {k : Nat} (W : WRs kd vl pl t wo wp) (h : eXz kd vl t = k) (hk : k ≠ 0) : WRs kd vl pl (t + 1) (wUp wo wp k (pl t)).1 (wUp wo wp k (pl t)).2 := by
  unfold wUp
  rcases W with ⟨a, b⟩ | ⟨i, a, b, c, e, f⟩
  · rw [if_pos a]
    exact Or.inr ⟨t, Nat.lt_succ_self t, by rw [h]; exact hk, h.symm, rfl, b⟩
  · rw [if_neg (by omega)]
    exact Or.inr ⟨i, by omega, b, c, e, f⟩
end WR
theorem WRs.c {u : Nat → Nat} {n t t1 wo : Nat} {wp : Int32} (hu : ∀ i, u i < 256) (W : WRs (kdN u n) (vaN u n) (plN u n) t wo wp) (h1 : t ≤ t1) (ha : ∀ j, j < t1 → zok (kdN u n) j) (hn : n ≤ 2000) : wo ≤ 5 ∧ (wo = 0 ∨ ∃ q, wp = nI q ∧ q ≤ 2000 ∧ q < plN u n t1) := by
  rcases W with ⟨a, b⟩ | ⟨i, a, b, c, e, f⟩
  · exact ⟨by omega, Or.inl a⟩
  · have := eX_le (kdN u n) (vaN u n) i
    refine ⟨by omega, Or.inr ⟨plN u n i, e, Nat.le_trans (plN_le u n i) hn, plN_m (by omega) (fun k k1 k2 => ?_)⟩⟩
    exact zok_0 (zW_all (kdN_lt hu n) (fun j hj => ha j (by omega))).1 (ha k k2)
/-- the number of a circuit -/
def cN (z : ZT) : Nat := if zT z = 6 then zR z - 1 else if zT z = 10 then 11 + (zV z - 1) else 6 + (zL z - 1)
theorem cLn_eq {kd : Nat → Nat} : ∀ (m f a : Nat), m < f → (∀ q, a ≤ q → q < a + m → kd q ≠ 12) → kd (a + m) = 12 → cLn kd f a = m
  | _, 0, _, h, _, _ => absurd h (Nat.not_lt_zero _)
  | 0, f + 1, a, _, _, h => if_pos h
  | m + 1, f + 1, a, hm, hq, h => by
    have e : cLn kd (f + 1) a = cLn kd f (a + 1) + 1 := if_neg (hq a (Nat.le_refl a) (by omega))
    rw [e, cLn_eq m f (a + 1) (by omega) (fun q h1 h2 => hq q (by omega) (by omega)) (by rw [show a + 1 + m = a + (m + 1) by omega]; exact h)]
theorem cLc_eq {kd : Nat → Nat} {N a j : Nat} (haj : a ≤ j) (hj : j < N) (hi : inC kd a j) (h12 : kd j = 12) : cLc kd N a = j - a := by
  unfold cLc
  exact cLn_eq (j - a) (N - a) a (by omega) (fun q h1 h2 => (hi q h1 (by omega)).2) (by rw [show a + (j - a) = j by omega]; exact h12)
/-- the circuits told ahead of token t: where their codes and signs lie -/
def CTb (h : AH) (o d : Nat) (kd : Nat → Nat) (vl : Nat → Int64) (N t : Nat) : Prop := ∃ (g23 g24 g25 g26 : Nat → Int32) (g28 : Nat → Int64), h (o + 1 + 23) = some (.inl (0, 85, .inl g23)) ∧ h (o + 1 + 24) = some (.inl (0, 85, .inl g24)) ∧ h (o + 1 + 25) = some (.inl (0, 85, .inl g25)) ∧ h (o + 1 + 26) = some (.inl (0, 85, .inl g26)) ∧ h (o + 1 + 28) = some (.inl (1, 2100, .inr (.inl g28))) ∧ (∀ a, a < t → kd a = 13 ∨ kd a = 11 → g23 (17 * d + cN (zz kd (a + 1))) = nI (420 * d + (cG kd (a + 1)).2.length) ∧ g24 (17 * d + cN (zz kd (a + 1))) = nI (420 * d + (cG kd (a + 1 + cLc kd N (a + 1) + 1)).2.length) ∧ g25 (17 * d + cN (zz kd (a + 1))) = nI (420 * d + gCn kd (a + 1)) ∧ g26 (17 * d + cN (zz kd (a + 1))) = nI (420 * d + gCn kd (a + 1 + cLc kd N (a + 1)))) ∧ ∀ i, i < t → 10 ≤ zS (zz kd i) → kd i ≠ 12 → g28 (420 * d + gCn kd i) = sgT kd vl i
theorem CTb.ag {h h' : AH} {o d N t : Nat} {kd : Nat → Nat} {vl : Nat → Int64} (H : CTb h o d kd vl N t) (hs : ∀ j, 23 ≤ j → j < 29 → j ≠ 27 → h' (o + 1 + j) = h (o + 1 + j)) : CTb h' o d kd vl N t := by
  obtain ⟨a, b, c, e, f, a1, b1, c1, e1, f1, r⟩ := H
  exact ⟨a, b, c, e, f, (hs 23 (by omega) (by omega) (by omega)).trans a1, (hs 24 (by omega) (by omega) (by omega)).trans b1, (hs 25 (by omega) (by omega) (by omega)).trans c1, (hs 26 (by omega) (by omega) (by omega)).trans e1, (hs 28 (by omega) (by omega) (by omega)).trans f1, r⟩
/-- a statement without a circuit -/
theorem CTb.stay {h : AH} {o d N t t2 : Nat} {kd : Nat → Nat} {vl : Nat → Int64} (H : CTb h o d kd vl N t) (hk : ∀ i, t ≤ i → i < t2 → kd i ≠ 13 ∧ kd i ≠ 11 ∧ zS (zz kd i) < 10) : CTb h o d kd vl N t2 := by
  obtain ⟨g23, g24, g25, g26, g28, a1, b1, c1, e1, f1, r1, r2⟩ := H
  refine ⟨g23, g24, g25, g26, g28, a1, b1, c1, e1, f1, fun a ha hk2 => ?_, fun i hi h10 h12 => ?_⟩
  · rcases Nat.lt_or_ge a t with z | z
    · exact r1 a z hk2
    · have := hk a z ha
      omega
  · rcases Nat.lt_or_ge i t with z | z
    · exact r2 i z h10 h12
    · have := hk i z hi
      omega
/-- circuits differ in their numbers -/
theorem cN_un {kd : Nat → Nat} {N a b : Nat} (h : TXT kd N) (ha : a < N) (hb : b < N) (ka : kd a = 13 ∨ kd a = 11) (kb : kd b = 13 ∨ kd b = 11) (e : cN (zz kd (a + 1)) = cN (zz kd (b + 1))) : a = b := by
  have o13 : ∀ {i : Nat}, i < N → kd i = 13 → cN (zz kd (i + 1)) = ownZ (zz kd i) ∧ cN (zz kd (i + 1)) < 11 := fun {i} hi hk => by
    obtain ⟨_, _, q3, q4, q5, _, _, _, q9⟩ := h.q13 hi hk
    unfold cN ownZ
    rw [q3, q4, q5]
    rcases q9 with ⟨x, x1, x2⟩ | ⟨x, _, x1, x2⟩
    · rw [if_pos x, if_pos x]
      exact ⟨rfl, by omega⟩
    · rw [if_neg (by omega), if_neg (by omega), if_neg (by omega)]
      exact ⟨rfl, by omega⟩
  have o11 : ∀ {i : Nat}, i < N → kd i = 11 → zS (zz kd i) = 9 ∧ cN (zz kd (i + 1)) = 11 + (zV (zz kd i) - 1) ∧ 1 ≤ zV (zz kd i) := fun {i} hi hk => by
    obtain ⟨s, h1, h2, _⟩ := h.st hi
    have s9 := (zac h2 h1).2.2.2.2.2.2.2.2.2.2.2 hk
    obtain ⟨_, _, v1, v2, _, t2, _⟩ := h.s9 hi s9
    refine ⟨s9, ?_, v2⟩
    unfold cN
    rw [t2, if_neg (by decide), if_pos rfl, v1]
  rcases ka with k1 | k1 <;> rcases kb with k2 | k2
  · obtain ⟨x1, _⟩ := o13 ha k1
    obtain ⟨y1, _⟩ := o13 hb k2
    exact h.un13 ha hb k1 k2 (by rw [← x1, ← y1]; exact e)
  · have := (o13 ha k1).2
    have := (o11 hb k2).2.1
    omega
  · have := (o13 hb k2).2
    have := (o11 ha k1).2.1
    omega
  · obtain ⟨x1, x2, x3⟩ := o11 ha k1
    obtain ⟨y1, y2, y3⟩ := o11 hb k2
    have e2 : zV (zz kd a) = zV (zz kd b) := by omega
    have z1 := tkV_c h ha x1 (k := zV (zz kd a) - 1) (by omega)
    have z2 := tkV_c h hb y1 (k := zV (zz kd a) - 1) (by omega)
    omega
/-- a circuit was read, a ; stands behind it -/
theorem CTb.circ {h h1 : AH} {o d N t a1 j : Nat} {kd : Nat → Nat} {vl : Nat → Int64} {g23 g24 g25 g26 : Nat → Int32} {gs gs1 : Nat → Int64} (H : CTb h o d kd vl N t) (ht : TXT kd (j + 1)) (hj : j < N) (hta : t ≤ a1) (hk : kd a1 = 13 ∨ kd a1 = 11) (hmid : ∀ i, t ≤ i → i < a1 → kd i ≠ 13 ∧ kd i ≠ 11 ∧ zS (zz kd i) < 10) (hs1 : zS (zz kd a1) < 10) (haj : a1 + 1 ≤ j) (hi : inC kd (a1 + 1) j) (h12 : kd j = 12) (h10 : 10 ≤ zS (zz kd j)) (e23 : h (o + 1 + 23) = some (.inl (0, 85, .inl g23))) (e24 : h (o + 1 + 24) = some (.inl (0, 85, .inl g24))) (e25 : h (o + 1 + 25) = some (.inl (0, 85, .inl g25))) (e26 : h (o + 1 + 26) = some (.inl (0, 85, .inl g26))) (e28 : h (o + 1 + 28) = some (.inl (1, 2100, .inr (.inl gs)))) (h23 : h1 (o + 1 + 23) = some (.inl (0, 85, .inl (upd g23 (17 * d + cN (zz kd (a1 + 1))) (nI (420 * d + (cG kd (a1 + 1)).2.length)))))) (h24 : h1 (o + 1 + 24) = some (.inl (0, 85, .inl (upd g24 (17 * d + cN (zz kd (a1 + 1))) (nI (420 * d + ((cG kd j).2 ++ (gsA 4 (cG kd j).1).2).length)))))) (h25 : h1 (o + 1 + 25) = some (.inl (0, 85, .inl (upd g25 (17 * d + cN (zz kd (a1 + 1))) (nI (420 * d + gCn kd (a1 + 1))))))) (h26 : h1 (o + 1 + 26) = some (.inl (0, 85, .inl (upd g26 (17 * d + cN (zz kd (a1 + 1))) (nI (420 * d + gCn kd j)))))) (h28 : h1 (o + 1 + 28) = some (.inl (1, 2100, .inr (.inl gs1)))) (lo : ∀ x, x < 420 * d + gCn kd (a1 + 1) → gs1 x = gs x) (hi2 : ∀ i, a1 + 1 ≤ i → i < j → gs1 (420 * d + gCn kd i) = sgT kd vl i) : CTb h1 o d kd vl N (j + 1) := by
  obtain ⟨q23, q24, q25, q26, q28, a2, b2, c2, e2, f2, r1, r2⟩ := H
  rw [e23] at a2
  rw [e24] at b2
  rw [e25] at c2
  rw [e26] at e2
  rw [e28] at f2
  cases a2
  cases b2
  cases c2
  cases e2
  cases f2
  have eL : a1 + 1 + cLc kd N (a1 + 1) = j := by
    rw [cLc_eq haj hj hi h12]
    omega
  refine ⟨_, _, _, _, _, h23, h24, h25, h26, h28, fun a ha hka => ?_, fun i hi3 h103 h123 => ?_⟩
  · by_cases e : a = a1
    · subst e
      rw [eL, pk_us, pk_us, pk_us, pk_us, cG_12 h10 h12]
      exact ⟨rfl, rfl, rfl, rfl⟩
    · have hat : a < t := by
        rcases Nat.lt_or_ge a t with z | z
        · exact z
        · rcases Nat.lt_or_ge a a1 with y | y
          · have := hmid a z y
            omega
          · by_cases c : a = j
            · rw [c] at hka; omega
            · have x := hi a (by omega) (by omega)
              obtain ⟨s, y1, y2, _⟩ := ht.st (show a < j + 1 by omega)
              have := zfr y2 x.1 y1
              omega
      have hne : cN (zz kd (a + 1)) ≠ cN (zz kd (a1 + 1)) := fun z => e (cN_un ht (by omega) (by omega) hka hk z)
      rw [pk_un (by omega), pk_un (by omega), pk_un (by omega), pk_un (by omega)]
      exact r1 a hat hka
  · rcases Nat.lt_or_ge i t with z | z
    · have h1 : gCn kd (i + 1) ≤ gCn kd (a1 + 1) := gCn_m (by omega)
      rw [gCn_s h103 h123] at h1
      rw [lo _ (by omega)]
      exact r2 i z h103 h123
    · rcases Nat.lt_or_ge i (a1 + 1) with y | y
      · by_cases e : i = a1
        · rw [e] at h103; omega
        · have := hmid i z (by omega)
          omega
      · exact hi2 i y (by
          by_cases e : i = j
          · rw [e] at h123; omega
          · omega)
