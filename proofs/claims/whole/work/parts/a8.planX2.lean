/-! x's planner: plans found; plan and stage -/
def PLok (D E : DD) (mst cnt : Int32) (g1 g2 g3 : Nat → Int32) : Prop := sameB D E = true ∧ rkU (unlk D E) 11 ≤ 7 ∧ cnt = nI (2 ^ rkU (unlk D E) 11) ∧ (∀ s, s < 2 ^ rkU (unlk D E) 11 → g1 s = nI (dep (unlk D E) s) ∧ g2 s = nI (kSafe (kMix D E (dep (unlk D E) s))).toNat) ∧ (mst = 0 ∨ ∃ k, 1 ≤ k ∧ k ≤ 7 ∧ mst = nI k ∧ ∀ s, s < 2 ^ rkU (unlk D E) 11 → g3 s = eX (LVo (unlk D E) k (fun v => kSafe (kMix D E v)) (dep (unlk D E) s)))
/-- x's planner as calls leave it -/
def XPl (h : AH) (w c : Nat) (da : Nat → Nat) (dd : Nat → DD) : Prop := ∃ (r1 r2 : Option Nat) (mst cnt : Int32) (g1 g2 g3 : Nat → Int32), h (w + 60) = some (.inr (5, PF w (va_rf r1) (va_rf r2) mst cnt)) ∧ h (w + 61) = some (.inl (0, 128, .inl g1)) ∧ h (w + 62) = some (.inl (0, 128, .inl g2)) ∧ h (w + 63) = some (.inl (0, 128, .inl g3)) ∧ ((r1 = none ∧ r2 = none) ∨ ∃ i j, i < c ∧ j < c ∧ r1 = some (da i) ∧ r2 = some (da j) ∧ PLok (dd i) (dd j) mst cnt g1 g2 g3)
theorem XPl.ag {h h' : AH} {w c : Nat} {da : Nat → Nat} {dd : Nat → DD} (hP : XPl h w c da dd) (hs : ∀ x, w + 60 ≤ x → x < w + 64 → h' x = h x) : XPl h' w c da dd := by
  obtain ⟨r1, r2, mst, cnt, g1, g2, g3, e0, e1, e2, e3, p⟩ := hP
  exact ⟨r1, r2, mst, cnt, g1, g2, g3, (hs _ (by omega) (by omega)).trans e0, (hs _ (by omega) (by omega)).trans e1, (hs _ (by omega) (by omega)).trans e2, (hs _ (by omega) (by omega)).trans e3, p⟩
/-- what stands when the plan from drawing i to j with k is found -/
def PLat (h : AH) (w : Nat) (da : Nat → Nat) (dd : Nat → DD) (i j k : Nat) : Prop := ∃ g1 g2 g3 : Nat → Int32, h (w + 60) = some (.inr (5, PF w (.ref (da i)) (.ref (da j)) (nI k) (nI (2 ^ rkU (unlk (dd i) (dd j)) 11)))) ∧ h (w + 61) = some (.inl (0, 128, .inl g1)) ∧ h (w + 62) = some (.inl (0, 128, .inl g2)) ∧ h (w + 63) = some (.inl (0, 128, .inl g3)) ∧ sameB (dd i) (dd j) = true ∧ rkU (unlk (dd i) (dd j)) 11 ≤ 7 ∧ (∀ s, s < 2 ^ rkU (unlk (dd i) (dd j)) 11 → g1 s = nI (dep (unlk (dd i) (dd j)) s) ∧ g2 s = nI (kSafe (kMix (dd i) (dd j) (dep (unlk (dd i) (dd j)) s))).toNat) ∧ ∀ s, s < 2 ^ rkU (unlk (dd i) (dd j)) 11 → g3 s = eX (LVo (unlk (dd i) (dd j)) k (fun v => kSafe (kMix (dd i) (dd j) v)) (dep (unlk (dd i) (dd j)) s))
theorem PLat.pl {h : AH} {w c i j k : Nat} {da : Nat → Nat} {dd : Nat → DD} (hL : PLat h w da dd i j k) (hi : i < c) (hj : j < c) (h1 : 1 ≤ k) (h7 : k ≤ 7) : XPl h w c da dd := by
  obtain ⟨g1, g2, g3, e0, e1, e2, e3, p1, p2, p3, p4⟩ := hL
  exact ⟨some (da i), some (da j), _, _, g1, g2, g3, e0, e1, e2, e3, Or.inr ⟨i, j, hi, hj, rfl, rfl, p1, p2, rfl, p3, Or.inr ⟨k, h1, h7, rfl, p4⟩⟩⟩
theorem da_inj {h : AH} {o w tl c i j : Nat} {fp ah : Int32} {da : Nat → Nat} {dd : Nat → DD} (hA : XA h o w tl fp c ah da dd) (hi : i < c) (hj : j < c) (e : da i = da j) : i = j := by
  have h7 := hA.2.2.2.2.2.1
  rcases Nat.lt_trichotomy i j with z | z | z
  · have := h7 i j z hj; omega
  · exact z
  · have := h7 j i z hi; omega
set_option maxHeartbeats 8000000 in
theorem x_findPlan {l : Launch} {G : GG} {h : AH} {nx : Nat} {Post : Option Value → AH → Nat → Prop} {o w tl c i j k vb : Nat} {fp ah : Int32} {da : Nat → Nat} {dd : Nat → DD} (hX : XC G ∧ TX l G) (hA : XA h o w tl fp c ah da dd) (hH : XH h w c da dd vb) (hL : XPl h w c da dd) (hi : i < c) (hj : j < c) (hsm : sameB (dd i) (dd j) = true) (hn : rkU (unlk (dd i) (dd j)) 11 ≤ 7) (hk1 : 1 ≤ k) (hk7 : k ≤ 7) (hv : vb + 128 < 2 ^ 31) (hP : ∀ h1 : AH, (∀ x, x < w + 43 ∨ (w + 52 ≤ x ∧ x < w + 60) ∨ w + 64 ≤ x → h1 x = h x) → XH h1 w c da dd (vb + 128) → PLat h1 w da dd i j k → Post none h1 nx) : Runs l G i_X5_findPlan 0 0 [.ref (w + 60), .ref (da i), .ref (da j), .int (nI (unlk (dd i) (dd j))), .int (nI k)] h nx Post := by
  have hu := unlk_lt (dd i) (dd j)
  have h7 := rk7 hn (Nat.le_refl 11)
  have hdi : isDr w c da dd (da i) (dd i) := Or.inr ⟨i, hi, rfl, rfl⟩
  have hdj : isDr w c da dd (da j) (dd j) := Or.inr ⟨j, hj, rfl, rfl⟩
  obtain ⟨_, hw, hlo⟩ := hdi.xd hA
  obtain ⟨_, hv2, hlo2⟩ := hdj.xd hA
  have hsp := (sameB_c hw hv2).mp hsm
  have hq : ∀ s, WK (kMix (dd i) (dd j) (dep (unlk (dd i) (dd j)) s)) := fun s => WK_sub hw hv2 hsp (fun b hb => dep_sub hb)
  have hdl : ∀ s, dep (unlk (dd i) (dd j)) s < 2048 := fun s => dep_lt _ s
  generalize hue : unlk (dd i) (dd j) = u at *
  have tail : ∀ (h1 : AH) (mst : Int32) (g1 g2 g3 : Nat → Int32), (∀ x, x < w + 43 ∨ (w + 52 ≤ x ∧ x < w + 60) ∨ w + 64 ≤ x → h1 x = h x) → XH h1 w c da dd (vb + 128) → h1 (w + 60) = some (.inr (5, PF w (.ref (da i)) (.ref (da j)) mst (nI (2 ^ rkU u 11)))) → h1 (w + 61) = some (.inl (0, 128, .inl g1)) → h1 (w + 62) = some (.inl (0, 128, .inl g2)) → h1 (w + 63) = some (.inl (0, 128, .inl g3)) → (∀ s, s < 2 ^ rkU u 11 → g1 s = nI (dep u s) ∧ g2 s = nI (kSafe (kMix (dd i) (dd j) (dep u s))).toNat) → (mst = nI k → ∀ s, s < 2 ^ rkU u 11 → g3 s = eX (LVo u k (fun v => kSafe (kMix (dd i) (dd j) v)) (dep u s))) → Go l G 5 s_X5_findPlan 0 0 Post 111 [(0, .ref (w + 60)), (1, .ref (da i)), (2, .ref (da j)), (3, .int (nI u)), (4, .int (nI k))] [] h1 nx 0 0 := by
    intro h1 mst g1 g2 g3 k1 k2 e0 e1 e2 e3 p1 p2
    have loop : ∀ (m : Nat) (h2 : AH) (g : Nat → Int32), m ≤ 2 ^ rkU u 11 → (∀ x, x ≠ w + 60 → x ≠ w + 63 → h2 x = h1 x) → h2 (w + 60) = some (.inr (5, PF w (.ref (da i)) (.ref (da j)) (nI k) (nI (2 ^ rkU u 11)))) → h2 (w + 63) = some (.inl (0, 128, .inl g)) → (∀ t, m ≤ t → t < 2 ^ rkU u 11 → g t = eX (LVo u k (fun v => kSafe (kMix (dd i) (dd j) v)) (dep u t))) → Go l G 5 s_X5_findPlan 0 0 Post 140 [(5, .int (nI m - 1)), (0, .ref (w + 60)), (1, .ref (da i)), (2, .ref (da j)), (3, .int (nI u)), (4, .int (nI k))] [] h2 nx 0 0 := by
      intro m
      induction m with
      | zero =>
        intro h2 g hm fr q0 q3 hg
        refine Go.of hX.2 ck_X5_findPlan [] 20 ?_
        refine And.intro (fun _ => ?_) (fun cz => absurd (show (nI 0 - 1 : Int32) < 0 from by decide) cz)
        refine hP h2 (fun x hx => (fr x (by omega) (by omega)).trans (k1 x hx)) (k2.ag (fun x a b => fr x (by omega) (by omega))) ⟨g1, g2, g, ?_, (fr _ (by omega) (by omega)).trans e1, (fr _ (by omega) (by omega)).trans e2, q3, hsm, ?_, ?_, ?_⟩
        · rw [hue]; exact q0
        · rw [hue]; exact hn
        · rw [hue]; exact p1
        · rw [hue]; exact fun s hs => hg s (Nat.zero_le s) hs
      | succ m ih =>
        intro h2 g hm fr q0 q3 hg
        rw [nI_pred]
        refine Go.of hX.2 ck_X5_findPlan [140] 60 ?_
        refine And.intro (fun cz => absurd cz (nI_pos (show m < 2 ^ 31 by omega))) (fun _ => ?_)
        refine Exists.intro _ (And.intro q0 (Exists.intro _ (And.intro rfl ?_)))
        refine Exists.intro _ (And.intro q0 (Exists.intro 0 (Exists.intro 0 (And.intro (Nat.le_refl _) (And.intro (Nat.le_refl _) (x_stagesFrom (g2 := g2) (g3 := g) (sf := fun v => kSafe (kMix (dd i) (dd j) v)) hX q0 ((fr _ (by omega) (by omega)).trans e2) q3 hu hn (by omega) (by omega) (p1 m (by omega)).2 (fun t a b => hg t a b) ?_))))))
        refine Exists.intro _ (Exists.intro _ (And.intro q3 (And.intro (vp_in_nI (show m < 128 by omega) (by decide)) ?_)))
        rw [nI_clamp (show m < 2 ^ 31 by omega)]
        refine go_loc (lv' := [(5, .int (nI m + (-1))), (0, .ref (w + 60)), (1, .ref (da i)), (2, .ref (da j)), (3, .int (nI u)), (4, .int (nI k))]) ⟨rfl, rfl, rfl, rfl, rfl, rfl, trivial⟩ ?_
        rw [show nI m + (-1) = nI m - 1 from (Int32.sub_eq_add_neg _ _).symm]
        refine ih _ _ (by omega) (fun x a b => (uph_ne b).trans (fr x a b)) ((uph_ne (by omega)).trans q0) uph_eq (fun t a b => ?_)
        by_cases c1 : t = m
        · rw [c1]; exact pk_us
        · rw [pk_un c1]; exact hg t (by omega) b
    refine Go.of hX.2 ck_X5_findPlan [140] 40 ?_
    refine Exists.intro _ (And.intro e0 (Exists.intro _ (And.intro rfl ?_)))
    by_cases c1 : mst = nI k
    · refine And.intro (fun _ => ?_) (fun cz => absurd (c1.symm) cz)
      refine hP h1 k1 k2 ⟨g1, g2, g3, ?_, e1, e2, e3, hsm, ?_, ?_, ?_⟩
      · rw [hue, ← c1]; exact e0
      · rw [hue]; exact hn
      · rw [hue]; exact p1
      · rw [hue]; exact p2 c1
    · refine And.intro (fun cz => absurd cz (fun z => c1 z.symm)) (fun _ => ?_)
      refine Exists.intro _ (And.intro e0 (And.intro (Nat.le_of_ble_eq_true rfl) (And.intro rfl (And.intro rfl ?_))))
      refine Exists.intro _ (And.intro uph_eq (Exists.intro _ (And.intro rfl ?_)))
      refine And.intro rfl ?_
      refine go_loc (lv' := [(5, .int ((if (128 : Int32) < nI (2 ^ rkU u 11) then 128 else nI (2 ^ rkU u 11)) - 1)), (0, .ref (w + 60)), (1, .ref (da i)), (2, .ref (da j)), (3, .int (nI u)), (4, .int (nI k))]) ⟨rfl, rfl, rfl, rfl, rfl, rfl, trivial⟩ ?_
      rw [if_neg (show ¬ (128 : Int32) < nI (2 ^ rkU u 11) from nI_nlt (a := 128) (by omega) (by decide))]
      exact loop _ _ g3 (Nat.le_refl _) (fun x a b => uph_ne a) uph_eq ((uph_ne (by omega)).trans e3) (fun t a b => by omega)
  have fill : ∀ (m s : Nat) (h1 : AH) (g1 g2 g3 : Nat → Int32), s + m = 2 ^ rkU u 11 → (∀ x, x < w + 43 ∨ (w + 52 ≤ x ∧ x < w + 60) ∨ w + 64 ≤ x → h1 x = h x) → XH h1 w c da dd (vb + s) → h1 (w + 60) = some (.inr (5, PF w (.ref (da i)) (.ref (da j)) 0 (nI (2 ^ rkU u 11)))) → h1 (w + 61) = some (.inl (0, 128, .inl g1)) → h1 (w + 62) = some (.inl (0, 128, .inl g2)) → h1 (w + 63) = some (.inl (0, 128, .inl g3)) → (∀ t, t < 2 ^ rkU u 11 → g1 t = nI (dep u t)) → (∀ t, t < s → g2 t = nI (kSafe (kMix (dd i) (dd j) (dep u t))).toNat) → Go l G 5 s_X5_findPlan 0 0 Post 39 [(5, .int (nI s)), (0, .ref (w + 60)), (1, .ref (da i)), (2, .ref (da j)), (3, .int (nI u)), (4, .int (nI k))] [] h1 nx 0 0 := by
    intro m
    induction m with
    | zero =>
      intro s h1 g1 g2 g3 hs k1 k2 e0 e1 e2 e3 p1 p2
      refine Go.of hX.2 ck_X5_findPlan [111] 20 ?_
      refine Exists.intro _ (And.intro e0 (Exists.intro _ (And.intro rfl ?_)))
      refine And.intro (fun _ => ?_) (fun cz => absurd (nI_le (a := 2 ^ rkU u 11) (b := s) (by omega) (by omega)) cz)
      exact go_loc (lv' := [(0, .ref (w + 60)), (1, .ref (da i)), (2, .ref (da j)), (3, .int (nI u)), (4, .int (nI k))]) ⟨rfl, rfl, rfl, rfl, rfl, trivial⟩ (tail h1 0 g1 g2 g3 k1 (k2.le (by omega)) e0 e1 e2 e3 (fun t ht => ⟨p1 t ht, p2 t (by omega)⟩) (fun z => absurd z (show (0 : Int32) ≠ nI k from fun y => by have := (nI_eq (a := 0) (b := k) (by omega) (by omega)).mp y; omega)))
    | succ m ih =>
      intro s h1 g1 g2 g3 hs k1 k2 e0 e1 e2 e3 p1 p2
      have hA1 : XA h1 o w tl fp c ah da dd := hA.mid (fun x hx => k1 x (by omega))
      obtain ⟨_, _, _, _, ⟨_, _, _, _, _, u0, _⟩, _⟩ := id k2
      refine Go.of hX.2 ck_X5_findPlan [39] 60 ?_
      refine Exists.intro _ (And.intro e0 (Exists.intro _ (And.intro rfl ?_)))
      refine And.intro (fun cz => absurd cz (nI_ge (a := s) (b := 2 ^ rkU u 11) (by omega) (by omega))) (fun _ => ?_)
      refine And.intro (fun cz => absurd cz (nI_ge (a := s) (b := 128) (by omega) (by decide))) (fun _ => ?_)
      refine Exists.intro _ (And.intro e0 (Exists.intro _ (And.intro rfl ?_)))
      refine Exists.intro _ (And.intro e0 (Exists.intro _ (And.intro rfl ?_)))
      refine Exists.intro _ (Exists.intro _ (And.intro e1 (And.intro (vp_in_nI (show s < 128 by omega) (by decide)) ?_)))
      rw [nI_clamp (show s < 2 ^ 31 by omega), p1 s (by omega)]
      refine Exists.intro _ (And.intro u0 (Exists.intro 0 (Exists.intro 0 (And.intro (Nat.le_refl _) (And.intro (Nat.le_refl _) (x_prepMix hX hA1 k2 hi hj (hq s) (by omega) (fun h2 ver y1 y2 y3 y4 => ?_)))))))
      have hA2 : XA h2 o w tl fp c ah da dd := hA1.mid (fun x hx => y1 x (by omega))
      obtain ⟨hD1, _, _⟩ := hdi.xd hA2
      obtain ⟨hE1, _, _⟩ := hdj.xd hA2
      have q0 := (y1 (w + 60) (by omega)).trans e0
      refine Exists.intro _ (And.intro q0 (Exists.intro _ (And.intro rfl ?_)))
      obtain ⟨_, _, _, _, _, ⟨_, _, _, s0, _⟩, _⟩ := id y3
      refine Exists.intro _ (And.intro s0 (Exists.intro 0 (Exists.intro 0 (And.intro (Nat.le_refl _) (And.intro (Nat.le_refl _) (x_explore (A := 1) (B := 1) hX y2 (hq s) hD1 hE1 (by unfold awy; omega) (by unfold awy; omega) y3 rfl (by omega) (by omega) (fun h3 S wa cm go z1 z2 z3 z4 z5 => ?_)))))))
      have q0 := (z1 (w + 60) (by omega)).trans q0
      refine Exists.intro _ (And.intro q0 (Exists.intro _ (And.intro rfl ?_)))
      refine Exists.intro _ (And.intro q0 (Exists.intro _ (And.intro rfl ?_)))
      obtain ⟨_, _, _, t0, _⟩ := id z3
      refine Exists.intro _ (And.intro t0 (Exists.intro 0 (Exists.intro 0 (And.intro (Nat.le_refl _) (And.intro (Nat.le_refl _) (x_safeNow hX (hq s) z3 z4 z5 ?_))))))
      have q1 := (z1 (w + 61) (by omega)).trans ((y1 (w + 61) (by omega)).trans e1)
      have q2 := (z1 (w + 62) (by omega)).trans ((y1 (w + 62) (by omega)).trans e2)
      have q3 := (z1 (w + 63) (by omega)).trans ((y1 (w + 63) (by omega)).trans e3)
      have nxt : Go l G 5 s_X5_findPlan 0 0 Post 39 [(5, .int (nI s + 1)), (0, .ref (w + 60)), (1, .ref (da i)), (2, .ref (da j)), (3, .int (nI u)), (4, .int (nI k))] [] (uph h3 (w + 62) (.inl (0, 128, .inl (upd g2 s (nI (kSafe (kMix (dd i) (dd j) (dep u s))).toNat))))) nx 0 0 := by
        have := ih (s + 1) (uph h3 (w + 62) (.inl (0, 128, .inl (upd g2 s (nI (kSafe (kMix (dd i) (dd j) (dep u s))).toNat))))) g1 _ g3 (by omega) (fun x hx => (uph_ne (by omega)).trans ((z1 x (by omega)).trans ((y1 x (by omega)).trans (k1 x hx)))) (XH.ag (h := h3) ⟨_, _, _, _, z2, hq s, hdi, hdj, z3.sx z4, by omega⟩ (fun x a b => uph_ne (by omega))) ((uph_ne (by omega)).trans q0) ((uph_ne (by omega)).trans q1) uph_eq ((uph_ne (by omega)).trans q3) p1 (fun t ht => by
          by_cases e : t = s
          · rw [e]; exact pk_us
          · rw [pk_un e]; exact p2 t (by omega))
        rw [nI_succ] at this
        exact this
      cases ck : kSafe (kMix (dd i) (dd j) (dep u s)) with
      | false =>
        rw [ck] at nxt
        refine And.intro (fun _ => ?_) (fun cz => by first | exact absurd cz (by decide) | exact absurd (by decide) cz)
        refine Exists.intro _ (Exists.intro _ (And.intro q2 (And.intro (vp_in_nI (show s < 128 by omega) (by decide)) ?_)))
        rw [nI_clamp (show s < 2 ^ 31 by omega)]
        exact go_loc (lv' := [(5, .int (nI s + 1)), (0, .ref (w + 60)), (1, .ref (da i)), (2, .ref (da j)), (3, .int (nI u)), (4, .int (nI k))]) ⟨rfl, rfl, rfl, rfl, rfl, rfl, trivial⟩ (nxt)
      | true =>
        rw [ck] at nxt
        refine And.intro (fun cz => by first | exact absurd cz (by decide) | exact absurd (by decide) cz) (fun _ => ?_)
        refine Exists.intro _ (Exists.intro _ (And.intro q2 (And.intro (vp_in_nI (show s < 128 by omega) (by decide)) ?_)))
        rw [nI_clamp (show s < 2 ^ 31 by omega)]
        exact go_loc (lv' := [(5, .int (nI s + 1)), (0, .ref (w + 60)), (1, .ref (da i)), (2, .ref (da j)), (3, .int (nI u)), (4, .int (nI k))]) ⟨rfl, rfl, rfl, rfl, rfl, rfl, trivial⟩ (nxt)
  obtain ⟨r1, r2, mst, cnt, g1, g2, g3, e0, e1, e2, e3, p⟩ := hL
  have anew : Go l G 5 s_X5_findPlan 0 0 Post 16 [(0, .ref (w + 60)), (1, .ref (da i)), (2, .ref (da j)), (3, .int (nI u)), (4, .int (nI k))] [] h nx 0 0 := by
    refine Go.of hX.2 ck_X5_findPlan [39] 60 ?_
    refine Exists.intro _ (And.intro e0 (And.intro (Nat.le_of_ble_eq_true rfl) (And.intro rfl (And.intro rfl ?_))))
    refine Exists.intro _ (And.intro uph_eq (And.intro (Nat.le_of_ble_eq_true rfl) (And.intro rfl (And.intro rfl ?_))))
    refine Exists.intro _ (And.intro uph_eq (And.intro (Nat.le_of_ble_eq_true rfl) (And.intro rfl (And.intro rfl ?_))))
    refine Exists.intro _ (And.intro uph_eq (Exists.intro 0 (Exists.intro 0 (And.intro (Nat.le_refl _) (And.intro (Nat.le_refl _) ?_)))))
    refine x_listSets (w := w) (u := u) (f1 := .ref (da i)) (f2 := .ref (da j)) (mst := 0) (cnt := cnt) (g1 := g1) hX uph_eq ((uph_ne (by omega)).trans ((uph_ne (by omega)).trans ((uph_ne (by omega)).trans e1))) hu hn (fun h2 g a1 a2 a3 a4 => ?_)
    refine go_loc (lv' := [(5, .int (nI 0)), (0, .ref (w + 60)), (1, .ref (da i)), (2, .ref (da j)), (3, .int (nI u)), (4, .int (nI k))]) ⟨rfl, rfl, rfl, rfl, rfl, rfl, trivial⟩ ?_
    have fr : ∀ x, x ≠ w + 60 → x ≠ w + 61 → h2 x = h x := fun x b1 b2 => (a1 x b1 b2).trans ((uph_ne b1).trans ((uph_ne b1).trans (uph_ne b1)))
    exact fill (2 ^ rkU u 11) 0 h2 g g2 g3 (Nat.zero_add _) (fun x hx => fr x (by omega) (by omega)) (hH.ag (fun x b1 b2 => fr x (by omega) (by omega))) a2 a3 ((fr _ (by omega) (by omega)).trans e2) ((fr _ (by omega) (by omega)).trans e3) a4 (fun t ht => absurd ht (Nat.not_lt_zero t))
  refine en_X5_findPlan hX [16, 111] 40 rfl ?_
  refine Exists.intro _ (And.intro e0 (Exists.intro _ (And.intro rfl ?_)))
  refine Exists.intro (some (da i)) (Exists.intro r1 (And.intro rfl (And.intro rfl ?_)))
  by_cases c1 : some (da i) = r1
  · refine And.intro (fun cz => absurd (c1) cz) (fun _ => ?_)
    refine Exists.intro _ (And.intro e0 (Exists.intro _ (And.intro rfl ?_)))
    refine Exists.intro (some (da j)) (Exists.intro r2 (And.intro rfl (And.intro rfl ?_)))
    by_cases c2 : some (da j) = r2
    · refine And.intro (fun _ => ?_) (fun cz => absurd (c2) cz)
      subst c1
      subst c2
      rcases p with ⟨z, _⟩ | ⟨i2, j2, b1, b2, b3, b4, b5⟩
      · cases z
      · have ei := da_inj hA hi b1 (Option.some.inj b3)
        have ej := da_inj hA hj b2 (Option.some.inj b4)
        subst ei
        subst ej
        obtain ⟨_, _, b6, b7, b8⟩ := b5
        rw [hue] at b6 b7 b8
        rw [b6] at e0
        refine go_loc (lv' := [(0, .ref (w + 60)), (1, .ref (da i)), (2, .ref (da j)), (3, .int (nI u)), (4, .int (nI k))]) ⟨rfl, rfl, rfl, rfl, rfl, trivial⟩ (tail h mst g1 g2 g3 (fun _ _ => rfl) (hH.le (by omega)) e0 e1 e2 e3 b7 (fun z => ?_))
        rcases b8 with y | ⟨k2, y1, y2, y3, y4⟩
        · exfalso
          rw [y] at z
          have := (nI_eq (a := 0) (b := k) (by omega) (by omega)).mp z
          omega
        · have := (nI_eq (a := k2) (b := k) (by omega) (by omega)).mp (y3.symm.trans z)
          rw [← this]
          exact y4
    · refine And.intro (fun cz => absurd cz (c2)) (fun _ => ?_)
      exact go_loc (lv' := [(0, .ref (w + 60)), (1, .ref (da i)), (2, .ref (da j)), (3, .int (nI u)), (4, .int (nI k))]) ⟨rfl, rfl, rfl, rfl, rfl, trivial⟩ (anew)
  · refine And.intro (fun _ => ?_) (fun cz => absurd cz (c1))
    exact go_loc (lv' := [(0, .ref (w + 60)), (1, .ref (da i)), (2, .ref (da j)), (3, .int (nI u)), (4, .int (nI k))]) ⟨rfl, rfl, rfl, rfl, rfl, trivial⟩ (anew)
def inK (k : Int32) : Bool := decide (1 ≤ k) && decide (k ≤ 7)
theorem inK_c {k : Int32} (h : inK k = true) : ∃ n, 1 ≤ n ∧ n ≤ 7 ∧ k = nI n := by
  unfold inK at h
  rw [Bool.and_eq_true, decide_eq_true_eq, decide_eq_true_eq] at h
  obtain ⟨j, hj, e⟩ := (inR_c (x := k) (n := 8) (by decide)).mp (by
    unfold inR
    rw [decide_eq_true (Int32.le_trans (show (0 : Int32) ≤ 1 by decide) h.1), decide_eq_true (show k < nI 8 from Int32.lt_of_le_of_lt h.2 (by decide))]
    rfl)
  refine ⟨j, ?_, by omega, e⟩
  cases j with
  | zero => rw [e] at h; exact absurd h.1 (by decide)
  | succ j => omega
noncomputable def aPl (D E : DD) (k : Nat) : Int32 := if sameB D E = true then (if rkU (unlk D E) 11 ≤ 7 then eX (LVo (unlk D E) k (fun v => kSafe (kMix D E v)) 0) else -3) else -2
noncomputable def aPlan (c : Nat) (dd : Nat → DD) (a b k : Int32) : Int32 := if (inR a c && inR b c && inK k) = true then aPl (dd a.toNatClampNeg) (dd b.toNatClampNeg) k.toNatClampNeg else -1
set_option maxHeartbeats 8000000 in
theorem x_stageCount {l : Launch} {G : GG} {h : AH} {nx : Nat} {Post : Option Value → AH → Nat → Prop} {w c i j k : Nat} {da : Nat → Nat} {dd : Nat → DD} (hX : XC G ∧ TX l G) (hL : PLat h w da dd i j k) (hP : Post (some (.int (aPl (dd i) (dd j) k))) h nx) : Runs l G i_X5_stageCount 0 0 [.ref (w + 60)] h nx Post := by
  obtain ⟨g1, g2, g3, e0, e1, e2, e3, p1, p2, p3, p4⟩ := hL
  have := p4 0 (Nat.two_pow_pos _)
  rw [dep_0] at this
  unfold aPl at hP
  rw [if_pos p1, if_pos p2, ← this] at hP
  refine en_X5_stageCount hX [] 20 rfl ?_
  refine Exists.intro _ (And.intro e0 (Exists.intro _ (And.intro rfl ?_)))
  refine Exists.intro _ (Exists.intro _ (And.intro e3 (And.intro (vp_in_nI (n := 0) (by decide) (by decide)) ?_)))
  exact And.intro rfl (hP)
/-- a plan that is found: between which, with what -/
def PLfd (h : AH) (w c : Nat) (da : Nat → Nat) (dd : Nat → DD) (a b k : Int32) : Prop := ∃ i j n, i < c ∧ j < c ∧ a = nI i ∧ b = nI j ∧ k = nI n ∧ 1 ≤ n ∧ n ≤ 7 ∧ PLat h w da dd i j n
set_option maxHeartbeats 8000000 in
theorem x_plan {l : Launch} {G : GG} {h : AH} {nx : Nat} {Post : Option Value → AH → Nat → Prop} {o w tl c vb : Nat} {fp ah a b k : Int32} {da : Nat → Nat} {dd : Nat → DD} (hX : XC G ∧ TX l G) (hA : XA h o w tl fp c ah da dd) (hH : XH h w c da dd vb) (hL : XPl h w c da dd) (hv : vb + 128 < 2 ^ 31) (hP : ∀ h1 : AH, (∀ x, x < w + 43 ∨ (w + 52 ≤ x ∧ x < w + 60) ∨ w + 64 ≤ x → h1 x = h x) → XH h1 w c da dd (vb + 128) → XPl h1 w c da dd → (0 ≤ aPlan c dd a b k → PLfd h1 w c da dd a b k) → Post (some (.int (aPlan c dd a b k))) h1 nx) : Runs l G i_X11_plan 0 0 [.ref o, .int a, .int b, .int k] h nx Post := by
  have hc := hA.2.2.1
  have st : aPlan c dd a b k < 0 → Post (some (.int (aPlan c dd a b k))) h nx := fun z => hP h (fun _ _ => rfl) (hH.le (by omega)) hL (fun y => absurd z (Int32.not_lt.mpr y))
  have kno : inK k = false → Post (some (.int (-1))) h nx := fun z => by
    have e : aPlan c dd a b k = -1 := by unfold aPlan; rw [z, Bool.and_false]; rfl
    rw [e] at st
    exact st (by decide)
  have body : ∀ v : Int32, v ≠ -1 → (inK k = true → Go l G 11 s_X11_plan 0 0 Post 27 [(4, .int v), (0, .ref o), (1, .int a), (2, .int b), (3, .int k)] [] h nx 0 0) → Go l G 11 s_X11_plan 0 0 Post 8 [(4, .int v), (0, .ref o), (1, .int a), (2, .int b), (3, .int k)] [] h nx 0 0 := by
    intro v hv1 hgo
    refine Go.of hX.2 ck_X11_plan [27] 40 ?_
    refine And.intro (fun cz => absurd cz (hv1)) (fun _ => ?_)
    unfold inK at kno hgo
    by_cases c1 : k < 1
    · refine And.intro (fun _ => ?_) (fun cz => absurd (c1) cz)
      exact And.intro rfl ((kno (by rw [decide_eq_false (Int32.not_le.mpr c1)]; rfl)))
    · refine And.intro (fun cz => absurd cz (c1)) (fun _ => ?_)
      by_cases c2 : k ≤ 7
      · refine And.intro (fun _ => ?_) (fun cz => absurd (c2) cz)
        exact go_loc (lv' := [(4, .int v), (0, .ref o), (1, .int a), (2, .int b), (3, .int k)]) ⟨rfl, rfl, rfl, rfl, rfl, trivial⟩ (hgo (by rw [decide_eq_true (Int32.not_lt.mp c1), decide_eq_true c2]; rfl))
      · refine And.intro (fun cz => absurd cz (c2)) (fun _ => ?_)
        exact And.intro rfl ((kno (by rw [decide_eq_false c2, Bool.and_false])))
  refine en_X11_plan hX [8] 60 rfl ?_
  refine Exists.intro _ (And.intro hA.1 (Exists.intro 0 (Exists.intro 0 (And.intro (Nat.le_refl _) (And.intro (Nat.le_refl _) (x_unlike hX hA ?_))))))
  unfold aUnlike
  cases c1 : (inR a c && inR b c) with
  | false =>
    have e : aPlan c dd a b k = -1 := by unfold aPlan; rw [c1]; rfl
    rw [e] at st
    rw [if_neg (by decide)]
    refine go_loc (lv' := [(4, .int (-1)), (0, .ref o), (1, .int a), (2, .int b), (3, .int k)]) ⟨rfl, rfl, rfl, rfl, rfl, trivial⟩ ?_
    refine Go.of hX.2 ck_X11_plan [] 40 ?_
    refine And.intro (fun _ => ?_) (fun cz => absurd (rfl) cz)
    exact And.intro rfl ((st (by decide)))
  | true =>
    rw [if_pos rfl]
    rw [Bool.and_eq_true] at c1
    obtain ⟨i, hi, rfl⟩ := (inR_c (by omega)).mp c1.1
    obtain ⟨j, hj, rfl⟩ := (inR_c (by omega)).mp c1.2
    rw [nI_clamp (by omega), nI_clamp (by omega)]
    have hdi : isDr w c da dd (da i) (dd i) := Or.inr ⟨i, hi, rfl, rfl⟩
    have hdj : isDr w c da dd (da j) (dd j) := Or.inr ⟨j, hj, rfl, rfl⟩
    obtain ⟨_, hw, hlo⟩ := hdi.xd hA
    obtain ⟨_, hv2, hlo2⟩ := hdj.xd hA
    have hu := unlk_lt (dd i) (dd j)
    have ea : ∀ n, inK (nI n) = true → n ≤ 7 → k = nI n → aPlan c dd (nI i) (nI j) k = aPl (dd i) (dd j) n := fun n hn h7 e => by
      unfold aPlan
      rw [c1.1, c1.2, e, hn, nI_clamp (by omega), nI_clamp (by omega), nI_clamp (by omega)]
      rfl
    unfold aUnlk
    cases cs : sameB (dd i) (dd j) with
    | false =>
      rw [if_neg (by decide)]
      refine go_loc (lv' := [(4, .int (-2)), (0, .ref o), (1, .int (nI i)), (2, .int (nI j)), (3, .int k)]) ⟨rfl, rfl, rfl, rfl, rfl, trivial⟩ (body (-2) (by decide) (fun hk => ?_))
      obtain ⟨n, h1, h7, rfl⟩ := inK_c hk
      have e := ea n hk h7 rfl
      unfold aPl at e
      rw [if_neg (by rw [cs]; decide)] at e
      rw [e] at st
      refine Go.of hX.2 ck_X11_plan [] 40 ?_
      refine And.intro (fun cz => absurd cz (show ¬ (0 : Int32) ≤ -2 from by decide)) (fun _ => ?_)
      exact And.intro rfl ((st (by decide)))
    | true =>
      rw [if_pos rfl]
      refine go_loc (lv' := [(4, .int (nI (unlk (dd i) (dd j)))), (0, .ref o), (1, .int (nI i)), (2, .int (nI j)), (3, .int k)]) ⟨rfl, rfl, rfl, rfl, rfl, trivial⟩ (body _ (fun z => absurd (nI_pos' (n := unlk (dd i) (dd j)) (by omega)) (by rw [z]; decide)) (fun hk => ?_))
      obtain ⟨n, h1, h7, rfl⟩ := inK_c hk
      have e := ea n hk h7 rfl
      refine Go.of hX.2 ck_X11_plan [] 60 ?_
      refine And.intro (fun _ => ?_) (fun cz => absurd (nI_pos' (by omega)) cz)
      refine Exists.intro 0 (Exists.intro 0 (And.intro (Nat.le_refl _) (And.intro (Nat.le_refl _) (c_bitCountI hX hu ?_))))
      by_cases c7 : rkU (unlk (dd i) (dd j)) 11 ≤ 7
      · refine And.intro (fun _ => ?_) (fun cz => absurd (nI_le (a := pqN (unlk (dd i) (dd j)).testBit 11) (b := 7) c7 (by decide)) cz)
        refine Exists.intro _ (And.intro hA.1 (Exists.intro _ (And.intro rfl ?_)))
        refine Exists.intro _ (And.intro hA.1 (Exists.intro 0 (Exists.intro 0 (And.intro (Nat.le_refl _) (And.intro (Nat.le_refl _) (x_drawingOf hX hA hi ?_))))))
        refine Exists.intro _ (And.intro hA.1 (Exists.intro 0 (Exists.intro 0 (And.intro (Nat.le_refl _) (And.intro (Nat.le_refl _) (x_drawingOf hX hA hj ?_))))))
        obtain ⟨_, _, _, _, _, _, _, p0, _⟩ := id hL
        refine Exists.intro _ (And.intro p0 (Exists.intro 0 (Exists.intro 0 (And.intro (Nat.le_refl _) (And.intro (Nat.le_refl _) (x_findPlan hX hA hH hL hi hj cs c7 h1 h7 hv (fun h1 y1 y2 y3 => ?_)))))))
        have hA1 : XA h1 o w tl fp c ah da dd := hA.mid (fun x hx => y1 x (by omega))
        refine Exists.intro _ (And.intro hA1.1 (Exists.intro _ (And.intro rfl ?_)))
        obtain ⟨_, _, _, q0, _⟩ := id y3
        refine Exists.intro _ (And.intro q0 (Exists.intro 0 (Exists.intro 0 (And.intro (Nat.le_refl _) (And.intro (Nat.le_refl _) (x_stageCount (c := c) hX y3 ?_))))))
        rw [e] at hP
        exact And.intro rfl ((hP h1 y1 y2 (y3.pl hi hj (by assumption) h7) (fun _ => ⟨i, j, n, hi, hj, rfl, rfl, rfl, by assumption, h7, y3⟩)))
      · unfold aPl at e
        rw [if_pos cs, if_neg c7] at e
        rw [e] at st
        refine And.intro (fun cz => absurd cz (fun z => c7 ((nI_leI (a := pqN (unlk (dd i) (dd j)).testBit 11) (b := 7) (by have := pqN_le (unlk (dd i) (dd j)).testBit 11; omega) (by decide)).mp z))) (fun _ => ?_)
        exact And.intro rfl ((st (by decide)))
noncomputable def aStage (c : Nat) (dd : Nat → DD) (a b k i : Int32) : Int32 := if 0 ≤ i ∧ i < aPlan c dd a b k then nI (stgB (unlk (dd a.toNatClampNeg) (dd b.toNatClampNeg)) k.toNatClampNeg (fun v => kSafe (kMix (dd a.toNatClampNeg) (dd b.toNatClampNeg) v)) (i.toNatClampNeg + 1)) else -1
/-- what an answer of plan that is not below 0 tells -/
theorem aPl_c {D E : DD} {k : Nat} {i : Int32} (h1 : sameB D E = true) (h2 : rkU (unlk D E) 11 ≤ 7) (h0 : 0 ≤ i) (hi : i < aPl D E k) : ∃ m n, LVo (unlk D E) k (fun v => kSafe (kMix D E v)) 0 = some m ∧ m ≤ 11 ∧ n < m ∧ i = nI n ∧ aPl D E k = nI m := by
  have e : aPl D E k = eX (LVo (unlk D E) k (fun v => kSafe (kMix D E v)) 0) := by unfold aPl; rw [if_pos h1, if_pos h2]
  rw [e] at hi
  cases hl : LVo (unlk D E) k (fun v => kSafe (kMix D E v)) 0 with
  | none =>
    rw [hl] at hi
    exact absurd (Int32.lt_of_le_of_lt h0 hi) (by decide)
  | some m =>
    rw [hl] at hi e
    have hm := LVo_lt (unlk_lt D E) hl
    obtain ⟨n, hn, en⟩ := (inR_c (x := i) (n := m) (by omega)).mp (by
      unfold inR
      rw [decide_eq_true h0, decide_eq_true (show i < nI m from hi)]
      rfl)
    exact ⟨m, n, rfl, hm, hn, en, e⟩
set_option maxHeartbeats 8000000 in
theorem x_stage {l : Launch} {G : GG} {h : AH} {nx : Nat} {Post : Option Value → AH → Nat → Prop} {o w tl c vb : Nat} {fp ah a b k i : Int32} {da : Nat → Nat} {dd : Nat → DD} (hX : XC G ∧ TX l G) (hA : XA h o w tl fp c ah da dd) (hH : XH h w c da dd vb) (hL : XPl h w c da dd) (hv : vb + 128 < 2 ^ 31) (hP : ∀ h1 : AH, (∀ x, x < w + 43 ∨ (w + 52 ≤ x ∧ x < w + 60) ∨ w + 64 ≤ x → h1 x = h x) → XH h1 w c da dd (vb + 128) → XPl h1 w c da dd → Post (some (.int (aStage c dd a b k i))) h1 nx) : Runs l G i_X11_stage 0 0 [.ref o, .int a, .int b, .int k, .int i] h nx Post := by
  have hc := hA.2.2.1
  refine en_X11_stage hX [] 60 rfl ?_
  refine Exists.intro _ (And.intro hA.1 (Exists.intro 0 (Exists.intro 0 (And.intro (Nat.le_refl _) (And.intro (Nat.le_refl _) (x_plan hX hA hH hL hv (fun h1 y1 y2 y3 y4 => ?_)))))))
  have hA1 : XA h1 o w tl fp c ah da dd := hA.mid (fun x hx => y1 x (by omega))
  have hP := hP h1 y1 y2 y3
  unfold aStage at hP
  by_cases c1 : i < 0
  · rw [if_neg (fun z => absurd c1 (Int32.not_lt.mpr z.1))] at hP
    refine And.intro (fun _ => ?_) (fun cz => absurd (c1) cz)
    exact And.intro rfl (hP)
  · refine And.intro (fun cz => absurd cz (c1)) (fun _ => ?_)
    have c1 := Int32.not_lt.mp c1
    by_cases c2 : i < aPlan c dd a b k
    · rw [if_pos ⟨c1, c2⟩] at hP
      refine And.intro (fun _ => ?_) (fun cz => absurd (c2) cz)
      refine Exists.intro _ (And.intro hA1.1 (Exists.intro _ (And.intro rfl ?_)))
      obtain ⟨i1, j1, n1, z1, z2, rfl, rfl, rfl, z3, z4, z5⟩ := y4 (Int32.le_trans c1 (Int32.le_of_lt c2))
      have ea : aPlan c dd (nI i1) (nI j1) (nI n1) = aPl (dd i1) (dd j1) n1 := by
        unfold aPlan
        rw [(inR_c (x := nI i1) (by omega)).mpr ⟨i1, z1, rfl⟩, (inR_c (x := nI j1) (by omega)).mpr ⟨j1, z2, rfl⟩, show inK (nI n1) = true from by unfold inK; rw [decide_eq_true (show (1 : Int32) ≤ nI n1 from nI_le (a := 1) z3 (by omega)), decide_eq_true (show nI n1 ≤ 7 from nI_le (b := 7) z4 (by decide))]; rfl, nI_clamp (by omega), nI_clamp (by omega), nI_clamp (by omega)]
        rfl
      rw [ea] at c2
      obtain ⟨g1, g2, g3, e0, e1, e2, e3, p1, p2, p3, p4⟩ := z5
      obtain ⟨m, n, q1, q2, q3, rfl, q5⟩ := aPl_c p1 p2 c1 c2
      rw [nI_clamp (by omega), nI_clamp (by omega), nI_clamp (by omega), nI_clamp (by omega)] at hP
      refine Exists.intro _ (And.intro e0 (Exists.intro 0 (Exists.intro 0 (And.intro (Nat.le_refl _) (And.intro (Nat.le_refl _) (x_setBehind (sf := fun v => kSafe (kMix (dd i1) (dd j1) v)) hX e0 e1 e3 (unlk_lt _ _) p2 (by omega) (fun t ht => (p3 t ht).1) p4 q1 q3 ?_))))))
      exact And.intro rfl (hP)
    · rw [if_neg (fun z => c2 z.2)] at hP
      refine And.intro (fun cz => absurd cz (c2)) (fun _ => ?_)
      exact And.intro rfl (hP)
