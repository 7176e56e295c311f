/-! x adds a circuit to its drawing -/
theorem len5 {a m : Nat} : nI (a + m) - nI a = nI m := by rw [nI_sub (by omega), Nat.add_sub_cancel_left]
set_option maxHeartbeats 8000000 in
/-- owners -/
theorem x_addCircuit {l : Launch} {G : GG} {h : AH} {nx : Nat} {Post : Option Value → AH → Nat → Prop} {d q a m c I R L K V cc fc : Nat} {kd vc st : Nat → Nat} {g2 g3 g4 g5 g10 g18 gv gb gi wc wo gc go ge : Nat → Int32} (hX : XC G ∧ TX l G) (hd : h d = some (.inr (0, dwF d I R L K V cc fc))) (h2 : h (d + 2) = some (.inl (0, 16, .inl g2))) (h3 : h (d + 3) = some (.inl (0, 400, .inl g3))) (h4 : h (d + 4) = some (.inl (0, 11, .inl g4))) (h5 : h (d + 5) = some (.inl (0, 11, .inl g5))) (h6 : h (d + 6) = some (.inr (10, wiF (d + 7) 40))) (hR : wiR h (d + 7) 40 gv gb gi wc wo gc go ge) (h10 : h (d + 10) = some (.inl (0, 11, .inl g10))) (h18 : h (d + 18) = some (.inl (0, 40, .inl g18))) (hst : ∀ i, i < 5 → g2 (11 + i) = nI (st i) ∧ st i < 19) (hc : codesAt h q kd vc a m) (ha : 0 < a) (hc11 : c < 11) (hcc : cc + m ≤ 400) (hK : K + nmE (sqL kd a m) ≤ 40) (hk : ∀ j, j < m → kd (a + j) = 2 ∨ kd (a + j) = 14 ∨ kd (a + j) = 15 ∨ kd (a + j) = 16 ∨ kd (a + j) = 17 ∨ kd (a + j) = 18) (hq : q < d ∨ d + 29 ≤ q) (hP : ∀ (h1 : AH) (g3' g18' gv' gb' gi' wc' wo' gc' go' ge' : Nat → Int32), (∀ x, x < d ∨ (d < x ∧ x < d + 3) ∨ (d + 11 ≤ x ∧ x < d + 13) ∨ d + 19 ≤ x → h1 x = h x) → h1 (d + 6) = h (d + 6) → h1 d = some (.inr (0, dwF d I R L (K + nmE (sqL kd a m)) V (cc + m) fc)) → h1 (d + 3) = some (.inl (0, 400, .inl g3')) → (∀ j, j < m → g3' (cc + j) = nI (cdT kd vc (a + j))) → (∀ x, x < cc → g3' x = g3 x) → h1 (d + 4) = some (.inl (0, 11, .inl (upd g4 c (nI cc)))) → h1 (d + 5) = some (.inl (0, 11, .inl (upd g5 c (nI (cc + m))))) → h1 (d + 10) = some (.inl (0, 11, .inl (upd g10 c (nI K)))) → h1 (d + 18) = some (.inl (0, 40, .inl g18')) → (∀ k, K ≤ k → k < K + nmE (sqL kd a m) → g18' k = nI c) → (∀ k, k < K → g18' k = g18 k) → wiR h1 (d + 7) 40 gv' gb' gi' wc' wo' gc' go' ge' → wiD kd vc (trB st 5) a m K 0 gv' gb' gi' → okG wc' wo' (sqL kd a m) K → sam K (K + nmE (sqL kd a m)) gv gv' → sam K (K + nmE (sqL kd a m)) gb gb' → sam K (K + nmE (sqL kd a m)) gi gi' → sam K (K + nmE (sqL kd a m)) wc wc' → sam K (K + nmE (sqL kd a m)) wo wo' → Post none h1 nx) : Runs l G i_X0_addCircuit 0 0 [.ref d, .int (nI c), .ref q, .int (nI a), .int (nI (a + m))] h nx Post := by
  obtain ⟨g, eq, h400, p⟩ := id hc
  have htr : trB st 5 < 2 ^ 30 := Nat.lt_of_lt_of_le (bsum_lt _ 11) (by decide)
  have own : ∀ (r k : Nat) (h1 : AH) (g' : Nat → Int32), k + r = K + nmE (sqL kd a m) → K ≤ k → (∀ x, x ≠ d → x ≠ d + 18 → ∀ y : AE, True) → h1 d = some (.inr (0, dwF d I R L k V (cc + m) fc)) → h1 (d + 18) = some (.inl (0, 40, .inl g')) → (∀ h2 : AH, (∀ x, x ≠ d → x ≠ d + 18 → h2 x = h1 x) → ∀ g'' : Nat → Int32, h2 d = some (.inr (0, dwF d I R L (K + nmE (sqL kd a m)) V (cc + m) fc)) → h2 (d + 18) = some (.inl (0, 40, .inl g'')) → (∀ x, k ≤ x → x < K + nmE (sqL kd a m) → g'' x = nI c) → (∀ x, x < k → g'' x = g' x) → Post none h2 nx) → Go l G 0 s_X0_addCircuit 0 0 Post 143 [(6, .int (nI (K + nmE (sqL kd a m)))), (0, .ref d), (1, .int (nI c))] [] h1 nx 0 0 := by
    intro r
    induction r with
    | zero =>
      intro k h1 g' hk2 hKk _ e0 e18 hQ
      have e : k = K + nmE (sqL kd a m) := by omega
      subst e
      refine Go.of hX.2 ck_X0_addCircuit [] 20 ?_
      refine Exists.intro _ (And.intro e0 (Exists.intro _ (And.intro rfl ?_)))
      refine And.intro (fun _ => ?_) (fun cz => absurd (nI_le (Nat.le_refl _) (by omega)) cz)
      exact hQ h1 (fun _ _ _ => rfl) g' e0 e18 (fun x x1 x2 => by omega) (fun _ _ => rfl)
    | succ r ih =>
      intro k h1 g' hk2 hKk _ e0 e18 hQ
      have e0s : ∀ (A : AE), uph (uph h1 (d + 18) A) d (.inr (0, (dwF d I R L k V (cc + m) fc).set 3 (.int (nI k + 1)))) d = some (.inr (0, dwF d I R L (k + 1) V (cc + m) fc)) := fun A => by
        rw [uph_eq]
        unfold dwF
        rw [nI_succ k]
        rfl
      refine Go.of hX.2 ck_X0_addCircuit [143] 40 ?_
      refine Exists.intro _ (And.intro e0 (Exists.intro _ (And.intro rfl ?_)))
      refine And.intro (fun cz => absurd cz (nI_ge (a := k) (b := K + nmE (sqL kd a m)) (by omega) (by omega))) (fun _ => ?_)
      refine Exists.intro _ (And.intro e0 (Exists.intro _ (And.intro rfl ?_)))
      refine Exists.intro _ (And.intro e0 (Exists.intro _ (And.intro rfl ?_)))
      refine Exists.intro _ (Exists.intro _ (And.intro e18 (And.intro (vp_in_nI (show k < 40 by omega) (by decide)) ?_)))
      rw [nI_clamp (show k < 2 ^ 31 by omega)]
      refine Exists.intro _ (And.intro ((uph_ne (by omega)).trans e0) (Exists.intro _ (And.intro rfl ?_)))
      refine Exists.intro _ (And.intro ((uph_ne (by omega)).trans e0) (And.intro (Nat.le_of_ble_eq_true rfl) (And.intro rfl (And.intro rfl ?_))))
      refine go_loc (lv' := [(6, .int (nI (K + nmE (sqL kd a m)))), (0, .ref d), (1, .int (nI c))]) ⟨rfl, rfl, rfl, trivial⟩ ?_
      refine ih (k + 1) _ (upd g' k (nI c)) (by omega) (by omega) (fun _ _ _ _ => True.intro) (e0s _) ((uph_ne (by omega)).trans uph_eq) (fun h2 f2 g'' y0 y1 y2 y3 => hQ h2 (fun x x1 x2 => (f2 x x1 x2).trans ((uph_ne x1).trans (uph_ne x2))) g'' y0 y1 (fun x x1 x2 => ?_) (fun x x1 => ?_))
      · by_cases e : x = k
        · rw [e, y3 k (Nat.lt_succ_self k), pk_us]
        · exact y2 x (by omega) x2
      · rw [y3 x (by omega), pk_un (by omega)]
  have main : ∀ h1 : AH, (∀ x, x ≠ d → x ≠ d + 3 → x ≠ d + 4 → x ≠ d + 5 → x ≠ d + 10 → h1 x = h x) → h1 d = some (.inr (0, dwF d I R L K V (cc + m) fc)) → h1 (d + 3) = some (.inl (0, 400, .inl (va_cpy g g3 a cc m))) → h1 (d + 4) = some (.inl (0, 11, .inl (upd g4 c (nI cc)))) → h1 (d + 5) = some (.inl (0, 11, .inl (upd g5 c (nI (cc + m))))) → h1 (d + 10) = some (.inl (0, 11, .inl (upd g10 c (nI K)))) → Go l G 0 s_X0_addCircuit 0 0 Post 105 [(0, .ref d), (1, .int (nI c)), (2, .ref q), (3, .int (nI a)), (4, .int (nI (a + m)))] [] h1 nx 0 0 := by
    intro h1 f e0 e3 e4 e5 e10
    have k6 := (f (d + 6) (by omega) (by omega) (by omega) (by omega) (by omega)).trans h6
    have k2 := (f (d + 2) (by omega) (by omega) (by omega) (by omega) (by omega)).trans h2
    have k18 := (f (d + 18) (by omega) (by omega) (by omega) (by omega) (by omega)).trans h18
    have kq := (f q (by omega) (by omega) (by omega) (by omega) (by omega)).trans eq
    have kR : wiR h1 (d + 7) 40 gv gb gi wc wo gc go ge := by
      obtain ⟨r6, r7, r8, r9, r10, r0, r1, r2⟩ := hR
      exact ⟨(f _ (by omega) (by omega) (by omega) (by omega) (by omega)).trans r6, (f _ (by omega) (by omega) (by omega) (by omega) (by omega)).trans r7, (f _ (by omega) (by omega) (by omega) (by omega) (by omega)).trans r8, (f _ (by omega) (by omega) (by omega) (by omega) (by omega)).trans r9, (f _ (by omega) (by omega) (by omega) (by omega) (by omega)).trans r10, (f _ (by omega) (by omega) (by omega) (by omega) (by omega)).trans r0, (f _ (by omega) (by omega) (by omega) (by omega) (by omega)).trans r1, (f _ (by omega) (by omega) (by omega) (by omega) (by omega)).trans r2⟩
    have kc : codesAt h1 q kd vc a m := ⟨g, kq, h400, p⟩
    refine Go.of hX.2 ck_X0_addCircuit [143] 60 ?_
    refine Exists.intro _ (And.intro e0 (Exists.intro _ (And.intro rfl ?_)))
    refine Exists.intro _ (And.intro e0 (Exists.intro _ (And.intro rfl ?_)))
    refine Exists.intro _ (And.intro e0 (Exists.intro 0 (Exists.intro 0 (And.intro (Nat.le_refl _) (And.intro (Nat.le_refl _) (x_trackBits (st := st) hX e0 rfl k2 hst ?_))))))
    refine Exists.intro _ (And.intro k6 (Exists.intro 0 (Exists.intro 0 (And.intro (Nat.le_refl _) (And.intro (Nat.le_refl _) (x_connect (kd := kd) (vc := vc) hX k6 kR kc ha (by decide) hK htr hk (by omega) (by omega) (fun h5' gv' gb' gi' wc' wo' gc' go' ge' y1 y2 y3 y4 y5 y6 y7 y8 y9 y10 => ?_)))))))
    have e0' := (y1 d (by omega)).trans e0
    have kc' : codesAt h5' q kd vc a m := ⟨g, (y1 q (by omega)).trans kq, h400, p⟩
    refine Exists.intro _ (And.intro e0' (Exists.intro _ (And.intro rfl ?_)))
    refine Exists.intro 0 (Exists.intro 0 (And.intro (Nat.le_refl _) (And.intro (Nat.le_refl _) (x_contactsIn hX kc' ?_))))
    refine And.intro rfl ?_
    refine go_loc (lv' := [(6, .int (if nI K + nI (nmE (sqL kd a m)) < (40 : Int32) then nI K + nI (nmE (sqL kd a m)) else 40)), (0, .ref d), (1, .int (nI c))]) ⟨rfl, rfl, rfl, trivial⟩ ?_
    have em : (if nI K + nI (nmE (sqL kd a m)) < (40 : Int32) then nI K + nI (nmE (sqL kd a m)) else 40) = nI (K + nmE (sqL kd a m)) := by
      rw [nI_add]
      show (if nI (K + nmE (sqL kd a m)) < nI 40 then nI (K + nmE (sqL kd a m)) else nI 40) = nI (K + nmE (sqL kd a m))
      by_cases cl : K + nmE (sqL kd a m) < 40
      · rw [if_pos (nI_lt cl (by decide))]
      · rw [if_neg (nI_nlt (a := K + nmE (sqL kd a m)) (b := 40) (by omega) (by omega)), show K + nmE (sqL kd a m) = 40 by omega]
    rw [em]
    refine own (nmE (sqL kd a m)) K h5' g18 rfl (Nat.le_refl _) (fun _ _ _ _ => True.intro) e0' ((y1 _ (by omega)).trans k18) (fun h7 f7 g'' z0 z1 z2 z3 => ?_)
    have fr : ∀ x, x ≠ d → x ≠ d + 18 → (x < d + 7 ∨ d + 18 ≤ x) → h7 x = h1 x := fun x x1 x2 x3 => (f7 x x1 x2).trans (y1 x (by omega))
    have fr2 : ∀ x, d + 10 ≤ x → x < d + 13 → h7 x = h1 x := fun x x1 x2 => (f7 x (by omega) (by omega)).trans (y2 x (by omega) (by omega))
    obtain ⟨r6, r7, r8, r9, r10, r0, r1, r2⟩ := y3
    refine hP h7 (va_cpy g g3 a cc m) g'' gv' gb' gi' wc' wo' gc' go' ge' (fun x hx => ?_) ?_ z0 ((fr _ (by omega) (by omega) (by omega)).trans e3) (fun j hj => ?_) (fun x hx => ?_) ((fr _ (by omega) (by omega) (by omega)).trans e4) ((fr _ (by omega) (by omega) (by omega)).trans e5) ((fr2 _ (by omega) (by omega)).trans e10) z1 z2 z3 ⟨(f7 _ (by omega) (by omega)).trans r6, (f7 _ (by omega) (by omega)).trans r7, (f7 _ (by omega) (by omega)).trans r8, (f7 _ (by omega) (by omega)).trans r9, (f7 _ (by omega) (by omega)).trans r10, (f7 _ (by omega) (by omega)).trans r0, (f7 _ (by omega) (by omega)).trans r1, (f7 _ (by omega) (by omega)).trans r2⟩ y4 y5 y6 y7 y8 y9 y10
    · by_cases c1 : d + 11 ≤ x ∧ x < d + 13
      · exact (fr2 x (by omega) c1.2).trans (f x (by omega) (by omega) (by omega) (by omega) (by omega))
      · exact (fr x (by omega) (by omega) (by omega)).trans (f x (by omega) (by omega) (by omega) (by omega) (by omega))
    · exact (fr _ (by omega) (by omega) (by omega)).trans (f _ (by omega) (by omega) (by omega) (by omega) (by omega))
    · unfold va_cpy
      rw [if_pos (by omega), show a + (cc + j - cc) = a + j by omega]
      exact (p j hj).1
    · unfold va_cpy
      rw [if_neg (by omega)]
  have hdc : ∀ (A : AE), uph h (d + 3) A d = some (.inr (0, dwF d I R L K V cc fc)) := fun A => (uph_ne (by omega)).trans hd
  refine en_X0_addCircuit hX [46, 105] 60 rfl ?_
  refine And.intro (fun cz => absurd cz (nI_pos (show c < 2 ^ 31 by omega))) (fun _ => ?_)
  refine And.intro (fun cz => absurd cz (nI_ge (a := c) (b := 11) hc11 (by decide))) (fun _ => ?_)
  refine And.intro (fun cz => absurd cz (nI_pos (show a < 2 ^ 31 by omega))) (fun _ => ?_)
  refine Exists.intro _ (Exists.intro _ (And.intro eq (And.intro (by decide) ?_)))
  refine And.intro (fun cz => absurd cz (nI_nlt (a := 400) (b := a + m) h400 (by decide))) (fun _ => ?_)
  refine And.intro (fun cz => absurd cz (show ¬ nI (a + m) - nI a < 0 from by rw [len5]; exact nI_pos (by omega))) (fun _ => ?_)
  refine Exists.intro _ (And.intro hd (Exists.intro _ (And.intro rfl ?_)))
  refine And.intro (fun _ => ?_) (fun cz => absurd (show nI cc + (nI (a + m) - nI a) ≤ 400 from by rw [len5, nI_add]; exact nI_le (b := 400) hcc (by decide)) cz)
  refine go_loc (lv' := [(5, .int (nI (a + m) - nI a)), (0, .ref d), (1, .int (nI c)), (2, .ref q), (3, .int (nI a)), (4, .int (nI (a + m)))]) ⟨rfl, rfl, rfl, rfl, rfl, rfl, trivial⟩ ?_
  rw [len5]
  refine Go.of hX.2 ck_X0_addCircuit [105] 60 ?_
  refine Exists.intro _ (And.intro hd (Exists.intro _ (And.intro rfl ?_)))
  refine Exists.intro _ (And.intro hd (Exists.intro _ (And.intro rfl ?_)))
  refine Exists.intro _ (Exists.intro _ (Exists.intro _ (Exists.intro _ (And.intro (by decide) (And.intro eq (And.intro h3 (And.intro (nI_pos (by omega)) (And.intro (nI_pos (by omega)) (And.intro (nI_pos (by omega)) (And.intro (by rw [nI_clamp (by omega), nI_clamp (by omega)]; omega) (And.intro (by rw [nI_clamp (by omega), nI_clamp (by omega)]; omega) ?_)))))))))))
  rw [nI_clamp (show a < 2 ^ 31 by omega), nI_clamp (show cc < 2 ^ 31 by omega), nI_clamp (show m < 2 ^ 31 by omega)]
  refine Exists.intro _ (And.intro (hdc _) (Exists.intro _ (And.intro rfl ?_)))
  refine Exists.intro _ (And.intro (hdc _) (Exists.intro _ (And.intro rfl ?_)))
  refine Exists.intro _ (Exists.intro _ (And.intro ((uph_ne (by omega)).trans h4) (And.intro (vp_in_nI hc11 (by decide)) ?_)))
  rw [nI_clamp (show c < 2 ^ 31 by omega)]
  refine Exists.intro _ (And.intro ((uph_ne (by omega)).trans (hdc _)) (Exists.intro _ (And.intro rfl ?_)))
  refine Exists.intro _ (And.intro ((uph_ne (by omega)).trans (hdc _)) (And.intro (Nat.le_of_ble_eq_true rfl) (And.intro rfl (And.intro rfl ?_))))
  refine Exists.intro _ (And.intro uph_eq (Exists.intro _ (And.intro rfl ?_)))
  refine Exists.intro _ (And.intro uph_eq (Exists.intro _ (And.intro rfl ?_)))
  refine Exists.intro _ (Exists.intro _ (And.intro ((uph_ne (by omega)).trans ((uph_ne (by omega)).trans ((uph_ne (by omega)).trans h5))) (And.intro (vp_in_nI hc11 (by decide)) ?_)))
  rw [nI_clamp (show c < 2 ^ 31 by omega)]
  refine Exists.intro _ (And.intro ((uph_ne (by omega)).trans uph_eq) (Exists.intro _ (And.intro rfl ?_)))
  refine Exists.intro _ (And.intro ((uph_ne (by omega)).trans ((uph_ne (by omega)).trans ((uph_ne (by omega)).trans ((uph_ne (by omega)).trans h6)))) (Exists.intro _ (And.intro rfl ?_)))
  refine Exists.intro _ (And.intro ((uph_ne (by omega)).trans uph_eq) (Exists.intro _ (And.intro rfl ?_)))
  refine Exists.intro _ (Exists.intro _ (And.intro ((uph_ne (by omega)).trans ((uph_ne (by omega)).trans ((uph_ne (by omega)).trans ((uph_ne (by omega)).trans h10)))) (And.intro (vp_in_nI hc11 (by decide)) ?_)))
  rw [nI_clamp (show c < 2 ^ 31 by omega)]
  refine go_loc (lv' := [(0, .ref d), (1, .int (nI c)), (2, .ref q), (3, .int (nI a)), (4, .int (nI (a + m)))]) ⟨rfl, rfl, rfl, rfl, rfl, trivial⟩ ?_
  refine main _ (fun x a1 a2 a3 a4 a5 => by rw [uph_ne a5, uph_ne a4, uph_ne a1, uph_ne a3, uph_ne a2]) ?_ ?_ ?_ ?_ uph_eq
  · rw [uph_ne (by omega), uph_ne (by omega), uph_eq]
    unfold dwF
    rw [← nI_add cc m]
    rfl
  · rw [uph_ne (by omega), uph_ne (by omega), uph_ne (by omega), uph_ne (by omega)]; exact uph_eq
  · rw [uph_ne (by omega), uph_ne (by omega), uph_ne (by omega)]; exact uph_eq
  · rw [uph_ne (by omega), uph_eq]
    rw [← nI_add cc m]
