/-! x keeps a token; it goes through the text -/
def rdG (r i : Nat) (pl : Int32) (s d td a b l v c t : Nat) : List Value := [.ref (r + 1), .ref (r + 4), .ref (r + 5), .ref (r + 6), .ref (r + 7), .ref (r + 8), .int (nI i), .int (nI s), .int (nI d), .int pl, .ref (r + 9), .ref (r + 10), .ref (r + 11), .int (nI td), .int (nI a), .int (nI b), .int (nI l), .int (nI v), .int (nI c), .int (nI t)]
set_option maxHeartbeats 8000000 in
theorem x_keepTold {l : Launch} {G : GG} {h : AH} {nx : Nat} {Post : Option Value → AH → Nat → Prop} {r i s d td a b la v c t m j qt n p kj pj : Nat} {pl : Int32} {kd : Nat → Nat} {vl : Nat → Int64} {L : List Nat} (hX : XC G ∧ TX l G) (hr : h r = some (.inr (6, rdG r i pl s d td a b la v c t))) (hk : h (r + 1) = some (.inr (8, tkO (r + 2) qt n p kj pj (vl j)))) (hB : rwB h r kd vl L) (htd : td = L.length) (h16 : td < 16) (ht : t = zT (zz kd j)) (hm : m = zNo (zz kd j)) (hP : ∀ h1 : AH, (∀ x, x ≠ r → (x < r + 9 ∨ r + 12 ≤ x) → h1 x = h x) → h1 r = some (.inr (6, rdG r i pl s d (td + 1) a b la v c t)) → rwB h1 r kd vl (L ++ [j]) → Post none h1 nx) : Runs l G i_X6_keepTold 0 0 [.ref r, .int (nI m)] h nx Post := by
  obtain ⟨g10, g11, g9, e9, e10, e11, q⟩ := hB
  refine en_X6_keepTold hX [58] 60 rfl ?_
  refine Exists.intro _ (And.intro hr (Exists.intro _ (And.intro rfl ?_)))
  refine And.intro (fun cz => absurd cz (nI_ge (a := td) (b := 16) h16 (by decide))) (fun _ => ?_)
  refine Exists.intro _ (And.intro hr (Exists.intro _ (And.intro rfl ?_)))
  refine Exists.intro _ (And.intro hr (Exists.intro _ (And.intro rfl ?_)))
  refine Exists.intro _ (And.intro hr (Exists.intro _ (And.intro rfl ?_)))
  refine Exists.intro _ (And.intro hk (Exists.intro _ (And.intro rfl ?_)))
  refine Exists.intro _ (Exists.intro _ (And.intro e9 (And.intro (vp_in_nI h16 (by decide)) ?_)))
  refine Exists.intro _ (And.intro ((uph_ne (by omega)).trans hr) (Exists.intro _ (And.intro rfl ?_)))
  refine Exists.intro _ (And.intro ((uph_ne (by omega)).trans hr) (Exists.intro _ (And.intro rfl ?_)))
  refine Exists.intro _ (And.intro ((uph_ne (by omega)).trans hr) (Exists.intro _ (And.intro rfl ?_)))
  refine Exists.intro _ (Exists.intro _ (And.intro ((uph_ne (by omega)).trans e10) (And.intro (vp_in_nI h16 (by decide)) ?_)))
  refine Exists.intro _ (And.intro ((uph_ne (by omega)).trans ((uph_ne (by omega)).trans hr)) (Exists.intro _ (And.intro rfl ?_)))
  refine Exists.intro _ (And.intro ((uph_ne (by omega)).trans ((uph_ne (by omega)).trans hr)) (Exists.intro _ (And.intro rfl ?_)))
  refine Exists.intro _ (Exists.intro _ (And.intro ((uph_ne (by omega)).trans ((uph_ne (by omega)).trans e11)) (And.intro (vp_in_nI h16 (by decide)) ?_)))
  refine Exists.intro _ (And.intro ((uph_ne (by omega)).trans ((uph_ne (by omega)).trans ((uph_ne (by omega)).trans hr))) (Exists.intro _ (And.intro rfl ?_)))
  refine Exists.intro _ (And.intro ((uph_ne (by omega)).trans ((uph_ne (by omega)).trans ((uph_ne (by omega)).trans hr))) (And.intro (Nat.le_of_ble_eq_true rfl) (And.intro rfl (And.intro rfl ?_))))
  refine go_loc (lv' := [(0, .ref r), (1, .int (nI m))]) ⟨rfl, rfl, trivial⟩ ?_
  rw [nI_clamp (show td < 2 ^ 31 by omega)]
  refine Go.of hX.2 ck_X6_keepTold [] 5 ?_
  refine hP _ (fun x h1 h2 => by rw [uph_ne h1, uph_ne (by omega), uph_ne (by omega), uph_ne (by omega)]) (uph_eq.trans ?_) ⟨_, _, _, (uph_ne (by omega)).trans ((uph_ne (by omega)).trans ((uph_ne (by omega)).trans uph_eq)), (uph_ne (by omega)).trans ((uph_ne (by omega)).trans uph_eq), (uph_ne (by omega)).trans uph_eq, fun m2 hm2 => ?_⟩
  · show (some (Sum.inr (6, [.ref (r + 1), .ref (r + 4), .ref (r + 5), .ref (r + 6), .ref (r + 7), .ref (r + 8), .int (nI i), .int (nI s), .int (nI d), .int pl, .ref (r + 9), .ref (r + 10), .ref (r + 11), .int (nI td + 1), .int (nI a), .int (nI b), .int (nI la), .int (nI v), .int (nI c), .int (nI t)])) : Option AE) = _
    rw [← nI_succ]
    rfl
  · rw [List.length_append, List.length_singleton] at hm2
    rw [getD_app]
    by_cases c1 : m2 < L.length
    · rw [if_pos c1]
      have := q m2 c1
      refine ⟨(if_neg (by omega)).trans this.1, ?_, ?_⟩
      · rw [pk_un (by omega)]; exact this.2.1
      · rw [pk_un (by omega)]; exact this.2.2
    · have e : m2 = td := by omega
      rw [if_neg c1, if_pos (by omega), e]
      refine ⟨if_pos rfl, ?_, ?_⟩
      · rw [pk_us, ht]
      · rw [pk_us, hm]
theorem rdG_O {r i : Nat} {pl : Int32} {z : ZT} : rdO r i pl z = rdG r i pl (zS z) (zD z) (zI z + zR z + zL z) (zI z) (zR z) (zL z) (zV z) (zK z) (zT z) := rfl
set_option maxHeartbeats 8000000 in
theorem x_keepName {l : Launch} {G : GG} {h : AH} {nx : Nat} {Post : Option Value → AH → Nat → Prop} {r i j qt n p kj pj : Nat} {pl : Int32} {kd : Nat → Nat} {vl : Nat → Int64} {L : List Nat} (hX : XC G ∧ TX l G) (hr : h r = some (.inr (6, rdO r i pl (zz kd j)))) (hk : h (r + 1) = some (.inr (8, tkO (r + 2) qt n p kj pj (vl j)))) (hB : rwB h r kd vl L) (hL : L.length = zI (zz kd j) + zR (zz kd j) + zL (zz kd j)) (hz : zW (zz kd j)) (h0 : zS (zz kd j) ≠ 0) (hP : ∀ h1 : AH, (∀ x, x ≠ r → (x < r + 9 ∨ r + 12 ≤ x) → h1 x = h x) → h1 r = some (.inr (6, rdO r i pl (zA (zz kd j) 2 (zS (zz kd j))))) → rwB h1 r kd vl (if zN (zS (zz kd j)) = true then L ++ [j] else L) → Post none h1 nx) : Runs l G i_X6_keepName 0 0 [.ref r] h nx Post := by
  obtain ⟨w1, w2, w3, w4, w5, w6, w7, w8, _, _, _, _, _, _, _, w16, w17, w18⟩ := id hz
  have sne : ∀ q, q < 100 → zS (zz kd j) ≠ q → ¬ nI (zS (zz kd j)) = nI q := fun q hq z e => z ((nI_eq (by omega) (by omega)).mp e)
  unfold zA at hP
  rw [if_neg h0, if_pos rfl] at hP
  refine en_X6_keepName hX [109] 60 rfl ?_
  refine Exists.intro _ (And.intro hr (Exists.intro _ (And.intro rfl ?_)))
  by_cases c1 : zS (zz kd j) = 1
  · rw [if_pos c1, if_pos (by rw [c1]; rfl)] at hP
    have := w16 c1
    refine And.intro (fun cz => absurd (show nI (zS (zz kd j)) = nI 1 from by rw [c1]) cz) (fun _ => ?_)
    refine Exists.intro _ (And.intro hr (Exists.intro _ (And.intro rfl ?_)))
    refine Exists.intro _ (And.intro hr (Exists.intro 0 (Exists.intro 0 (And.intro (Nat.le_refl _) (And.intro (Nat.le_refl _) (x_keepTold (j := j) hX (hr.trans (by rw [rdG_O])) hk hB hL.symm (by omega) rfl (by unfold zNo; rw [if_pos c1]) (fun h1 y1 y2 y3 => ?_)))))))
    refine Exists.intro _ (And.intro y2 (Exists.intro _ (And.intro rfl ?_)))
    refine Exists.intro _ (And.intro y2 (And.intro (Nat.le_of_ble_eq_true rfl) (And.intro rfl (And.intro rfl ?_))))
    refine go_loc (lv' := [(0, .ref r)]) ⟨rfl, trivial⟩ ?_
    refine Go.of hX.2 ck_X6_keepName [] 5 ?_
    refine hP _ (fun x h1 h2 => (uph_ne h1).trans (y1 x h1 h2)) (uph_eq.trans ?_) (y3.ag (fun x _ _ => uph_ne (by omega)))
    show (some (Sum.inr (6, [.ref (r + 1), .ref (r + 4), .ref (r + 5), .ref (r + 6), .ref (r + 7), .ref (r + 8), .int (nI i), .int (nI (zS (zz kd j))), .int (nI (zD (zz kd j))), .int pl, .ref (r + 9), .ref (r + 10), .ref (r + 11), .int (nI (zI (zz kd j) + zR (zz kd j) + zL (zz kd j) + 1)), .int (nI (zI (zz kd j)) + 1), .int (nI (zR (zz kd j))), .int (nI (zL (zz kd j))), .int (nI (zV (zz kd j))), .int (nI (zK (zz kd j))), .int (nI (zT (zz kd j)))])) : Option AE) = _
    rw [← nI_succ, show zI (zz kd j) + zR (zz kd j) + zL (zz kd j) + 1 = (zI (zz kd j) + 1) + zR (zz kd j) + zL (zz kd j) by omega]
    rfl
  · rw [if_neg c1] at hP
    refine And.intro (fun _ => ?_) (fun cz => absurd cz (sne 1 (by decide) c1))
    refine Exists.intro _ (And.intro hr (Exists.intro _ (And.intro rfl ?_)))
    by_cases c2 : zS (zz kd j) = 3
    · rw [if_pos c2, if_pos (by rw [c2]; rfl)] at hP
      have := w17 c2
      refine And.intro (fun cz => absurd (show nI (zS (zz kd j)) = nI 3 from by rw [c2]) cz) (fun _ => ?_)
      refine Exists.intro _ (And.intro hr (Exists.intro _ (And.intro rfl ?_)))
      refine Exists.intro _ (And.intro hr (Exists.intro 0 (Exists.intro 0 (And.intro (Nat.le_refl _) (And.intro (Nat.le_refl _) (x_keepTold (j := j) hX (hr.trans (by rw [rdG_O])) hk hB hL.symm (by omega) rfl (by unfold zNo; rw [if_neg c1, if_pos c2]) (fun h1 y1 y2 y3 => ?_)))))))
      refine Exists.intro _ (And.intro y2 (Exists.intro _ (And.intro rfl ?_)))
      refine Exists.intro _ (And.intro y2 (And.intro (Nat.le_of_ble_eq_true rfl) (And.intro rfl (And.intro rfl ?_))))
      refine go_loc (lv' := [(0, .ref r)]) ⟨rfl, trivial⟩ ?_
      refine Go.of hX.2 ck_X6_keepName [] 5 ?_
      refine hP _ (fun x h1 h2 => (uph_ne h1).trans (y1 x h1 h2)) (uph_eq.trans ?_) (y3.ag (fun x _ _ => uph_ne (by omega)))
      show (some (Sum.inr (6, [.ref (r + 1), .ref (r + 4), .ref (r + 5), .ref (r + 6), .ref (r + 7), .ref (r + 8), .int (nI i), .int (nI (zS (zz kd j))), .int (nI (zD (zz kd j))), .int pl, .ref (r + 9), .ref (r + 10), .ref (r + 11), .int (nI (zI (zz kd j) + zR (zz kd j) + zL (zz kd j) + 1)), .int (nI (zI (zz kd j))), .int (nI (zR (zz kd j)) + 1), .int (nI (zL (zz kd j))), .int (nI (zV (zz kd j))), .int (nI (zK (zz kd j))), .int (nI (zT (zz kd j)))])) : Option AE) = _
      rw [← nI_succ, show zI (zz kd j) + zR (zz kd j) + zL (zz kd j) + 1 = zI (zz kd j) + (zR (zz kd j) + 1) + zL (zz kd j) by omega]
      rfl
    · rw [if_neg c2] at hP
      refine And.intro (fun _ => ?_) (fun cz => absurd cz (sne 3 (by decide) c2))
      refine Exists.intro _ (And.intro hr (Exists.intro _ (And.intro rfl ?_)))
      by_cases c3 : zS (zz kd j) = 7
      · rw [if_pos c3, if_pos (by rw [c3]; rfl)] at hP
        have := w18 c3
        refine And.intro (fun cz => absurd (show nI (zS (zz kd j)) = nI 7 from by rw [c3]) cz) (fun _ => ?_)
        refine Exists.intro _ (And.intro hr (Exists.intro _ (And.intro rfl ?_)))
        refine Exists.intro _ (And.intro hr (Exists.intro 0 (Exists.intro 0 (And.intro (Nat.le_refl _) (And.intro (Nat.le_refl _) (x_keepTold (j := j) hX (hr.trans (by rw [rdG_O])) hk hB hL.symm (by omega) rfl (by unfold zNo; rw [if_neg c1, if_neg c2]) (fun h1 y1 y2 y3 => ?_)))))))
        refine Exists.intro _ (And.intro y2 (Exists.intro _ (And.intro rfl ?_)))
        refine Exists.intro _ (And.intro y2 (And.intro (Nat.le_of_ble_eq_true rfl) (And.intro rfl (And.intro rfl ?_))))
        refine go_loc (lv' := [(0, .ref r)]) ⟨rfl, trivial⟩ ?_
        refine Go.of hX.2 ck_X6_keepName [] 5 ?_
        refine hP _ (fun x h1 h2 => (uph_ne h1).trans (y1 x h1 h2)) (uph_eq.trans ?_) (y3.ag (fun x _ _ => uph_ne (by omega)))
        show (some (Sum.inr (6, [.ref (r + 1), .ref (r + 4), .ref (r + 5), .ref (r + 6), .ref (r + 7), .ref (r + 8), .int (nI i), .int (nI (zS (zz kd j))), .int (nI (zD (zz kd j))), .int pl, .ref (r + 9), .ref (r + 10), .ref (r + 11), .int (nI (zI (zz kd j) + zR (zz kd j) + zL (zz kd j) + 1)), .int (nI (zI (zz kd j))), .int (nI (zR (zz kd j))), .int (nI (zL (zz kd j)) + 1), .int (nI (zV (zz kd j))), .int (nI (zK (zz kd j))), .int (nI (zT (zz kd j)))])) : Option AE) = _
        rw [← nI_succ, show zI (zz kd j) + zR (zz kd j) + zL (zz kd j) + 1 = zI (zz kd j) + zR (zz kd j) + (zL (zz kd j) + 1) by omega]
        rfl
      · have nN : ¬ zN (zS (zz kd j)) = true := by unfold zN; rw [decide_eq_false c1, decide_eq_false c2, decide_eq_false c3]; decide
        rw [if_neg c3, if_neg nN] at hP
        refine And.intro (fun _ => ?_) (fun cz => absurd cz (sne 7 (by decide) c3))
        refine Exists.intro _ (And.intro hr (Exists.intro _ (And.intro rfl ?_)))
        refine Exists.intro _ (And.intro hr (Exists.intro 0 (Exists.intro 0 (And.intro (Nat.le_refl _) (And.intro (Nat.le_refl _) (x_isContact hX hr rfl w1 w3 ?_))))))
        cases cc : zC (zz kd j) with
        | false =>
          have nC : ¬ zC (zz kd j) = true := by rw [cc]; decide
          rw [if_neg nC] at hP
          unfold zC at cc
          rw [cc]
          refine And.intro (fun _ => ?_) (fun cz => by first | exact absurd cz (by decide) | exact absurd (by decide) cz)
          refine go_loc (lv' := [(0, .ref r)]) ⟨rfl, trivial⟩ ?_
          refine Go.of hX.2 ck_X6_keepName [] 5 ?_
          exact hP h (fun _ _ _ => rfl) hr hB
        | true =>
          rw [if_pos cc] at hP
          unfold zC at cc
          rw [cc]
          refine And.intro (fun cz => by first | exact absurd cz (by decide) | exact absurd (by decide) cz) (fun _ => ?_)
          refine Exists.intro _ (And.intro hr (Exists.intro _ (And.intro rfl ?_)))
          refine Exists.intro _ (And.intro hr (And.intro (Nat.le_of_ble_eq_true rfl) (And.intro rfl (And.intro rfl ?_))))
          refine go_loc (lv' := [(0, .ref r)]) ⟨rfl, trivial⟩ ?_
          refine Go.of hX.2 ck_X6_keepName [] 5 ?_
          refine hP _ (fun x h1 h2 => uph_ne h1) (uph_eq.trans ?_) (hB.ag (fun x _ _ => uph_ne (by omega)))
          show (some (Sum.inr (6, [.ref (r + 1), .ref (r + 4), .ref (r + 5), .ref (r + 6), .ref (r + 7), .ref (r + 8), .int (nI i), .int (nI (zS (zz kd j))), .int (nI (zD (zz kd j))), .int pl, .ref (r + 9), .ref (r + 10), .ref (r + 11), .int (nI (zI (zz kd j) + zR (zz kd j) + zL (zz kd j))), .int (nI (zI (zz kd j))), .int (nI (zR (zz kd j))), .int (nI (zL (zz kd j))), .int (nI (zV (zz kd j))), .int (nI (zK (zz kd j)) + 1), .int (nI (zT (zz kd j)))])) : Option AE) = _
          rw [← nI_succ]
          rfl
set_option maxHeartbeats 8000000 in
theorem x_keepToken {l : Launch} {G : GG} {h : AH} {nx : Nat} {Post : Option Value → AH → Nat → Prop} {r j qt n p : Nat} {kd pf : Nat → Nat} {pl : Int32} {vl : Nat → Int64} {cf : Nat → Int32} (hX : XC G ∧ TX l G) (hr : h r = some (.inr (6, rdO r j pl (zz kd j)))) (hk : h (r + 1) = some (.inr (8, tkO (r + 2) qt n p (kd j) (pf j) (vl j)))) (hA : rwA h r j kd pf vl cf) (hB : rwB h r kd vl (toL kd j)) (hkd : ∀ i, kd i < 19) (hcf : cf j = nI (100 + kd j)) (hL : (toL kd j).length = zI (zz kd j) + zR (zz kd j) + zL (zz kd j)) (hz : zW (zz kd j)) (h400 : j < 400) (hN : zN (zS (zz kd j)) = true → kd j = 2) (h18 : kd j = 18 → 0 < zD (zz kd j)) (hP : ∀ h1 : AH, (∀ x, x ≠ r → (x < r + 4 ∨ r + 12 ≤ x) → h1 x = h x) → h1 r = some (.inr (6, rdO r (j + 1) pl (zA (zz kd j) (kd j) (zS (zz kd j))))) → rwA h1 r (j + 1) kd pf vl cf → rwB h1 r kd vl (toL kd (j + 1)) → Post none h1 nx) : Runs l G i_X6_keepToken 0 0 [.ref r, .int (nI (kd j))] h nx Post := by
  obtain ⟨w1, w2, w3, w4, w5, w6, w7, w8, _, _, _, _, _, _, _, w16, w17, w18⟩ := id hz
  have hkj := hkd j
  have kne : ∀ q, q < 100 → kd j ≠ q → ¬ nI (kd j) = nI q := fun q hq z e => z ((nI_eq (by omega) (by omega)).mp e)
  obtain ⟨g4, g5, g6, g8, g7, e4, e5, e6, e7, e8, q⟩ := hA
  rw [toL_s] at hP
  refine en_X6_keepToken hX [78] 80 rfl ?_
  refine Exists.intro _ (And.intro hr (Exists.intro _ (And.intro rfl ?_)))
  refine Exists.intro _ (And.intro hr (Exists.intro _ (And.intro rfl ?_)))
  refine Exists.intro _ (Exists.intro _ (And.intro e4 (And.intro (vp_in_nI h400 (by decide)) ?_)))
  refine Exists.intro _ (And.intro ((uph_ne (by omega)).trans hr) (Exists.intro _ (And.intro rfl ?_)))
  refine Exists.intro _ (And.intro ((uph_ne (by omega)).trans hr) (Exists.intro _ (And.intro rfl ?_)))
  refine Exists.intro _ (And.intro ((uph_ne (by omega)).trans hr) (Exists.intro _ (And.intro rfl ?_)))
  refine Exists.intro _ (Exists.intro _ (And.intro ((uph_ne (by omega)).trans e5) (And.intro (vp_in_nI h400 (by decide)) ?_)))
  refine Exists.intro _ (And.intro ((uph_ne (by omega)).trans ((uph_ne (by omega)).trans hr)) (Exists.intro _ (And.intro rfl ?_)))
  refine Exists.intro _ (And.intro ((uph_ne (by omega)).trans ((uph_ne (by omega)).trans hr)) (Exists.intro _ (And.intro rfl ?_)))
  refine Exists.intro _ (And.intro ((uph_ne (by omega)).trans ((uph_ne (by omega)).trans hr)) (Exists.intro _ (And.intro rfl ?_)))
  refine Exists.intro _ (And.intro ((uph_ne (by omega)).trans ((uph_ne (by omega)).trans hk)) (Exists.intro _ (And.intro rfl ?_)))
  refine Exists.intro _ (Exists.intro _ (And.intro ((uph_ne (by omega)).trans ((uph_ne (by omega)).trans e6)) (And.intro (vp_in_nI h400 (by decide)) ?_)))
  refine Exists.intro _ (And.intro ((uph_ne (by omega)).trans ((uph_ne (by omega)).trans ((uph_ne (by omega)).trans hr))) (Exists.intro _ (And.intro rfl ?_)))
  refine Exists.intro _ (And.intro ((uph_ne (by omega)).trans ((uph_ne (by omega)).trans ((uph_ne (by omega)).trans hr))) (Exists.intro _ (And.intro rfl ?_)))
  refine Exists.intro _ (And.intro ((uph_ne (by omega)).trans ((uph_ne (by omega)).trans ((uph_ne (by omega)).trans hr))) (Exists.intro _ (And.intro rfl ?_)))
  refine Exists.intro _ (And.intro ((uph_ne (by omega)).trans ((uph_ne (by omega)).trans ((uph_ne (by omega)).trans hk))) (Exists.intro _ (And.intro rfl ?_)))
  refine Exists.intro _ (Exists.intro _ (And.intro ((uph_ne (by omega)).trans ((uph_ne (by omega)).trans ((uph_ne (by omega)).trans e7))) (And.intro (vp_in_nI h400 (by decide)) ?_)))
  refine Exists.intro _ (And.intro ((uph_ne (by omega)).trans ((uph_ne (by omega)).trans ((uph_ne (by omega)).trans ((uph_ne (by omega)).trans hr)))) (Exists.intro _ (And.intro rfl ?_)))
  refine Exists.intro _ (And.intro ((uph_ne (by omega)).trans ((uph_ne (by omega)).trans ((uph_ne (by omega)).trans ((uph_ne (by omega)).trans hr)))) (Exists.intro _ (And.intro rfl ?_)))
  refine Exists.intro _ (Exists.intro _ (And.intro ((uph_ne (by omega)).trans ((uph_ne (by omega)).trans ((uph_ne (by omega)).trans ((uph_ne (by omega)).trans e8)))) (And.intro (vp_in_nI h400 (by decide)) ?_)))
  have hr5 : uph (uph (uph (uph (uph h (r + 4) (.inl (0, 400, .inl (upd g4 (nI j).toNatClampNeg (nI (kd j)))))) (r + 5) (.inl (0, 400, .inl (upd g5 (nI j).toNatClampNeg (nI (zS (zz kd j))))))) (r + 6) (.inl (0, 400, .inl (upd g6 (nI j).toNatClampNeg (nI (pf j)))))) (r + 7) (.inl (1, 400, .inr (.inl (vp_updL g7 (nI j).toNatClampNeg (vl j)))))) (r + 8) (.inl (0, 400, .inl (upd g8 (nI j).toNatClampNeg (100 + nI (kd j))))) r = some (.inr (6, rdO r j pl (zz kd j))) := by rw [uph_ne (by omega), uph_ne (by omega), uph_ne (by omega), uph_ne (by omega), uph_ne (by omega)]; exact hr
  refine Exists.intro _ (And.intro hr5 (Exists.intro _ (And.intro rfl ?_)))
  refine Exists.intro _ (And.intro hr5 (And.intro (Nat.le_of_ble_eq_true rfl) (And.intro rfl (And.intro rfl ?_))))
  refine go_loc (lv' := [(0, .ref r), (1, .int (nI (kd j)))]) ⟨rfl, rfl, trivial⟩ ?_
  have main : ∀ h2 : AH, (∀ x, x ≠ r → (x < r + 4 ∨ r + 9 ≤ x) → h2 x = h x) → h2 r = some (.inr (6, rdO r (j + 1) pl (zz kd j))) → rwA h2 r (j + 1) kd pf vl cf → Go l G 6 s_X6_keepToken 0 0 Post 78 [(0, .ref r), (1, .int (nI (kd j)))] [] h2 nx 0 0 := by
    intro h2 f2 r2 a2
    have b2 : rwB h2 r kd vl (toL kd j) := hB.ag (fun x _ _ => f2 x (by omega) (by omega))
    have k2 := (f2 (r + 1) (by omega) (by omega)).trans hk
    refine Go.of hX.2 ck_X6_keepToken [156] 60 ?_
    refine Exists.intro _ (And.intro r2 (Exists.intro _ (And.intro rfl ?_)))
    by_cases c0 : zS (zz kd j) = 0
    · rw [if_neg (by rw [c0]; decide)] at hP
      unfold zA at hP
      rw [if_pos c0] at hP
      refine And.intro (fun cz => absurd (show nI (zS (zz kd j)) = 0 from by rw [c0]; rfl) cz) (fun _ => ?_)
      refine Exists.intro _ (And.intro r2 (And.intro (Nat.le_of_ble_eq_true rfl) (And.intro rfl (And.intro rfl ?_))))
      by_cases c10 : kd j = 10
      · rw [if_pos c10] at hP
        refine And.intro (fun cz => absurd (show nI (kd j) = nI 10 from by rw [c10]) cz) (fun _ => ?_)
        refine Exists.intro _ (And.intro uph_eq (Exists.intro _ (And.intro rfl ?_)))
        refine Exists.intro _ (And.intro uph_eq (And.intro (Nat.le_of_ble_eq_true rfl) (And.intro rfl (And.intro rfl ?_))))
        refine go_loc (lv' := [(0, .ref r), (1, .int (nI (kd j)))]) ⟨rfl, rfl, trivial⟩ ?_
        refine Go.of hX.2 ck_X6_keepToken [] 5 ?_
        refine hP _ (fun x h1 h2 => (uph_ne h1).trans ((uph_ne h1).trans (f2 x h1 (by omega)))) (uph_eq.trans ?_) (a2.ag (fun x _ _ => (uph_ne (by omega)).trans (uph_ne (by omega)))) (b2.ag (fun x _ _ => (uph_ne (by omega)).trans (uph_ne (by omega))))
        show (some (Sum.inr (6, [.ref (r + 1), .ref (r + 4), .ref (r + 5), .ref (r + 6), .ref (r + 7), .ref (r + 8), .int (nI (j + 1)), .int (nI (zS (zz kd j))), .int (nI (zD (zz kd j))), .int pl, .ref (r + 9), .ref (r + 10), .ref (r + 11), .int (nI (zI (zz kd j) + zR (zz kd j) + zL (zz kd j))), .int (nI (zI (zz kd j))), .int (nI (zR (zz kd j))), .int (nI (zL (zz kd j))), .int (nI (zV (zz kd j)) + 1), .int (nI (zK (zz kd j))), .int (nI (kd j))])) : Option AE) = _
        rw [← nI_succ (zV (zz kd j))]
        rfl
      · rw [if_neg c10] at hP
        refine And.intro (fun _ => ?_) (fun cz => absurd cz (kne 10 (by decide) c10))
        refine go_loc (lv' := [(0, .ref r), (1, .int (nI (kd j)))]) ⟨rfl, rfl, trivial⟩ ?_
        refine Go.of hX.2 ck_X6_keepToken [] 5 ?_
        exact hP _ (fun x h1 h2 => (uph_ne h1).trans (f2 x h1 (by omega))) uph_eq (a2.ag (fun x _ _ => uph_ne (by omega))) (b2.ag (fun x _ _ => uph_ne (by omega)))
    · refine And.intro (fun _ => ?_) (fun cz => absurd cz (fun z => c0 ((nI_eq (by omega) (by decide)).mp (show nI (zS (zz kd j)) = nI 0 from z))))
      by_cases c2 : kd j = 2
      · rw [c2] at hP
        refine And.intro (fun cz => absurd (show nI (kd j) = nI 2 from by rw [c2]) cz) (fun _ => ?_)
        refine Exists.intro _ (And.intro r2 (Exists.intro 0 (Exists.intro 0 (And.intro (Nat.le_refl _) (And.intro (Nat.le_refl _) (x_keepName hX r2 k2 b2 hL hz c0 (fun h3 y1 y2 y3 => ?_)))))))
        refine go_loc (lv' := [(0, .ref r), (1, .int (nI (kd j)))]) ⟨rfl, rfl, trivial⟩ ?_
        refine Go.of hX.2 ck_X6_keepToken [] 5 ?_
        exact hP h3 (fun x h1 h2 => (y1 x h1 (by omega)).trans (f2 x h1 (by omega))) y2 (a2.ag (fun x _ _ => y1 x (by omega) (by omega))) y3
      · rw [if_neg (fun z => c2 (hN z))] at hP
        unfold zA at hP
        rw [if_neg c0, if_neg c2] at hP
        refine And.intro (fun _ => ?_) (fun cz => absurd cz (kne 2 (by decide) c2))
        by_cases c3 : kd j = 17
        · rw [if_pos c3] at hP
          refine And.intro (fun cz => absurd (show nI (kd j) = nI 17 from by rw [c3]) cz) (fun _ => ?_)
          refine Exists.intro _ (And.intro r2 (Exists.intro _ (And.intro rfl ?_)))
          refine Exists.intro _ (And.intro r2 (And.intro (Nat.le_of_ble_eq_true rfl) (And.intro rfl (And.intro rfl ?_))))
          refine go_loc (lv' := [(0, .ref r), (1, .int (nI (kd j)))]) ⟨rfl, rfl, trivial⟩ ?_
          refine Go.of hX.2 ck_X6_keepToken [] 5 ?_
          refine hP _ (fun x h1 h2 => (uph_ne h1).trans (f2 x h1 (by omega))) (uph_eq.trans ?_) (a2.ag (fun x _ _ => uph_ne (by omega))) (b2.ag (fun x _ _ => uph_ne (by omega)))
          show (some (Sum.inr (6, [.ref (r + 1), .ref (r + 4), .ref (r + 5), .ref (r + 6), .ref (r + 7), .ref (r + 8), .int (nI (j + 1)), .int (nI (zS (zz kd j))), .int (nI (zD (zz kd j)) + 1), .int pl, .ref (r + 9), .ref (r + 10), .ref (r + 11), .int (nI (zI (zz kd j) + zR (zz kd j) + zL (zz kd j))), .int (nI (zI (zz kd j))), .int (nI (zR (zz kd j))), .int (nI (zL (zz kd j))), .int (nI (zV (zz kd j))), .int (nI (zK (zz kd j))), .int (nI (zT (zz kd j)))])) : Option AE) = _
          rw [← nI_succ (zD (zz kd j))]
          rfl
        · rw [if_neg c3] at hP
          refine And.intro (fun _ => ?_) (fun cz => absurd cz (kne 17 (by decide) c3))
          by_cases c4 : kd j = 18
          · rw [if_pos c4] at hP
            refine And.intro (fun cz => absurd (show nI (kd j) = nI 18 from by rw [c4]) cz) (fun _ => ?_)
            refine Exists.intro _ (And.intro r2 (Exists.intro _ (And.intro rfl ?_)))
            refine Exists.intro _ (And.intro r2 (And.intro (Nat.le_of_ble_eq_true rfl) (And.intro rfl (And.intro rfl ?_))))
            refine go_loc (lv' := [(0, .ref r), (1, .int (nI (kd j)))]) ⟨rfl, rfl, trivial⟩ ?_
            refine Go.of hX.2 ck_X6_keepToken [] 5 ?_
            refine hP _ (fun x h1 h2 => (uph_ne h1).trans (f2 x h1 (by omega))) (uph_eq.trans ?_) (a2.ag (fun x _ _ => uph_ne (by omega))) (b2.ag (fun x _ _ => uph_ne (by omega)))
            show (some (Sum.inr (6, [.ref (r + 1), .ref (r + 4), .ref (r + 5), .ref (r + 6), .ref (r + 7), .ref (r + 8), .int (nI (j + 1)), .int (nI (zS (zz kd j))), .int (nI (zD (zz kd j)) - nI 1), .int pl, .ref (r + 9), .ref (r + 10), .ref (r + 11), .int (nI (zI (zz kd j) + zR (zz kd j) + zL (zz kd j))), .int (nI (zI (zz kd j))), .int (nI (zR (zz kd j))), .int (nI (zL (zz kd j))), .int (nI (zV (zz kd j))), .int (nI (zK (zz kd j))), .int (nI (zT (zz kd j)))])) : Option AE) = _
            rw [nI_sub (h18 c4)]
            rfl
          · rw [if_neg c4] at hP
            refine And.intro (fun _ => ?_) (fun cz => absurd cz (kne 18 (by decide) c4))
            refine go_loc (lv' := [(0, .ref r), (1, .int (nI (kd j)))]) ⟨rfl, rfl, trivial⟩ ?_
            refine Go.of hX.2 ck_X6_keepToken [] 5 ?_
            exact hP h2 (fun x h1 h2 => f2 x h1 (by omega)) r2 a2 b2
  refine main _ (fun x h1 h2 => by rw [uph_ne h1, uph_ne (by omega), uph_ne (by omega), uph_ne (by omega), uph_ne (by omega), uph_ne (by omega)]) (uph_eq.trans ?_) ⟨_, _, _, _, _, by rw [uph_ne (by omega), uph_ne (by omega), uph_ne (by omega), uph_ne (by omega), uph_ne (by omega)]; exact uph_eq, by rw [uph_ne (by omega), uph_ne (by omega), uph_ne (by omega), uph_ne (by omega)]; exact uph_eq, by rw [uph_ne (by omega), uph_ne (by omega), uph_ne (by omega)]; exact uph_eq, by rw [uph_ne (by omega), uph_ne (by omega)]; exact uph_eq, by rw [uph_ne (by omega)]; exact uph_eq, fun x hx => ?_⟩
  · show (some (Sum.inr (6, [.ref (r + 1), .ref (r + 4), .ref (r + 5), .ref (r + 6), .ref (r + 7), .ref (r + 8), .int (nI j + 1), .int (nI (zS (zz kd j))), .int (nI (zD (zz kd j))), .int pl, .ref (r + 9), .ref (r + 10), .ref (r + 11), .int (nI (zI (zz kd j) + zR (zz kd j) + zL (zz kd j))), .int (nI (zI (zz kd j))), .int (nI (zR (zz kd j))), .int (nI (zL (zz kd j))), .int (nI (zV (zz kd j))), .int (nI (zK (zz kd j))), .int (nI (zT (zz kd j)))])) : Option AE) = _
    rw [← nI_succ]
    rfl
  · rw [nI_clamp (show j < 2 ^ 31 by omega)]
    by_cases c1 : x = j
    · rw [c1, pk_us, pk_us, pk_us, pk_us]
      exact ⟨rfl, rfl, rfl, if_pos rfl, (nI_add 100 (kd j)).trans hcf.symm⟩
    · rw [pk_un c1, pk_un c1, pk_un c1, pk_un c1]
      have := q x (by omega)
      exact ⟨this.1, this.2.1, this.2.2.1, (if_neg c1).trans this.2.2.2.1, this.2.2.2.2⟩
