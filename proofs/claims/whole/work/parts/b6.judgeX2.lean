/-! x judges a text -/
set_option maxHeartbeats 8000000 in
theorem x_faultOfToken {l : Launch} {G : GG} {h : AH} {nx : Nat} {Post : Option Value → AH → Nat → Prop} {r i n N : Nat} {pl : Int32} {z : ZT} {kd pf : Nat → Nat} {vl : Nat → Int64} (hX : XC G ∧ TX l G) (hr : h r = some (.inr (6, rdO r N pl z))) (hA : rwA h r N kd pf vl (cfJ kd vl N i)) (hB : rwB h r kd vl (toL kd N)) (hi : i < N) (hN : N ≤ 400) (hn : n = (toL kd i).length) (hkd : ∀ i, kd i < 19) (hok : ∀ j, j < N → zok kd j) (hL : (toL kd N).length = zI z + zR z + zL z) (hL2 : (toL kd N).length ≤ 16) (hP : ∀ h1 : AH, (∀ x, x ≠ r + 8 → h1 x = h x) → rwA h1 r N kd pf vl (cfJ kd vl N (i + 1)) → Post (some (.int (nI (fX kd vl N i)))) h1 nx) : Runs l G i_X6_faultOfToken 0 0 [.ref r, .int (nI i), .int (nI n)] h nx Post := by
  have hw := zW_all hkd (fun j hj => hok j (show j < N by omega)) (i := i)
  have hTT : ∀ M, M ≤ N → ∀ t ∈ toL kd M, zT (zz kd t) < 19 := fun M hM t ht => by
    have h1 : t ∈ List.range M := (List.mem_filter.mp ht).1
    have h2 := List.mem_range.mp h1
    exact (zW_all hkd (fun j hj => hok j (show j < N by omega)) (i := t)).2.2.1
  obtain ⟨M, eM⟩ := toL_pre kd (show i ≤ N by omega)
  have hBi : rwB h r kd vl (toL kd i) := rwB.pre (M := M) (by rw [← eM]; exact hB)
  have hLi : (toL kd i).length ≤ 16 := by rw [eM, List.length_append] at hL2; omega
  have hkk := hkd i
  obtain ⟨_, ⟨q0, hq0⟩, _⟩ := hok i hi
  obtain ⟨g4, g5, g6, g8, g7, e4, e5, e6, e7, e8, q⟩ := id hA
  obtain ⟨k4, k5, k6, k7, k8⟩ := q i hi
  have same : zQ kd i = false → ∀ f, fX kd vl N i = f → Post (some (.int (nI f))) h nx := fun hz f ef => by
    rw [← ef]
    exact hP h (fun _ _ => rfl) (by rw [cfJ_no hz]; exact hA)
  have hs13 := hw.1
  have sne : ∀ j, j < 100 → zS (zz kd i) ≠ j → ¬ nI (zS (zz kd i)) = nI j := fun j hj z e => z ((nI_eq (by omega) (by omega)).mp e)
  refine en_X6_faultOfToken hX [] 80 rfl ?_
  refine Exists.intro _ (And.intro hr (Exists.intro _ (And.intro rfl ?_)))
  refine Exists.intro _ (Exists.intro _ (And.intro e5 (And.intro (vp_in_nI (show i < 400 by omega) (by decide)) ?_)))
  rw [nI_clamp (show i < 2 ^ 31 by omega), k5]
  by_cases c5 : zS (zz kd i) = 5
  · have hz : zQ kd i = false := by unfold zQ; rw [c5]; exact Bool.and_false _
    refine And.intro (fun cz => absurd (show nI (zS (zz kd i)) = nI 5 from by rw [c5]) cz) (fun _ => ?_)
    refine Exists.intro _ (And.intro hr (Exists.intro _ (And.intro rfl ?_)))
    refine Exists.intro _ (Exists.intro _ (And.intro e7 (And.intro (vp_in_nI (show i < 400 by omega) (by decide)) ?_)))
    rw [nI_clamp (show i < 2 ^ 31 by omega), k7]
    by_cases c9 : 9 < vl i
    · have hP := same hz 5 (by unfold fX; rw [if_pos c5, if_pos c9])
      refine And.intro (fun cz => absurd cz (fun z => absurd (lcmp_gt.mpr c9) (Int32.not_lt.mpr z))) (fun _ => ?_)
      exact And.intro rfl (hP)
    · have hP := same hz 0 (by unfold fX; rw [if_pos c5, if_neg c9])
      refine And.intro (fun _ => ?_) (fun cz => absurd (Int32.not_lt.mp (fun z => c9 (lcmp_gt.mp z))) cz)
      exact And.intro rfl (hP)
  · refine And.intro (fun _ => ?_) (fun cz => absurd cz (sne 5 (by decide) c5))
    refine Exists.intro _ (And.intro hr (Exists.intro _ (And.intro rfl ?_)))
    refine Exists.intro _ (Exists.intro _ (And.intro e4 (And.intro (vp_in_nI (show i < 400 by omega) (by decide)) ?_)))
    rw [nI_clamp (show i < 2 ^ 31 by omega), k4]
    by_cases c2 : kd i = 2
    · refine And.intro (fun _ => ?_) (fun cz => absurd (show nI (kd i) = nI 2 from by rw [c2]) cz)
      refine Exists.intro 0 (Exists.intro 0 (And.intro (Nat.le_refl _) (And.intro (Nat.le_refl _) (x_tellsName hX hs13 ?_))))
      cases cN : zN (zS (zz kd i)) with
      | true =>
        have hz : zQ kd i = false := by
          unfold zQ
          unfold zN at cN
          cases a : decide (zS (zz kd i) = 10) with
          | true => rw [of_decide_eq_true a] at cN; exact absurd cN (by decide)
          | false =>
            cases b : decide (zS (zz kd i) = 11) with
            | true => rw [of_decide_eq_true b] at cN; exact absurd cN (by decide)
            | false => exact Bool.and_false _
        refine And.intro (fun cz => by first | exact absurd cz (by decide) | exact absurd (by decide) cz) (fun _ => ?_)
        refine Exists.intro _ (And.intro hr (Exists.intro _ (And.intro rfl ?_)))
        refine Exists.intro _ (Exists.intro _ (And.intro e7 (And.intro (vp_in_nI (show i < 400 by omega) (by decide)) ?_)))
        rw [nI_clamp (show i < 2 ^ 31 by omega), k7]
        refine Exists.intro _ (And.intro hr (Exists.intro 0 (Exists.intro 0 (And.intro (Nat.le_refl _) (And.intro (Nat.le_refl _) (x_isTold hX hr hBi hn hLi ?_))))))
        cases ca : (toL kd i).any (fun t => decide (vl t = vl i)) with
        | true =>
          have hP := same hz 3 (by unfold fX; rw [if_neg c5, if_neg (fun z => z c2), if_pos cN, if_pos ca])
          refine And.intro (fun cz => by first | exact absurd cz (by decide) | exact absurd (by decide) cz) (fun _ => ?_)
          exact And.intro rfl (hP)
        | false =>
          have hP := same hz 0 (by unfold fX; rw [if_neg c5, if_neg (fun z => z c2), if_pos cN, if_neg (by rw [ca]; decide)])
          refine And.intro (fun _ => ?_) (fun cz => by first | exact absurd cz (by decide) | exact absurd (by decide) cz)
          exact And.intro rfl (hP)
      | false =>
        refine And.intro (fun _ => ?_) (fun cz => by first | exact absurd cz (by decide) | exact absurd (by decide) cz)
        by_cases c8 : zS (zz kd i) = 8
        · have hz : zQ kd i = false := by unfold zQ; rw [c8]; exact Bool.and_false _
          refine And.intro (fun cz => absurd (show nI (zS (zz kd i)) = nI 8 from by rw [c8]) cz) (fun _ => ?_)
          refine Exists.intro _ (And.intro hr (Exists.intro _ (And.intro rfl ?_)))
          refine Exists.intro _ (Exists.intro _ (And.intro e7 (And.intro (vp_in_nI (show i < 400 by omega) (by decide)) ?_)))
          rw [nI_clamp (show i < 2 ^ 31 by omega), k7]
          refine Exists.intro _ (And.intro hr (Exists.intro 0 (Exists.intro 0 (And.intro (Nat.le_refl _) (And.intro (Nat.le_refl _) (x_greenOf hX hr hBi hn hLi (hTT i (by omega)) ?_))))))
          cases cg : zG kd vl (toL kd i) (vl i) with
          | none =>
            have hP := same hz 4 (by unfold fX; rw [if_neg c5, if_neg (fun z => z c2), if_neg (by rw [cN]; decide), if_pos c8, cg]; rfl)
            refine And.intro (fun cz => absurd cz (show ¬ (0 : Int32) ≤ -1 from by decide)) (fun _ => ?_)
            exact And.intro rfl (hP)
          | some g =>
            have hP := same hz 0 (by unfold fX; rw [if_neg c5, if_neg (fun z => z c2), if_neg (by rw [cN]; decide), if_pos c8, cg]; rfl)
            have hg : g ≤ 6 := by
              unfold zG at cg
              cases hf : (toL kd i).find? (zGp kd vl (vl i)) with
              | none => rw [hf] at cg; cases cg
              | some t =>
                rw [hf] at cg
                cases cg
                have h1 : t ∈ List.range i := (List.mem_filter.mp (List.mem_of_find?_eq_some hf)).1
                have h2 := List.mem_range.mp h1
                have h3 := zW_all hkd (fun j hj => hok j (show j < N by omega)) (i := t)
                obtain ⟨_, _, _, b1, b2, b3, _⟩ := h3
                show zNo (zz kd t) ≤ 6
                unfold zNo
                split
                · omega
                · split <;> omega
            refine And.intro (fun _ => ?_) (fun cz => absurd ((show (0 : Int32) ≤ nI g from nI_pos' (by omega))) cz)
            exact And.intro rfl (hP)
        · refine And.intro (fun _ => ?_) (fun cz => absurd cz (sne 8 (by decide) c8))
          have hz : zQ kd i = true := by
            have := zB_2 hs13 ⟨q0, by rw [← c2]; exact hq0⟩
            unfold zQ
            rw [decide_eq_true c2, Bool.true_and]
            unfold zN at cN
            have n1 : zS (zz kd i) ≠ 1 := fun z => by rw [z] at cN; exact absurd cN (by decide)
            have n3 : zS (zz kd i) ≠ 3 := fun z => by rw [z] at cN; exact absurd cN (by decide)
            have n7 : zS (zz kd i) ≠ 7 := fun z => by rw [z] at cN; exact absurd cN (by decide)
            rcases this with z | z | z | z | z | z
            · exact absurd z n1
            · exact absurd z n3
            · exact absurd z n7
            · exact absurd z c8
            · rw [decide_eq_true z]; rfl
            · rw [decide_eq_true z, Bool.or_true]
          have ef : fX kd vl N i = (if (zVr kd vl (toL kd N) (vl i)).isNone = true then 4 else 0) := by unfold fX; rw [if_neg c5, if_neg (fun z => z c2), if_neg (by rw [cN]; decide), if_neg c8]
          rw [ef] at hP
          refine Exists.intro _ (And.intro hr (Exists.intro _ (And.intro rfl ?_)))
          refine Exists.intro _ (Exists.intro _ (And.intro e7 (And.intro (vp_in_nI (show i < 400 by omega) (by decide)) ?_)))
          rw [nI_clamp (show i < 2 ^ 31 by omega), k7]
          refine Exists.intro _ (And.intro hr (Exists.intro 0 (Exists.intro 0 (And.intro (Nat.le_refl _) (And.intro (Nat.le_refl _) (x_variableOf hX hr hB hL hL2 (hTT N (Nat.le_refl N)) ?_))))))
          refine Exists.intro _ (And.intro hr (Exists.intro _ (And.intro rfl ?_)))
          refine Exists.intro _ (Exists.intro _ (And.intro e8 (And.intro (vp_in_nI (show i < 400 by omega) (by decide)) ?_)))
          rw [nI_clamp (show i < 2 ^ 31 by omega)]
          have hP := hP (uph h (r + 8) (.inl (0, 400, .inl (upd g8 i (zBI (zVr kd vl (toL kd N) (vl i))))))) (fun x hx => uph_ne hx) ⟨g4, g5, g6, _, g7, (uph_ne (by omega)).trans e4, (uph_ne (by omega)).trans e5, (uph_ne (by omega)).trans e6, (uph_ne (by omega)).trans e7, uph_eq, fun j hj => by
            obtain ⟨a1, a2, a3, a4, a5⟩ := q j hj
            refine ⟨a1, a2, a3, a4, ?_⟩
            by_cases e : j = i
            · rw [e, pk_us]
              unfold cfJ
              rw [if_pos ⟨Nat.lt_succ_self i, hz⟩]
            · rw [pk_un e, a5]
              unfold cfJ
              by_cases c : j < i ∧ zQ kd j = true
              · rw [if_pos c, if_pos ⟨by omega, c.2⟩]
              · rw [if_neg c, if_neg (fun z => c ⟨by omega, z.2⟩)]⟩
          cases cv : zVr kd vl (toL kd N) (vl i) with
          | none =>
            rw [cv] at hP
            refine And.intro (fun cz => absurd cz (show ¬ (0 : Int32) ≤ -1 from by decide)) (fun _ => ?_)
            exact And.intro rfl (hP)
          | some g =>
            have hg : g ≤ 12 := by
              unfold zVr at cv
              cases hf : (toL kd N).find? (zVp kd vl (vl i)) with
              | none => rw [hf] at cv; cases cv
              | some t =>
                rw [hf] at cv
                cases cv
                have h1 : t ∈ List.range N := (List.mem_filter.mp (List.mem_of_find?_eq_some hf)).1
                have h2 := List.mem_range.mp h1
                have h3 := zW_all hkd (fun j hj => hok j (show j < N by omega)) (i := t)
                obtain ⟨_, _, _, b1, b2, b3, _⟩ := h3
                have : zNo (zz kd t) ≤ 6 := by
                  unfold zNo
                  split
                  · omega
                  · split <;> omega
                show zVf kd t ≤ 12
                unfold zVf
                split <;> omega
            rw [cv] at hP
            refine And.intro (fun _ => ?_) (fun cz => absurd ((show (0 : Int32) ≤ nI g from nI_pos' (by omega))) cz)
            exact And.intro rfl (hP)
    · have hz : zQ kd i = false := by unfold zQ; rw [decide_eq_false c2]; rfl
      have hP := same hz 0 (by unfold fX; rw [if_neg c5, if_pos c2])
      refine And.intro (fun cz => absurd cz (fun z => c2 ((nI_eq (by omega) (by decide)).mp (show nI (kd i) = nI 2 from z)))) (fun _ => ?_)
      exact And.intro rfl (hP)
set_option maxHeartbeats 8000000 in
theorem x_judgeNames {l : Launch} {G : GG} {h : AH} {nx : Nat} {Post : Option Value → AH → Nat → Prop} {r N : Nat} {pl : Int32} {z : ZT} {kd pf : Nat → Nat} {vl : Nat → Int64} (hX : XC G ∧ TX l G) (hr : h r = some (.inr (6, rdO r N pl z))) (hA : rwA h r N kd pf vl (fun j => nI (100 + kd j))) (hB : rwB h r kd vl (toL kd N)) (hN : N ≤ 400) (hkd : ∀ i, kd i < 19) (hok : ∀ j, j < N → zok kd j) (hL : (toL kd N).length = zI z + zR z + zL z) (hL2 : (toL kd N).length ≤ 16) (hP0 : (∀ j, j < N → fX kd vl N j = 0) → ∀ h1 : AH, (∀ x, x ≠ r + 8 → h1 x = h x) → rwA h1 r N kd pf vl (cfJ kd vl N N) → Post (some (.int 0)) h1 nx) (hP : ∀ i, i < N → fX kd vl N i ≠ 0 → (∀ j, j < i → fX kd vl N j = 0) → ∀ (h1 : AH) (cf : Nat → Int32), (∀ x, x ≠ r → x ≠ r + 8 → h1 x = h x) → h1 r = some (.inr (6, rdO r N (nI (pf i)) z)) → rwA h1 r N kd pf vl cf → Post (some (.int (nI (fX kd vl N i)))) h1 nx) : Runs l G i_X6_judgeNames 0 0 [.ref r] h nx Post := by
  have c0 : rwA h r N kd pf vl (cfJ kd vl N 0) := by
    have e : cfJ kd vl N 0 = (fun j => nI (100 + kd j)) := funext (fun j => if_neg (fun z => absurd z.1 (Nat.not_lt_zero j)))
    rw [e]; exact hA
  have loop : ∀ (m i : Nat) (h1 : AH), i + m = N → (∀ j, j < i → fX kd vl N j = 0) → (∀ x, x ≠ r + 8 → h1 x = h x) → rwA h1 r N kd pf vl (cfJ kd vl N i) → Go l G 6 s_X6_judgeNames 0 0 Post 4 [(2, .int (nI i)), (1, .int (nI (toL kd i).length)), (0, .ref r)] [] h1 nx 0 0 := by
    intro m
    induction m with
    | zero =>
      intro i h1 hi hz fr a1
      have e : i = N := by omega
      subst e
      have hr1 := (fr r (by omega)).trans hr
      refine Go.of hX.2 ck_X6_judgeNames [] 20 ?_
      refine Exists.intro _ (And.intro hr1 (Exists.intro _ (And.intro rfl ?_)))
      refine And.intro (fun _ => ?_) (fun cz => absurd (nI_le (Nat.le_refl i) (by omega)) cz)
      exact And.intro rfl ((hP0 hz h1 fr a1))
    | succ m ih =>
      intro i h1 hi hz fr a1
      have hr1 := (fr r (by omega)).trans hr
      have hb1 : rwB h1 r kd vl (toL kd N) := hB.ag (fun x _ _ => fr x (by omega))
      have hs13 := (zW_all hkd (fun j hj => hok j (show j < N by omega)) (i := i)).1
      have nxt : ∀ h2 : AH, fX kd vl N i = 0 → (∀ x, x ≠ r + 8 → h2 x = h x) → rwA h2 r N kd pf vl (cfJ kd vl N (i + 1)) → Go l G 6 s_X6_judgeNames 0 0 Post 4 [(2, .int (nI i + 1)), (1, .int (nI (toL kd (i + 1)).length)), (0, .ref r)] [] h2 nx 0 0 := by
        intro h2 e2 f2 a2
        have := ih (i + 1) h2 (by omega) (fun j hj => by
          by_cases e : j = i
          · rw [e]; exact e2
          · exact hz j (by omega)) f2 a2
        rw [nI_succ] at this
        exact this
      refine Go.of hX.2 ck_X6_judgeNames [4] 60 ?_
      refine Exists.intro _ (And.intro hr1 (Exists.intro _ (And.intro rfl ?_)))
      refine And.intro (fun cz => absurd cz (nI_ge (a := i) (b := N) (by omega) (by omega))) (fun _ => ?_)
      refine And.intro (fun cz => absurd cz (nI_ge (a := i) (b := 400) (by omega) (by decide))) (fun _ => ?_)
      refine Exists.intro _ (And.intro hr1 (Exists.intro 0 (Exists.intro 0 (And.intro (Nat.le_refl _) (And.intro (Nat.le_refl _) (x_faultOfToken hX hr1 a1 hb1 (by omega) hN rfl hkd hok hL hL2 (fun h2 y1 y2 => ?_)))))))
      have f2 : ∀ x, x ≠ r + 8 → h2 x = h x := fun x hx => (y1 x hx).trans (fr x hx)
      have hr2 := (f2 r (by omega)).trans hr
      obtain ⟨g4, g5, g6, g8, g7, e4, e5, e6, e7, e8, q⟩ := id y2
      obtain ⟨k4, k5, k6, k7, k8⟩ := q i (by omega)
      by_cases cf : fX kd vl N i = 0
      · have nx2 := nxt h2 cf f2 y2
        refine And.intro (fun _ => ?_) (fun cz => absurd (show nI (fX kd vl N i) = 0 from by rw [cf]; rfl) cz)
        refine Exists.intro _ (And.intro hr2 (Exists.intro _ (And.intro rfl ?_)))
        refine Exists.intro _ (Exists.intro _ (And.intro e5 (And.intro (vp_in_nI (show i < 400 by omega) (by decide)) ?_)))
        rw [nI_clamp (show i < 2 ^ 31 by omega), k5]
        refine Exists.intro 0 (Exists.intro 0 (And.intro (Nat.le_refl _) (And.intro (Nat.le_refl _) (x_tellsName hX hs13 ?_))))
        rw [toL_s] at nx2
        cases cN : zN (zS (zz kd i)) with
        | true =>
          rw [if_pos cN, List.length_append, List.length_singleton, nI_succ] at nx2
          refine And.intro (fun cz => by first | exact absurd cz (by decide) | exact absurd (by decide) cz) (fun _ => ?_)
          exact go_loc (lv' := [(2, .int (nI i + 1)), (1, .int (nI (toL kd i).length + 1)), (0, .ref r)]) ⟨rfl, rfl, rfl, trivial⟩ (nx2)
        | false =>
          rw [if_neg (by rw [cN]; decide)] at nx2
          refine And.intro (fun _ => ?_) (fun cz => by first | exact absurd cz (by decide) | exact absurd (by decide) cz)
          exact go_loc (lv' := [(2, .int (nI i + 1)), (1, .int (nI (toL kd i).length)), (0, .ref r)]) ⟨rfl, rfl, rfl, trivial⟩ (nx2)
      · have hf5 : fX kd vl N i ≤ 5 := by
          unfold fX
          repeat' split
          all_goals omega
        refine And.intro (fun cz => absurd cz (nI_ne0 (by omega) (by omega))) (fun _ => ?_)
        refine Exists.intro _ (And.intro hr2 (Exists.intro _ (And.intro rfl ?_)))
        refine Exists.intro _ (Exists.intro _ (And.intro e6 (And.intro (vp_in_nI (show i < 400 by omega) (by decide)) ?_)))
        rw [nI_clamp (show i < 2 ^ 31 by omega), k6]
        refine Exists.intro _ (And.intro hr2 (And.intro (Nat.le_of_ble_eq_true rfl) (And.intro rfl (And.intro rfl ?_))))
        exact And.intro rfl ((hP i (by omega) cf hz _ (cfJ kd vl N (i + 1)) (fun x h1 h2 => (uph_ne h1).trans (f2 x h2)) uph_eq (y2.ag (fun x _ _ => uph_ne (by omega)))))
  refine en_X6_judgeNames hX [4] 20 rfl ?_
  exact go_loc (lv' := [(2, .int (nI 0)), (1, .int (nI 0)), (0, .ref r)]) ⟨rfl, rfl, rfl, trivial⟩ (loop N 0 h (Nat.zero_add _) (fun j hj => absurd hj (Nat.not_lt_zero j)) (fun _ _ => rfl) c0)
/-- x's reading object between calls -/
def rdI (r : Nat) (a : Nat → Int32) : List Value := [.ref (r + 1), .ref (r + 4), .ref (r + 5), .ref (r + 6), .ref (r + 7), .ref (r + 8), .int (a 6), .int (a 7), .int (a 8), .int (a 9), .ref (r + 9), .ref (r + 10), .ref (r + 11), .int (a 13), .int (a 14), .int (a 15), .int (a 16), .int (a 17), .int (a 18), .int (a 19)]
/-- where the text stops: the first token that is the end or can't stand -/
def zEnd (kd : Nat → Nat) (N : Nat) : Prop := (∀ j, j < N → zok kd j) ∧ (kd N = 0 ∨ ¬ zok kd N)
theorem zB_0 {s d : Nat} (hs : s < 13) : zB s d 0 = none := by
  have hq : s = 0 ∨ s = 1 ∨ s = 2 ∨ s = 3 ∨ s = 4 ∨ s = 5 ∨ s = 6 ∨ s = 7 ∨ s = 8 ∨ s = 9 ∨ s = 10 ∨ s = 11 ∨ s = 12 := by omega
  rcases hq with rfl | rfl | rfl | rfl | rfl | rfl | rfl | rfl | rfl | rfl | rfl | rfl | rfl
  all_goals rfl
theorem zok_0 {kd : Nat → Nat} {j : Nat} (hs : zS (zz kd j) < 13) (h : zok kd j) : kd j ≠ 0 := fun e => by
  obtain ⟨_, ⟨s, hb⟩, _⟩ := h
  rw [e, zB_0 hs] at hb
  cases hb
theorem zEnd_le {kd : Nat → Nat} {N : Nat} (h : zEnd kd N) : N ≤ 400 := by
  rcases Nat.lt_or_ge 400 N with z | z
  · have := (h.1 400 z).1
    omega
  · exact z
theorem zEnd_ex (kd : Nat → Nat) : ∃ N, zEnd kd N := by
  have key : ∀ m i, i + m = 401 → (∀ j, j < i → zok kd j) → ∃ N, zEnd kd N := by
    intro m
    induction m with
    | zero => intro i hi h; have := (h 400 (by omega)).1; omega
    | succ m ih =>
      intro i hi h
      by_cases c : zok kd i
      · exact ih (i + 1) (by omega) (fun j hj => by
          by_cases e : j = i
          · rw [e]; exact c
          · exact h j (by omega))
      · exact ⟨i, h, Or.inr c⟩
  exact key 401 0 (by omega) (fun j hj => absurd hj (Nat.not_lt_zero j))
/-- the fault where it stops; 0: the text is told to its end -/
def zFt (kd : Nat → Nat) (N : Nat) : Nat := if kd N = 0 then (if zS (zz kd N) = 0 then 0 else 1) else if (zB (zS (zz kd N)) (zD (zz kd N)) (kd N)).isNone = true then 1 else 2
/-- x's reading, and what cuts, whatever was read -/
def XRd (h : AH) (r : Nat) : Prop := (∃ a : Nat → Int32, h r = some (.inr (6, rdI r a))) ∧ (∃ (qt n a kd pl : Nat) (v : Int64), h (r + 1) = some (.inr (8, tkO (r + 2) qt n a kd pl v))) ∧ wRow h (r + 2) ∧ (∃ pf kd vl cf, rwA h r 0 kd pf vl cf) ∧ ∃ kd vl, rwB h r kd vl []
theorem zN_2 {s d k : Nat} (h : zN s = true) (hb : ∃ q, zB s d k = some q) : k = 2 := by
  obtain ⟨q, hb⟩ := hb
  have one : ∀ {x : Nat}, (if k = 2 then some x else none) = some q → k = 2 := fun {x} h => by
    by_cases c : k = 2
    · exact c
    · rw [if_neg c] at h; cases h
  unfold zN at h
  by_cases c1 : s = 1
  · subst c1; exact one (x := 2) hb
  · by_cases c3 : s = 3
    · subst c3; exact one (x := 4) hb
    · by_cases c7 : s = 7
      · subst c7; exact one (x := 6) hb
      · rw [decide_eq_false c1, decide_eq_false c3, decide_eq_false c7] at h; cases h
theorem zB_18 {s d : Nat} (hs : s < 13) (h : ∃ q, zB s d 18 = some q) : 0 < d := by
  obtain ⟨q, h⟩ := h
  have hq : s = 0 ∨ s = 1 ∨ s = 2 ∨ s = 3 ∨ s = 4 ∨ s = 5 ∨ s = 6 ∨ s = 7 ∨ s = 8 ∨ s = 9 ∨ s = 10 ∨ s = 11 ∨ s = 12 := by omega
  rcases hq with rfl | rfl | rfl | rfl | rfl | rfl | rfl | rfl | rfl | rfl | rfl | rfl | rfl
  all_goals first | exact absurd (show (none : Option Nat) = some q from h) (by intro z; cases z) | skip
  have h2 : (if (18 : Nat) = 15 ∨ (18 : Nat) = 16 then some 10 else if (18 : Nat) = 18 ∧ 0 < d then some 12 else if (18 : Nat) = 12 ∧ d = 0 then some 0 else none) = some q := h
  rw [if_neg (by decide)] at h2
  by_cases c : 0 < d
  · exact c
  · rw [if_neg (fun z => c z.2), if_neg (by omega)] at h2
    cases h2
theorem rdO_set {r i s k : Nat} {pl : Int32} {z : ZT} : (rdO r i pl (zA z k (zS z))).set 7 (.int (nI s)) = rdO r i pl (zA z k s) := by
  unfold zA
  repeat' split
  all_goals rfl
set_option maxHeartbeats 8000000 in
theorem x_judge {l : Launch} {G : GG} {h : AH} {nx : Nat} {Post : Option Value → AH → Nat → Prop} {r qt n N : Nat} {u : Nat → Nat} {g : Nat → Int32} (hX : XC G ∧ TX l G) (hR : XRd h r) (ht : h qt = some (.inl (2, 2000, .inl g))) (hg : ∀ i, i < n → g i = bvN (u i)) (hu : ∀ i, u i < 256) (hn : n ≤ 2000) (hq : qt < r ∨ r + 12 ≤ qt) (hE : zEnd (kdN u n) N) (hP0 : zFt (kdN u n) N = 0 → (∀ j, j < N → fX (kdN u n) (vaN u n) N j = 0) → ∀ h1 : AH, (∀ x, x < r ∨ r + 12 ≤ x → h1 x = h x) → XRd h1 r → h1 r = some (.inr (6, rdO r N (nI (plN u n N)) (zz (kdN u n) N))) → rwA h1 r N (kdN u n) (plN u n) (vaN u n) (cfJ (kdN u n) (vaN u n) N N) → rwB h1 r (kdN u n) (vaN u n) (toL (kdN u n) N) → Post (some (.int 0)) h1 nx) (hP1 : zFt (kdN u n) N = 0 → ∀ i, i < N → fX (kdN u n) (vaN u n) N i ≠ 0 → (∀ j, j < i → fX (kdN u n) (vaN u n) N j = 0) → ∀ (h1 : AH) (a : Nat → Int32), (∀ x, x < r ∨ r + 12 ≤ x → h1 x = h x) → XRd h1 r → h1 r = some (.inr (6, rdI r a)) → a 9 = nI (plN u n i) → Post (some (.int (nI (fX (kdN u n) (vaN u n) N i)))) h1 nx) (hP : zFt (kdN u n) N ≠ 0 → ∀ (h1 : AH) (a : Nat → Int32), (∀ x, x < r ∨ r + 12 ≤ x → h1 x = h x) → XRd h1 r → h1 r = some (.inr (6, rdI r a)) → a 9 = nI (plN u n N) → Post (some (.int (nI (zFt (kdN u n) N)))) h1 nx) : Runs l G i_X6_judge 0 0 [.ref r, .ref qt, .int (nI n)] h nx Post := by
  obtain ⟨⟨a, er⟩, ⟨q1, n1, a1, k1, p1, v1, ek⟩, hw, ⟨pf0, kd0, vl0, cf0, rA⟩, kd1, vl1, rB⟩ := hR
  have hN := zEnd_le hE
  have hkd : ∀ i, kdN u n i < 19 := kdN_lt hu n
  have hOI : ∀ (i : Nat) (p : Nat) (z : ZT), ∃ b : Nat → Int32, rdO r i (nI p) z = rdI r b ∧ b 9 = nI p := fun i p z => ⟨fun k => if k = 6 then nI i else if k = 7 then nI (zS z) else if k = 8 then nI (zD z) else if k = 9 then nI p else if k = 13 then nI (zI z + zR z + zL z) else if k = 14 then nI (zI z) else if k = 15 then nI (zR z) else if k = 16 then nI (zL z) else if k = 17 then nI (zV z) else if k = 18 then nI (zK z) else nI (zT z), rfl, rfl⟩
  have mkR : ∀ (h1 : AH) (i : Nat) (p : Nat) (z : ZT) (pf kd : Nat → Nat) (vl : Nat → Int64) (cf : Nat → Int32) (j : Nat) (L : List Nat) (kd2 : Nat → Nat) (vl2 : Nat → Int64), (∀ x, x < r ∨ r + 12 ≤ x → h1 x = h x) → h1 (r + 2) = h (r + 2) → h1 r = some (.inr (6, rdO r i (nI p) z)) → (∃ (qt n a kd pl : Nat) (v : Int64), h1 (r + 1) = some (.inr (8, tkO (r + 2) qt n a kd pl v))) → rwA h1 r j kd pf vl cf → rwB h1 r kd2 vl2 L → XRd h1 r := fun h1 i p z pf kd vl cf j L kd2 vl2 f e0 e1 e2 e3 e4 => by
    obtain ⟨b, eb, _⟩ := hOI i p z
    obtain ⟨g4, g5, g6, g8, g7, x4, x5, x6, x7, x8, _⟩ := e3
    obtain ⟨g10, g11, g9, x9, x10, x11, _⟩ := e4
    refine ⟨⟨b, by rw [e1, eb]⟩, e2, ?_, ⟨pf, kd, vl, cf, g4, g5, g6, g8, g7, x4, x5, x6, x7, x8, fun j hj => absurd hj (Nat.not_lt_zero j)⟩, kd2, vl2, g10, g11, g9, x9, x10, x11, fun m hm => absurd hm (Nat.not_lt_zero m)⟩
    obtain ⟨gw, ew, pw⟩ := hw
    exact ⟨gw, e0.trans ew, pw⟩
  obtain ⟨gw, ew, pw⟩ := id hw
  have step15 : ∀ (i : Nat) (h1 : AH) (pl : Int32) (k2 p2 : Nat) (v2 : Int64), i ≤ N → (∀ x, x < r ∨ r + 12 ≤ x → h1 x = h x) → h1 (r + 2) = h (r + 2) → h1 r = some (.inr (6, rdO r i pl (zz (kdN u n) i))) → h1 (r + 1) = some (.inr (8, tkO (r + 2) qt n (psN u n i) k2 p2 v2)) → rwA h1 r i (kdN u n) (plN u n) (vaN u n) (fun j => nI (100 + kdN u n j)) → rwB h1 r (kdN u n) (vaN u n) (toL (kdN u n) i) → (∀ h3 : AH, (∀ x, x < r ∨ r + 12 ≤ x → h3 x = h x) → h3 (r + 2) = h (r + 2) → h3 r = some (.inr (6, rdO r i (nI (plN u n i)) (zz (kdN u n) i))) → h3 (r + 1) = some (.inr (8, tkO (r + 2) qt n (psN u n (i + 1)) (kdN u n i) (plN u n i) (vaN u n i))) → rwA h3 r i (kdN u n) (plN u n) (vaN u n) (fun j => nI (100 + kdN u n j)) → rwB h3 r (kdN u n) (vaN u n) (toL (kdN u n) i) → Go l G 6 s_X6_judge 0 0 Post 40 [(3, .int (nI i)), (0, .ref r), (1, .ref qt), (2, .int (nI n))] [] h3 nx 0 0) → Go l G 6 s_X6_judge 0 0 Post 15 [(3, .int (nI i)), (0, .ref r), (1, .ref qt), (2, .int (nI n))] [] h1 nx 0 0 := by
    intro i h1 pl k2 p2 v2 hi f1 e2 e1 e3 b1 b2 hQ
    refine Go.of hX.2 ck_X6_judge [40] 60 ?_
    refine And.intro (fun cz => absurd cz (nI_nlt (a := 2000) (b := i) (by omega) (by decide))) (fun _ => ?_)
    refine Exists.intro _ (And.intro e1 (Exists.intro _ (And.intro rfl ?_)))
    refine Exists.intro _ (And.intro e3 (Exists.intro 0 (Exists.intro 0 (And.intro (Nat.le_refl _) (And.intro (Nat.le_refl _) (x_takeToken (u := u) hX e3 ⟨gw, e2.trans ew, pw⟩ ⟨2000, g, (f1 qt hq).trans ht, ⟨hn, by decide⟩, hg⟩ hu (psN_le u n i) hn (by omega) (by omega) (fun h2 y1 y2 => ?_)))))))
    have er2 := (y1 r (by omega)).trans e1
    refine Exists.intro _ (And.intro er2 (Exists.intro _ (And.intro rfl ?_)))
    refine Exists.intro _ (And.intro y2 (Exists.intro _ (And.intro rfl ?_)))
    refine Exists.intro _ (And.intro er2 (And.intro (Nat.le_of_ble_eq_true rfl) (And.intro rfl (And.intro rfl ?_))))
    refine go_loc (lv' := [(3, .int (nI i)), (0, .ref r), (1, .ref qt), (2, .int (nI n))]) ⟨rfl, rfl, rfl, rfl, trivial⟩ ?_
    exact hQ _ (fun x hx => (uph_ne (by omega)).trans ((y1 x (by omega)).trans (f1 x hx))) ((uph_ne (by omega)).trans ((y1 _ (by omega)).trans e2)) uph_eq ((uph_ne (by omega)).trans y2) (b1.ag (fun x _ _ => (uph_ne (by omega)).trans (y1 x (by omega)))) (b2.ag (fun x _ _ => (uph_ne (by omega)).trans (y1 x (by omega))))
  have loop : ∀ (m i : Nat) (h1 : AH) (pl : Int32) (k2 p2 : Nat) (v2 : Int64), i + m = N → (∀ x, x < r ∨ r + 12 ≤ x → h1 x = h x) → h1 (r + 2) = h (r + 2) → h1 r = some (.inr (6, rdO r i pl (zz (kdN u n) i))) → h1 (r + 1) = some (.inr (8, tkO (r + 2) qt n (psN u n i) k2 p2 v2)) → rwA h1 r i (kdN u n) (plN u n) (vaN u n) (fun j => nI (100 + kdN u n j)) → rwB h1 r (kdN u n) (vaN u n) (toL (kdN u n) i) → Go l G 6 s_X6_judge 0 0 Post 15 [(3, .int (nI i)), (0, .ref r), (1, .ref qt), (2, .int (nI n))] [] h1 nx 0 0 := by
    intro m
    induction m with
    | zero =>
      intro i h1 pl k2 p2 v2 hi f1 e2 e1 e3 b1 b2
      refine step15 i h1 pl k2 p2 v2 (by omega) f1 e2 e1 e3 b1 b2 (fun h3 f3 x2 x0 x1 A3 B3 => ?_)
      have e : i = N := by omega
      subst e
      have hz := zW_all hkd hE.1
      have hL := to_len hkd hE.1
      have hL2 : (toL (kdN u n) i).length ≤ 16 := by obtain ⟨_, _, _, z1, z2, z3, _⟩ := hz; omega
      have hk19 := hkd i
      have hs13 := hz.1
      have hd4 := hz.2.1
      have fail : ∀ v : Nat, v ≠ 0 → zFt (kdN u n) i = v → Post (some (.int (nI v))) h3 nx := fun v hv ev => by
        obtain ⟨b, eb, b9⟩ := hOI i (plN u n i) (zz (kdN u n) i)
        rw [← ev]
        exact hP (by rw [ev]; exact hv) h3 b f3 (mkR h3 i (plN u n i) (zz (kdN u n) i) _ _ _ _ _ _ _ _ f3 x2 x0 ⟨_, _, _, _, _, _, x1⟩ A3 B3) (x0.trans (by rw [eb])) b9
      refine Go.of hX.2 ck_X6_judge [] 80 ?_
      refine Exists.intro _ (And.intro x0 (Exists.intro _ (And.intro rfl ?_)))
      refine Exists.intro _ (And.intro x1 (Exists.intro _ (And.intro rfl ?_)))
      by_cases c0 : kdN u n i = 0
      · refine And.intro (fun cz => absurd (show nI (kdN u n i) = 0 from by rw [c0]; rfl) cz) (fun _ => ?_)
        refine Exists.intro _ (And.intro x0 (Exists.intro _ (And.intro rfl ?_)))
        by_cases cs : zS (zz (kdN u n) i) = 0
        · have ez : zFt (kdN u n) i = 0 := by unfold zFt; rw [if_pos c0, if_pos cs]
          refine And.intro (fun cz => absurd (show nI (zS (zz (kdN u n) i)) = 0 from by rw [cs]; rfl) cz) (fun _ => ?_)
          refine Exists.intro _ (And.intro x0 (Exists.intro 0 (Exists.intro 0 (And.intro (Nat.le_refl _) (And.intro (Nat.le_refl _) (x_judgeNames hX x0 A3 B3 hN hkd hE.1 hL hL2 (fun h0 h4 f4 A4 => ?_) (fun k hk h0 h00 h4 cf f4 y4 A4 => ?_)))))))
          · have y0 := (f4 r (by omega)).trans x0
            have y1 := (f4 (r + 1) (by omega)).trans x1
            have B4 : rwB h4 r (kdN u n) (vaN u n) (toL (kdN u n) i) := B3.ag (fun x _ _ => f4 x (by omega))
            have ff : ∀ x, x < r ∨ r + 12 ≤ x → h4 x = h x := fun x hx => (f4 x (by omega)).trans (f3 x hx)
            exact And.intro rfl ((hP0 ez h0 h4 ff (mkR h4 i (plN u n i) (zz (kdN u n) i) _ _ _ _ _ _ _ _ ff ((f4 _ (by omega)).trans x2) y0 ⟨_, _, _, _, _, _, y1⟩ A4 B4) y0 A4 B4))
          · have y1 := (f4 (r + 1) (by omega) (by omega)).trans x1
            have B4 : rwB h4 r (kdN u n) (vaN u n) (toL (kdN u n) i) := B3.ag (fun x _ _ => f4 x (by omega) (by omega))
            have ff : ∀ x, x < r ∨ r + 12 ≤ x → h4 x = h x := fun x hx => (f4 x (by omega) (by omega)).trans (f3 x hx)
            obtain ⟨b, eb, b9⟩ := hOI i (plN u n k) (zz (kdN u n) i)
            exact And.intro rfl ((hP1 ez k hk h0 h00 h4 b ff (mkR h4 i (plN u n k) (zz (kdN u n) i) _ _ _ _ _ _ _ _ ff ((f4 _ (by omega) (by omega)).trans x2) y4 ⟨_, _, _, _, _, _, y1⟩ A4 B4) (y4.trans (by rw [eb])) b9))
        · have hP := fail 1 (by decide) (by unfold zFt; rw [if_pos c0, if_neg cs])
          refine And.intro (fun _ => ?_) (fun cz => absurd cz (fun z => cs ((nI_eq (by omega) (by decide)).mp (show nI (zS (zz (kdN u n) i)) = nI 0 from z))))
          exact And.intro rfl (hP)
      · refine And.intro (fun _ => ?_) (fun cz => absurd cz (fun z => c0 ((nI_eq (by omega) (by decide)).mp (show nI (kdN u n i) = nI 0 from z))))
        refine Exists.intro _ (And.intro x0 (Exists.intro _ (And.intro rfl ?_)))
        refine Exists.intro _ (And.intro x1 (Exists.intro _ (And.intro rfl ?_)))
        refine Exists.intro _ (And.intro x0 (Exists.intro 0 (Exists.intro 0 (And.intro (Nat.le_refl _) (And.intro (Nat.le_refl _) (x_stateBehind hX hk19 x0 rfl rfl hs13 (by omega) ?_))))))
        cases cb : zB (zS (zz (kdN u n) i)) (zD (zz (kdN u n) i)) (kdN u n i) with
        | none =>
          have hP := fail 1 (by decide) (by unfold zFt; rw [if_neg c0, cb]; rfl)
          refine And.intro (fun cz => absurd (rfl) cz) (fun _ => ?_)
          exact And.intro rfl (hP)
        | some s =>
          have hP := fail 2 (by decide) (by unfold zFt; rw [if_neg c0, cb]; rfl)
          have hs := zB_lt hs13 cb
          refine And.intro (fun _ => ?_) (fun cz => absurd cz ((show ¬ nI s = -1 from (nI_n2 (by omega)).2.2)))
          refine Exists.intro _ (And.intro x0 (Exists.intro _ (And.intro rfl ?_)))
          by_cases c4 : i = 400
          · refine And.intro (fun _ => ?_) (fun cz => absurd (nI_le (a := 400) (b := i) (by omega) (by omega)) cz)
            exact And.intro rfl (hP)
          · refine And.intro (fun cz => absurd cz (nI_ge (a := i) (b := 400) (by omega) (by decide))) (fun _ => ?_)
            refine Exists.intro _ (And.intro x0 (Exists.intro _ (And.intro rfl ?_)))
            refine Exists.intro _ (And.intro x1 (Exists.intro _ (And.intro rfl ?_)))
            refine Exists.intro _ (And.intro x0 (Exists.intro 0 (Exists.intro 0 (And.intro (Nat.le_refl _) (And.intro (Nat.le_refl _) (x_isOutOfRoom hX hk19 x0 hz ?_))))))
            have hO : zO (zz (kdN u n) i) (kdN u n i) = true := by
              cases z : zO (zz (kdN u n) i) (kdN u n i) with
              | true => rfl
              | false =>
                rcases hE.2 with y | y
                · exact absurd y c0
                · exact absurd ⟨by omega, ⟨s, cb⟩, z⟩ y
            rw [hO]
            refine And.intro (fun cz => by first | exact absurd cz (by decide) | exact absurd (by decide) cz) (fun _ => ?_)
            exact And.intro rfl (hP)
    | succ m ih =>
      intro i h1 pl k2 p2 v2 hi f1 e2 e1 e3 b1 b2
      refine step15 i h1 pl k2 p2 v2 (by omega) f1 e2 e1 e3 b1 b2 (fun h3 f3 x2 x0 x1 A3 B3 => ?_)
      have hz := zW_all hkd (fun j hj => hE.1 j (show j < N by omega)) (i := i)
      have hL := to_len hkd (fun j hj => hE.1 j (show j < N by omega)) (i := i)
      have hok := hE.1 i (by omega)
      obtain ⟨s, hs, ez, _⟩ := zok_s hkd hz hok
      have hk19 := hkd i
      have hs13 := hz.1
      have hd4 := hz.2.1
      have hs2 := zB_lt hs13 hs
      have hk0 := zok_0 hs13 hok
      obtain ⟨h400, _, hO⟩ := hok
      refine Go.of hX.2 ck_X6_judge [15] 80 ?_
      refine Exists.intro _ (And.intro x0 (Exists.intro _ (And.intro rfl ?_)))
      refine Exists.intro _ (And.intro x1 (Exists.intro _ (And.intro rfl ?_)))
      refine And.intro (fun _ => ?_) (fun cz => absurd cz (fun z => hk0 ((nI_eq (by omega) (by decide)).mp (show nI (kdN u n i) = nI 0 from z))))
      refine Exists.intro _ (And.intro x0 (Exists.intro _ (And.intro rfl ?_)))
      refine Exists.intro _ (And.intro x1 (Exists.intro _ (And.intro rfl ?_)))
      refine Exists.intro _ (And.intro x0 (Exists.intro 0 (Exists.intro 0 (And.intro (Nat.le_refl _) (And.intro (Nat.le_refl _) (x_stateBehind hX hk19 x0 rfl rfl hs13 (by omega) ?_))))))
      rw [hs]
      refine And.intro (fun _ => ?_) (fun cz => absurd cz ((show ¬ nI s = -1 from (nI_n2 (by omega)).2.2)))
      refine Exists.intro _ (And.intro x0 (Exists.intro _ (And.intro rfl ?_)))
      refine And.intro (fun cz => absurd cz (nI_ge (a := i) (b := 400) h400 (by decide))) (fun _ => ?_)
      refine Exists.intro _ (And.intro x0 (Exists.intro _ (And.intro rfl ?_)))
      refine Exists.intro _ (And.intro x1 (Exists.intro _ (And.intro rfl ?_)))
      refine Exists.intro _ (And.intro x0 (Exists.intro 0 (Exists.intro 0 (And.intro (Nat.le_refl _) (And.intro (Nat.le_refl _) (x_isOutOfRoom hX hk19 x0 hz ?_))))))
      rw [hO]
      refine And.intro (fun _ => ?_) (fun cz => by first | exact absurd cz (by decide) | exact absurd (by decide) cz)
      refine Exists.intro _ (And.intro x0 (Exists.intro _ (And.intro rfl ?_)))
      refine Exists.intro _ (And.intro x1 (Exists.intro _ (And.intro rfl ?_)))
      refine Exists.intro _ (And.intro x0 (Exists.intro 0 (Exists.intro 0 (And.intro (Nat.le_refl _) (And.intro (Nat.le_refl _) (x_keepToken hX x0 x1 A3 B3 hkd rfl hL hz h400 (fun z => zN_2 z ⟨s, hs⟩) (fun z => zB_18 hs13 ⟨s, by rw [← z]; exact hs⟩) (fun h4 f4 y0 A4 B4 => ?_)))))))
      refine Exists.intro _ (And.intro y0 (And.intro (Nat.le_of_ble_eq_true rfl) (And.intro rfl (And.intro rfl ?_))))
      refine go_loc (lv' := [(3, .int (nI i + 1)), (0, .ref r), (1, .ref qt), (2, .int (nI n))]) ⟨rfl, rfl, rfl, rfl, trivial⟩ ?_
      rw [← nI_succ]
      refine ih (i + 1) _ (nI (plN u n i)) (kdN u n i) (plN u n i) (vaN u n i) (by omega) (fun x hx => (uph_ne (by omega)).trans ((f4 x (by omega) (by omega)).trans (f3 x hx))) ((uph_ne (by omega)).trans ((f4 _ (by omega) (by omega)).trans x2)) (uph_eq.trans ?_) ((uph_ne (by omega)).trans ((f4 _ (by omega) (by omega)).trans x1)) (A4.ag (fun x _ _ => uph_ne (by omega))) (B4.ag (fun x _ _ => uph_ne (by omega)))
      rw [ez]
      show some (Sum.inr (6, (rdO r (i + 1) (nI (plN u n i)) (zA (zz (kdN u n) i) (kdN u n i) (zS (zz (kdN u n) i)))).set 7 (.int (nI s)))) = _
      rw [rdO_set]
  refine en_X6_judge hX [15] 40 rfl ?_
  refine Exists.intro _ (And.intro er (Exists.intro 0 (Exists.intro 0 (And.intro (Nat.le_refl _) (And.intro (Nat.le_refl _) (c_forgetText hX er rfl ?_))))))
  have er1 : uph h r (.inr (6, fgF (rdI r a))) r = some (.inr (6, rdO r 0 (a 9) z0)) := uph_eq
  refine Exists.intro _ (And.intro er1 (Exists.intro _ (And.intro rfl ?_)))
  have ek1 : uph h r (.inr (6, fgF (rdI r a))) (r + 1) = some (.inr (8, tkO (r + 2) q1 n1 a1 k1 p1 v1)) := (uph_ne (by omega)).trans ek
  have ht1 : uph h r (.inr (6, fgF (rdI r a))) qt = some (.inl (2, 2000, .inl g)) := (uph_ne (by omega)).trans ht
  refine Exists.intro _ (And.intro ek1 (Exists.intro 0 (Exists.intro 0 (And.intro (Nat.le_refl _) (And.intro (Nat.le_refl _) (c_takeText hX ek1 rfl ht1 ?_))))))
  refine go_loc (lv' := [(3, .int (nI 0)), (0, .ref r), (1, .ref qt), (2, .int (nI n))]) ⟨rfl, rfl, rfl, rfl, trivial⟩ ?_
  obtain ⟨g4, g5, g6, g8, g7, x4, x5, x6, x7, x8, _⟩ := rA
  obtain ⟨g10, g11, g9, x9, x10, x11, _⟩ := rB
  have em : (if nI 2000 < nI n then nI 2000 else nI n) = nI n := if_neg (nI_nlt (a := 2000) (b := n) hn (by decide))
  have un : ∀ (e1 e2 : AE) x, x ≠ r → x ≠ r + 1 → uph (uph h r e1) (r + 1) e2 x = h x := fun e1 e2 x z1 z2 => (uph_ne z2).trans (uph_ne z1)
  refine loop N 0 _ (a 9) k1 p1 v1 (Nat.zero_add _) (fun x hx => un _ _ x (by omega) (by omega)) (un _ _ _ (by omega) (by omega)) ((uph_ne (by omega)).trans er1) (uph_eq.trans ?_) ⟨g4, g5, g6, g8, g7, (un _ _ _ (by omega) (by omega)).trans x4, (un _ _ _ (by omega) (by omega)).trans x5, (un _ _ _ (by omega) (by omega)).trans x6, (un _ _ _ (by omega) (by omega)).trans x7, (un _ _ _ (by omega) (by omega)).trans x8, fun j hj => absurd hj (Nat.not_lt_zero j)⟩ ⟨g10, g11, g9, (un _ _ _ (by omega) (by omega)).trans x9, (un _ _ _ (by omega) (by omega)).trans x10, (un _ _ _ (by omega) (by omega)).trans x11, fun m hm => absurd hm (Nat.not_lt_zero m)⟩
  rw [em]
  rfl
