/-! x completes a drawing; its nevers -/
def fP (K R : Nat) (ow : Nat → Nat) (n : Nat) : List Nat := (List.range n).filter (vFb K R ow)
theorem fP_s {K R n : Nat} {ow : Nat → Nat} : fP K R ow (n + 1) = if vFb K R ow n = true then fP K R ow n ++ [n] else fP K R ow n := by
  unfold fP
  rw [List.range_succ, List.filter_append]
  split
  · next h => rw [List.filter_cons_of_pos h]; rfl
  · next h => rw [List.filter_cons_of_neg h]; exact List.append_nil _
theorem vF_lo {K R n : Nat} {ow : Nat → Nat} (h : n < 200) : vFb K R ow n = (decide (n / 4 < K) && (decide (n % 4 < 2) || (decide (n % 4 = 2) && (decide (n / 4 + 1 < K) && decide (ow (n / 4) = ow (n / 4 + 1)))))) := by
  unfold vFb
  rw [if_neg (by omega)]
theorem vF_hi {K R n : Nat} {ow : Nat → Nat} (h : 200 ≤ n) : vFb K R ow n = decide (n < 200 + 2 * R) := by
  unfold vFb
  rw [if_pos h]
theorem fP_no {K R : Nat} {ow : Nat → Nat} {n : Nat} : ∀ m, (∀ i, n ≤ i → i < n + m → vFb K R ow i = false) → fP K R ow (n + m) = fP K R ow n
  | 0, _ => rfl
  | m + 1, h => by
    rw [show n + (m + 1) = (n + m) + 1 from rfl, fP_s, if_neg (by rw [h (n + m) (by omega) (by omega)]; decide)]
    exact fP_no m (fun i h1 h2 => h i h1 (by omega))
/-- four numbers a contact -/
theorem fP_4 {K R k : Nat} {ow : Nat → Nat} (hk : k < K) (hK : K ≤ 40) : fP K R ow (4 * k + 4) = (fP K R ow (4 * k) ++ [4 * k] ++ [4 * k + 1]) ++ (if k + 1 < K ∧ ow k = ow (k + 1) then [4 * k + 2] else []) := by
  have d0 : (4 * k) / 4 = k := by omega
  have d1 : (4 * k + 1) / 4 = k := by omega
  have d2 : (4 * k + 2) / 4 = k := by omega
  have v0 : vFb K R ow (4 * k) = true := by rw [vF_lo (by omega), d0, decide_eq_true hk, decide_eq_true (show 4 * k % 4 < 2 by omega)]; rfl
  have v1 : vFb K R ow (4 * k + 1) = true := by rw [vF_lo (by omega), d1, decide_eq_true hk, decide_eq_true (show (4 * k + 1) % 4 < 2 by omega)]; rfl
  have v2 : vFb K R ow (4 * k + 2) = (decide (k + 1 < K) && decide (ow k = ow (k + 1))) := by rw [vF_lo (by omega), d2, decide_eq_true hk, decide_eq_false (show ¬ (4 * k + 2) % 4 < 2 by omega), decide_eq_true (show (4 * k + 2) % 4 = 2 by omega)]; rfl
  have v3 : vFb K R ow (4 * k + 3) = false := by rw [vF_lo (by omega), decide_eq_false (show ¬ (4 * k + 3) % 4 < 2 by omega), decide_eq_false (show ¬ (4 * k + 3) % 4 = 2 by omega)]; exact Bool.and_false _
  rw [show 4 * k + 4 = (4 * k + 3) + 1 from rfl, fP_s, v3, if_neg (by decide), show 4 * k + 3 = (4 * k + 2) + 1 from rfl, fP_s, v2, show 4 * k + 2 = (4 * k + 1) + 1 from rfl, fP_s, v1, if_pos rfl, fP_s, v0, if_pos rfl]
  by_cases c : k + 1 < K ∧ ow k = ow (k + 1)
  · rw [if_pos c, decide_eq_true c.1, decide_eq_true c.2, show (true && true) = true from rfl, if_pos rfl]
  · rw [if_neg c, if_neg (fun z => by rw [Bool.and_eq_true, decide_eq_true_eq, decide_eq_true_eq] at z; exact c z), List.append_nil]
theorem fP_len {K R : Nat} {ow : Nat → Nat} (hK : K ≤ 40) : ∀ k, k ≤ K → (fP K R ow (4 * k)).length ≤ 3 * k
  | 0, _ => Nat.zero_le _
  | k + 1, h => by
    have ih := fP_len (R := R) (ow := ow) hK k (by omega)
    rw [show 4 * (k + 1) = 4 * k + 4 by omega, fP_4 (by omega) hK, List.length_append, List.length_append, List.length_append]
    have : (if k + 1 < K ∧ ow k = ow (k + 1) then [4 * k + 2] else []).length ≤ 1 := by
      split
      · exact Nat.le_refl 1
      · exact Nat.zero_le 1
    have e1 : [4 * k].length = 1 := rfl
    have e2 : [4 * k + 1].length = 1 := rfl
    omega
theorem fP_200 {K R : Nat} {ow : Nat → Nat} (hK : K ≤ 40) : fP K R ow 200 = fP K R ow (4 * K) := by
  have := fP_no (K := K) (R := R) (ow := ow) (n := 4 * K) (200 - 4 * K) (fun i h1 h2 => by
    rw [vF_lo (by omega), decide_eq_false (show ¬ i / 4 < K by omega)]
    rfl)
  rw [← this]
  congr 1
  omega
theorem fP_r {K R r : Nat} {ow : Nat → Nat} (hr : r < R) : fP K R ow (200 + 2 * (r + 1)) = fP K R ow (200 + 2 * r) ++ [200 + 2 * r] ++ [200 + 2 * r + 1] := by
  rw [show 200 + 2 * (r + 1) = (200 + 2 * r + 1) + 1 by omega, fP_s, vF_hi (by omega), decide_eq_true (by omega), if_pos rfl, fP_s, vF_hi (by omega), decide_eq_true (by omega), if_pos rfl]
theorem fP_lenr {K R : Nat} {ow : Nat → Nat} (hK : K ≤ 40) : ∀ r, r ≤ R → (fP K R ow (200 + 2 * r)).length ≤ 120 + 2 * r
  | 0, _ => by
    show (fP K R ow 200).length ≤ 120
    rw [fP_200 hK]
    have := fP_len (R := R) (ow := ow) hK K (Nat.le_refl K)
    omega
  | r + 1, h => by
    have ih := fP_lenr (R := R) (ow := ow) hK r (by omega)
    rw [fP_r (by omega), List.length_append, List.length_append]
    have e1 : [200 + 2 * r].length = 1 := rfl
    have e2 : [200 + 2 * r + 1].length = 1 := rfl
    omega
theorem fP_end {K R : Nat} {ow : Nat → Nat} (hR : R ≤ 6) : fP K R ow 212 = fP K R ow (200 + 2 * R) := by
  have := fP_no (K := K) (R := R) (ow := ow) (n := 200 + 2 * R) (12 - 2 * R) (fun i h1 h2 => by
    rw [vF_hi (by omega), decide_eq_false (by omega)])
  rw [← this]
  congr 1
  omega
/-- the row holds the list -/
def rowL (g : Nat → Int32) (l : List Nat) : Prop := ∀ i, i < l.length → g i = nI (l.getD i 0)
theorem rowL_app {g : Nat → Int32} {l : List Nat} {x : Nat} (h : rowL g l) : rowL (upd g l.length (nI x)) (l ++ [x]) := fun i hi => by
  rw [List.length_append, List.length_singleton] at hi
  rw [getD_app]
  by_cases c : i < l.length
  · rw [if_pos c, pk_un (by omega)]; exact h i c
  · have e : i = l.length := by omega
    rw [if_neg c, if_pos e, e, pk_us]
set_option maxHeartbeats 8000000 in
theorem x_addFlawL {l : Launch} {G : GG} {h : AH} {nx : Nat} {Post : Option Value → AH → Nat → Prop} {d f I R L K V cc : Nat} {l0 : List Nat} {g : Nat → Int32} (hX : XC G ∧ TX l G) (hd : h d = some (.inr (0, dwF d I R L K V cc l0.length))) (h9 : h (d + 19) = some (.inl (0, 132, .inl g))) (hl : rowL g l0) (hfc : l0.length < 132) (hP : ∀ (h1 : AH) (g' : Nat → Int32), (∀ x, x ≠ d → x ≠ d + 19 → h1 x = h x) → h1 d = some (.inr (0, dwF d I R L K V cc (l0 ++ [f]).length)) → h1 (d + 19) = some (.inl (0, 132, .inl g')) → rowL g' (l0 ++ [f]) → Post none h1 nx) : Runs l G i_X0_addFlaw 0 0 [.ref d, .int (nI f)] h nx Post := by
  refine x_addFlaw hX hd h9 hfc (hP _ (upd g l0.length (nI f)) (fun x h1 h2 => (uph_ne h1).trans (uph_ne h2)) (uph_eq.trans ?_) ((uph_ne (by omega)).trans uph_eq) (rowL_app hl))
  rw [List.length_append, List.length_singleton]
set_option maxHeartbeats 8000000 in
theorem x_complete {l : Launch} {G : GG} {h : AH} {nx : Nat} {Post : Option Value → AH → Nat → Prop} {d I R L K V cc : Nat} {ow vr : Nat → Nat} {iv : Nat → Bool} {g10 g18 g19 g27 gv gb gi wc wo gc go ge : Nat → Int32} (hX : XC G ∧ TX l G) (hd : h d = some (.inr (0, dwF d I R L K V cc 0))) (h6 : h (d + 6) = some (.inr (10, wiF (d + 7) 40))) (hR : wiR h (d + 7) 40 gv gb gi wc wo gc go ge) (h10 : h (d + 10) = some (.inl (0, 11, .inl g10))) (h11 : h (d + 11) = some (.inl (1, 32, .inr (.inl (fun _ => 0))))) (h12 : h (d + 12) = some (.inl (1, 64, .inr (.inl (fun _ => 0))))) (h18 : h (d + 18) = some (.inl (0, 40, .inl g18))) (h19 : h (d + 19) = some (.inl (0, 132, .inl g19))) (h27 : h (d + 27) = some (.inl (0, 64 * 2 ^ I, .inl g27))) (hI : I ≤ 5) (hRR : R ≤ 6) (hLL : L ≤ 5) (hK : K ≤ 40) (how : ∀ k, k < K → g18 k = nI (ow k) ∧ ow k < 11) (hv : ∀ k, k < K → gv k = nI (vr k) ∧ vr k < 11 ∧ gi k = nI (iv k).toNat) (hP : ∀ (h1 : AH) (g19' g27' : Nat → Int32) (gI gR : Nat → Int64), (∀ x, x ≠ d → x ≠ d + 11 → x ≠ d + 12 → x ≠ d + 19 → x ≠ d + 27 → h1 x = h x) → h1 d = some (.inr (0, dwF d I R L K V cc (fP K R ow 212).length)) → h1 (d + 11) = some (.inl (1, 32, .inr (.inl gI))) → h1 (d + 12) = some (.inl (1, 64, .inr (.inl gR))) → h1 (d + 19) = some (.inl (0, 132, .inl g19')) → rowL g19' (fP K R ow 212) → h1 (d + 27) = some (.inl (0, 64 * 2 ^ I, .inl g27')) → (∀ x j, x < 32 → j < 64 → bl (gI x) j = (decide (j < K) && (decide (6 ≤ vr j) && ((64 * x).testBit (vr j) ^^ iv j)))) → (∀ x j, x < 64 → j < 64 → bl (gR x) j = (decide (j < K) && (decide (vr j < 6) && (x.testBit (vr j) ^^ iv j)))) → (∀ on up, on < 2 ^ I → up < 64 → g27' (64 * on + up) = nI (bsum (fun c => cirB R L c && decide (wk wc wo (gI on ||| gR up) 40 40 (g10 c) = -1)) 11)) → Post none h1 nx) : Runs l G i_X0_complete 0 0 [.ref d] h nx Post := by
  have hpi : 2 ^ I ≤ 32 := Nat.pow_le_pow_right (n := 2) (by decide) hI
  have tabs : ∀ (h1 : AH) (g' : Nat → Int32), (∀ x, x ≠ d → x ≠ d + 19 → h1 x = h x) → h1 d = some (.inr (0, dwF d I R L K V cc (fP K R ow 212).length)) → h1 (d + 19) = some (.inl (0, 132, .inl g')) → rowL g' (fP K R ow 212) → Go l G 0 s_X0_complete 0 0 Post 122 [(0, .ref d)] [] h1 nx 0 0 := by
    intro h1 g' f0 e0 e19 pl
    have k6 := (f0 (d + 6) (by omega) (by omega)).trans h6
    have kR : wiR h1 (d + 7) 40 gv gb gi wc wo gc go ge := by
      obtain ⟨r6, r7, r8, r9, r10, r0, r1, r2⟩ := hR
      exact ⟨(f0 _ (by omega) (by omega)).trans r6, (f0 _ (by omega) (by omega)).trans r7, (f0 _ (by omega) (by omega)).trans r8, (f0 _ (by omega) (by omega)).trans r9, (f0 _ (by omega) (by omega)).trans r10, (f0 _ (by omega) (by omega)).trans r0, (f0 _ (by omega) (by omega)).trans r1, (f0 _ (by omega) (by omega)).trans r2⟩
    refine Go.of hX.2 ck_X0_complete [135] 40 ?_
    refine Exists.intro _ (And.intro e0 (Exists.intro _ (And.intro rfl ?_)))
    refine Exists.intro _ (And.intro e0 (Exists.intro _ (And.intro rfl ?_)))
    refine Exists.intro _ (And.intro k6 (Exists.intro 0 (Exists.intro 0 (And.intro (Nat.le_refl _) (And.intro (Nat.le_refl _) (x_fillTables (vr := vr) (iv := iv) hX k6 kR ((f0 _ (by omega) (by omega)).trans h11) ((f0 _ (by omega) (by omega)).trans h12) hK hv (by omega) (fun h2 gI gR y1 y2 y3 y4 y5 => ?_)))))))
    have e0' := (y1 d (by omega) (by omega)).trans e0
    have loop : ∀ (r w : Nat) (h3 : AH) (g : Nat → Int32), w + r = 64 * 2 ^ I → (∀ x, x ≠ d + 27 → h3 x = h2 x) → h3 (d + 27) = some (.inl (0, 64 * 2 ^ I, .inl g)) → (∀ on up, up < 64 → 64 * on + up < w → g (64 * on + up) = nI (bsum (fun c => cirB R L c && decide (wk wc wo (gI on ||| gR up) 40 40 (g10 c) = -1)) 11)) → Go l G 0 s_X0_complete 0 0 Post 135 [(1, .int (nI w)), (0, .ref d)] [] h3 nx 0 0 := by
      intro r
      induction r with
      | zero =>
        intro w h3 g hw f3 e27 pg
        have d0 := (f3 d (by omega)).trans e0'
        refine Go.of hX.2 ck_X0_complete [] 20 ?_
        refine Exists.intro _ (And.intro d0 (Exists.intro _ (And.intro rfl ?_)))
        refine Exists.intro _ (Exists.intro _ (And.intro e27 (And.intro (by decide) ?_)))
        refine And.intro (fun _ => ?_) (fun cz => absurd ((show nI (64 * 2 ^ I) ≤ nI w from nI_le (by omega) (by omega))) cz)
        exact hP h3 g' g gI gR (fun x a1 a2 a3 a4 a5 => (f3 x a5).trans ((y1 x (by omega) (by omega)).trans (f0 x a1 a4))) d0 ((f3 _ (by omega)).trans y2) ((f3 _ (by omega)).trans y3) ((f3 _ (by omega)).trans ((y1 _ (by omega) (by omega)).trans e19)) pl e27 y4 y5 (fun on up h1 h2 => pg on up h2 (by omega))
      | succ r ih =>
        intro w h3 g hw f3 e27 pg
        have d0 := (f3 d (by omega)).trans e0'
        have k6 := (f3 (d + 6) (by omega)).trans ((y1 (d + 6) (by omega) (by omega)).trans k6)
        have k10 := (f3 (d + 10) (by omega)).trans ((y1 (d + 10) (by omega) (by omega)).trans ((f0 (d + 10) (by omega) (by omega)).trans h10))
        have k16 := (f3 (d + 16) (by omega)).trans ((y1 (d + 16) (by omega) (by omega)).trans kR.2.2.2.1)
        have k17 := (f3 (d + 17) (by omega)).trans ((y1 (d + 17) (by omega) (by omega)).trans kR.2.2.2.2.1)
        have cb := cbits R hRR L hLL
        have wlt : w < 64 * 2 ^ I := by omega
        have w64 : w / 64 < 32 := by omega
        have ew : ((nI w >>> ((6 : Int32) &&& 31)) &&& 31).toNatClampNeg = w / 64 ∧ (nI w &&& 63).toNatClampNeg = w % 64 := by
          refine ⟨?_, ?_⟩
          · rw [show (nI w >>> ((6 : Int32) &&& 31)) = nI (w >>> 6) from nx_shr (k := 6) (by omega) (by decide), show (31 : Int32) = nI 31 from rfl, nx_and, show (31 : Nat) = 2 ^ 5 - 1 from rfl, Nat.and_two_pow_sub_one_eq_mod, Nat.shiftRight_eq_div_pow, Nat.mod_eq_of_lt (show w / 2 ^ 6 < 2 ^ 5 by omega), nI_clamp (by omega)]
          · rw [show (63 : Int32) = nI 63 from rfl, nx_and, show (63 : Nat) = 2 ^ 6 - 1 from rfl, Nat.and_two_pow_sub_one_eq_mod, nI_clamp (by omega)]
        refine Go.of hX.2 ck_X0_complete [135] 60 ?_
        refine Exists.intro _ (And.intro d0 (Exists.intro _ (And.intro rfl ?_)))
        refine Exists.intro _ (Exists.intro _ (And.intro e27 (And.intro (by decide) ?_)))
        refine And.intro (fun cz => absurd cz ((show ¬ nI (64 * 2 ^ I) ≤ nI w from nI_ge wlt (by omega)))) (fun _ => ?_)
        refine Exists.intro _ (And.intro d0 (Exists.intro _ (And.intro rfl ?_)))
        refine Exists.intro _ (And.intro d0 (Exists.intro _ (And.intro rfl ?_)))
        refine Exists.intro _ (And.intro d0 (Exists.intro 0 (Exists.intro 0 (And.intro (Nat.le_refl _) (And.intro (Nat.le_refl _) (c_circuitBits hX d0 rfl rfl ?_))))))
        rw [cb]
        refine Exists.intro _ (And.intro d0 (Exists.intro _ (And.intro rfl ?_)))
        refine Exists.intro _ (And.intro k6 (Exists.intro 0 (Exists.intro 0 (And.intro (Nat.le_refl _) (And.intro (Nat.le_refl _) (c_contactsAt hX k6 rfl rfl ((f3 _ (by omega)).trans y2) ((f3 _ (by omega)).trans y3) ?_))))))
        rw [ew.1, ew.2]
        refine Exists.intro _ (And.intro k6 (Exists.intro 0 (Exists.intro 0 (And.intro (Nat.le_refl _) (And.intro (Nat.le_refl _) (c_circuitsWith (wh := bsum (cirB R L) 11) hX k6 rfl rfl rfl rfl k10 k16 k17 (by decide) (Nat.lt_of_lt_of_le (bsum_lt _ 11) (by decide)) ?_))))))
        refine Exists.intro _ (Exists.intro _ (And.intro e27 (And.intro (vp_in_nI wlt (by omega)) ?_)))
        rw [nI_clamp (show w < 2 ^ 31 by omega)]
        refine go_loc (lv' := [(1, .int (nI w + 1)), (0, .ref d)]) ⟨rfl, rfl, trivial⟩ ?_
        rw [← nI_succ]
        refine ih (w + 1) _ _ (by omega) (fun x hx => (uph_ne hx).trans (f3 x hx)) uph_eq (fun on up h1 h2 => ?_)
        by_cases c : 64 * on + up = w
        · rw [c, pk_us, show w / 64 = on by omega, show w % 64 = up by omega]
          congr 1
          refine bsum_congr (fun i hi => ?_)
          rw [bsum_tb, decide_eq_true hi, Bool.true_and]
        · rw [pk_un c]
          exact pg on up h1 (by omega)
    refine go_loc (lv' := [(1, .int (nI 0)), (0, .ref d)]) ⟨rfl, rfl, trivial⟩ ?_
    exact loop (64 * 2 ^ I) 0 h2 g27 (Nat.zero_add _) (fun _ _ => rfl) ((y1 _ (by omega) (by omega)).trans ((f0 _ (by omega) (by omega)).trans h27)) (fun on up _ h2 => absurd h2 (Nat.not_lt_zero _))
  have relays : ∀ (m r : Nat) (h1 : AH) (g' : Nat → Int32), r + m = R → (∀ x, x ≠ d → x ≠ d + 19 → h1 x = h x) → h1 d = some (.inr (0, dwF d I R L K V cc (fP K R ow (200 + 2 * r)).length)) → h1 (d + 19) = some (.inl (0, 132, .inl g')) → rowL g' (fP K R ow (200 + 2 * r)) → Go l G 0 s_X0_complete 0 0 Post 84 [(1, .int (nI r)), (0, .ref d)] [] h1 nx 0 0 := by
    intro m
    induction m with
    | zero =>
      intro r h1 g' hr f0 e0 e19 pl
      have e : r = R := by omega
      rw [e, ← fP_end hRR] at e0 pl
      refine Go.of hX.2 ck_X0_complete [122] 20 ?_
      refine Exists.intro _ (And.intro e0 (Exists.intro _ (And.intro rfl ?_)))
      refine And.intro (fun _ => ?_) (fun cz => absurd (nI_le (a := R) (b := r) (by omega) (by omega)) cz)
      exact go_loc (lv' := [(0, .ref d)]) ⟨rfl, trivial⟩ (tabs h1 g' f0 e0 e19 pl)
    | succ m ih =>
      intro r h1 g' hr f0 e0 e19 pl
      have hlen := fP_lenr (K := K) (R := R) (ow := ow) hK r (by omega)
      have ih := ih (r + 1)
      rw [fP_r (show r < R by omega)] at ih
      have x1 : (200 : Int32) + (2 : Int32) * nI r = nI (200 + 2 * r) := by rw [show (2 : Int32) = nI 2 from rfl, nI_mul, show (200 : Int32) = nI 200 from rfl, nI_add]
      refine Go.of hX.2 ck_X0_complete [84] 60 ?_
      refine Exists.intro _ (And.intro e0 (Exists.intro _ (And.intro rfl ?_)))
      refine And.intro (fun cz => absurd cz (nI_ge (a := r) (b := R) (by omega) (by omega))) (fun _ => ?_)
      refine Exists.intro _ (And.intro e0 (Exists.intro 0 (Exists.intro 0 (And.intro (Nat.le_refl _) (And.intro (Nat.le_refl _) ?_)))))
      rw [x1]
      refine x_addFlawL hX e0 e19 pl (by omega) (fun h2 g2 y1 y2 y3 y4 => ?_)
      refine Exists.intro _ (And.intro y2 (Exists.intro 0 (Exists.intro 0 (And.intro (Nat.le_refl _) (And.intro (Nat.le_refl _) ?_)))))
      rw [x1, ← nI_succ]
      refine x_addFlawL hX y2 y3 y4 (by rw [List.length_append, List.length_singleton]; omega) (fun h3 g3 z1 z2 z3 z4 => ?_)
      refine go_loc (lv' := [(1, .int (nI r + 1)), (0, .ref d)]) ⟨rfl, rfl, trivial⟩ ?_
      rw [← nI_succ]
      exact ih h3 g3 (by omega) (fun x a1 a2 => (z1 x a1 a2).trans ((y1 x a1 a2).trans (f0 x a1 a2))) z2 z3 z4
  have contacts : ∀ (m k : Nat) (h1 : AH) (g' : Nat → Int32), k + m = K → (∀ x, x ≠ d → x ≠ d + 19 → h1 x = h x) → h1 d = some (.inr (0, dwF d I R L K V cc (fP K R ow (4 * k)).length)) → h1 (d + 19) = some (.inl (0, 132, .inl g')) → rowL g' (fP K R ow (4 * k)) → Go l G 0 s_X0_complete 0 0 Post 2 [(1, .int (nI k)), (0, .ref d)] [] h1 nx 0 0 := by
    intro m
    induction m with
    | zero =>
      intro k h1 g' hk f0 e0 e19 pl
      have e : k = K := by omega
      rw [e, ← fP_200 hK] at e0 pl
      refine Go.of hX.2 ck_X0_complete [84] 20 ?_
      refine Exists.intro _ (And.intro e0 (Exists.intro _ (And.intro rfl ?_)))
      refine And.intro (fun _ => ?_) (fun cz => absurd (nI_le (a := K) (b := k) (by omega) (by omega)) cz)
      exact go_loc (lv' := [(1, .int (nI 0)), (0, .ref d)]) ⟨rfl, rfl, trivial⟩ (relays R 0 h1 g' (Nat.zero_add _) f0 e0 e19 pl)
    | succ m ih =>
      intro k h1 g' hk f0 e0 e19 pl
      have hlen := fP_len (K := K) (R := R) (ow := ow) hK k (by omega)
      have ih := ih (k + 1)
      rw [show 4 * (k + 1) = 4 * k + 4 by omega, fP_4 (show k < K by omega) hK] at ih
      have x0 : (4 : Int32) * nI k = nI (4 * k) := by rw [show (4 : Int32) = nI 4 from rfl, nI_mul]
      have at76 : ∀ (h3 : AH) (g3 : Nat → Int32), (∀ x, x ≠ d → x ≠ d + 19 → h3 x = h x) → h3 d = some (.inr (0, dwF d I R L K V cc ((fP K R ow (4 * k) ++ [4 * k] ++ [4 * k + 1]) ++ (if k + 1 < K ∧ ow k = ow (k + 1) then [4 * k + 2] else [])).length)) → h3 (d + 19) = some (.inl (0, 132, .inl g3)) → rowL g3 ((fP K R ow (4 * k) ++ [4 * k] ++ [4 * k + 1]) ++ (if k + 1 < K ∧ ow k = ow (k + 1) then [4 * k + 2] else [])) → Go l G 0 s_X0_complete 0 0 Post 76 [(1, .int (nI k)), (0, .ref d)] [] h3 nx 0 0 := by
        intro h3 g3 y1 y2 y3 y4
        have := ih h3 g3 (by omega) y1 y2 y3 y4
        rw [nI_succ k] at this
        refine Go.of hX.2 ck_X0_complete [2] 5 ?_
        exact go_loc (lv' := [(1, .int (nI k + 1)), (0, .ref d)]) ⟨rfl, rfl, trivial⟩ (this)
      refine Go.of hX.2 ck_X0_complete [76] 90 ?_
      refine Exists.intro _ (And.intro e0 (Exists.intro _ (And.intro rfl ?_)))
      refine And.intro (fun cz => absurd cz (nI_ge (a := k) (b := K) (by omega) (by omega))) (fun _ => ?_)
      refine And.intro (fun cz => absurd cz (nI_ge (a := k) (b := 40) (by omega) (by decide))) (fun _ => ?_)
      refine Exists.intro _ (And.intro e0 (Exists.intro 0 (Exists.intro 0 (And.intro (Nat.le_refl _) (And.intro (Nat.le_refl _) ?_)))))
      rw [x0]
      refine x_addFlawL hX e0 e19 pl (by omega) (fun h2 g2 y1 y2 y3 y4 => ?_)
      refine Exists.intro _ (And.intro y2 (Exists.intro 0 (Exists.intro 0 (And.intro (Nat.le_refl _) (And.intro (Nat.le_refl _) ?_)))))
      rw [x0, ← nI_succ]
      refine x_addFlawL hX y2 y3 y4 (by rw [List.length_append, List.length_singleton]; omega) (fun h3 g3 z1 z2 z3 z4 => ?_)
      have f3 : ∀ x, x ≠ d → x ≠ d + 19 → h3 x = h x := fun x a1 a2 => (z1 x a1 a2).trans ((y1 x a1 a2).trans (f0 x a1 a2))
      have none_ : ¬ (k + 1 < K ∧ ow k = ow (k + 1)) → Go l G 0 s_X0_complete 0 0 Post 76 [(1, .int (nI k)), (0, .ref d)] [] h3 nx 0 0 := fun hno => by
        rw [if_neg hno, List.append_nil] at at76
        exact at76 h3 g3 f3 z2 z3 z4
      refine Exists.intro _ (And.intro z2 (Exists.intro _ (And.intro rfl ?_)))
      by_cases c1 : k + 1 < K
      · refine And.intro (fun cz => absurd cz (show ¬ nI K ≤ nI k + 1 from by rw [← nI_succ]; exact nI_ge (a := k + 1) (b := K) c1 (by omega))) (fun _ => ?_)
        refine And.intro (fun cz => absurd cz (show ¬ nI 40 ≤ nI k + 1 from by rw [← nI_succ]; exact nI_ge (a := k + 1) (b := 40) (by omega) (by decide))) (fun _ => ?_)
        have k18 := (f3 (d + 18) (by omega) (by omega)).trans h18
        refine Exists.intro _ (And.intro z2 (Exists.intro _ (And.intro rfl ?_)))
        refine Exists.intro _ (Exists.intro _ (And.intro k18 (And.intro (vp_in_nI (show k < 40 by omega) (by decide)) ?_)))
        rw [nI_clamp (show k < 2 ^ 31 by omega), (how k (by omega)).1]
        refine Exists.intro _ (And.intro z2 (Exists.intro _ (And.intro rfl ?_)))
        refine Exists.intro _ (Exists.intro _ (And.intro k18 (And.intro (by rw [← nI_succ]; exact vp_in_nI (show k + 1 < 40 by omega) (by decide)) ?_)))
        rw [← nI_succ, nI_clamp (show k + 1 < 2 ^ 31 by omega), (how (k + 1) c1).1]
        have o1 := (how k (by omega)).2
        have o2 := (how (k + 1) c1).2
        by_cases c2 : ow k = ow (k + 1)
        · rw [if_pos ⟨c1, c2⟩] at at76
          refine And.intro (fun cz => absurd (show nI (ow k) = nI (ow (k + 1)) from by rw [c2]) cz) (fun _ => ?_)
          refine Exists.intro _ (And.intro z2 (Exists.intro 0 (Exists.intro 0 (And.intro (Nat.le_refl _) (And.intro (Nat.le_refl _) ?_)))))
          rw [x0, show nI (4 * k) + 2 = nI (4 * k + 2) from nI_add (4 * k) 2]
          refine x_addFlawL hX z2 z3 z4 (by rw [List.length_append, List.length_singleton, List.length_append, List.length_singleton]; omega) (fun h4 g4 t1 t2 t3 t4 => ?_)
          exact go_loc (lv' := [(1, .int (nI k)), (0, .ref d)]) ⟨rfl, rfl, trivial⟩ (at76 h4 g4 (fun x a1 a2 => (t1 x a1 a2).trans (f3 x a1 a2)) t2 t3 t4)
        · refine And.intro (fun _ => ?_) (fun cz => absurd cz (fun z => c2 ((nI_eq (by omega) (by omega)).mp z)))
          exact go_loc (lv' := [(1, .int (nI k)), (0, .ref d)]) ⟨rfl, rfl, trivial⟩ (none_ (fun z => c2 z.2))
      · refine And.intro (fun _ => ?_) (fun cz => absurd (show nI K ≤ nI k + 1 from by rw [← nI_succ]; exact nI_le (a := K) (b := k + 1) (by omega) (by omega)) cz)
        exact go_loc (lv' := [(1, .int (nI k)), (0, .ref d)]) ⟨rfl, rfl, trivial⟩ (none_ (fun z => c1 z.1))
  refine en_X0_complete hX [2] 10 rfl ?_
  exact go_loc (lv' := [(1, .int (nI 0)), (0, .ref d)]) ⟨rfl, rfl, trivial⟩ (contacts K 0 h g19 (Nat.zero_add _) (fun _ _ _ => rfl) hd h19 (fun i hi => absurd hi (Nat.not_lt_zero i)))
set_option maxHeartbeats 8000000 in
theorem x_addNever {l : Launch} {G : GG} {h : AH} {nx : Nat} {Post : Option Value → AH → Nat → Prop} {d w b gr I R L K V cc fc S : Nat} {vr : Nat → Nat} {iv : Nat → Bool} {ov : Nat → Nat} {g28 gv gb gi wc wo gc go ge : Nat → Int32} (hX : XC G ∧ TX l G) (hd : h d = some (.inr (0, dwF d I R L K V cc fc))) (h28 : h (d + 28) = some (.inl (2, 64 * 2 ^ I, .inl g28))) (hI : I ≤ 5) (hg : gr < 5) (ho : ∀ x, x < 64 * 2 ^ I → g28 x = nI (ov x) ∧ ov x < 32) (hw : h w = some (.inr (10, wiF b S))) (hR : wiR h b S gv gb gi wc wo gc go ge) (hS : S ≤ 400) (hv : ∀ k, k < S → gv k = nI (vr k) ∧ vr k < 30 ∧ gi k = nI (iv k).toNat) (hfar : d + 29 ≤ w ∧ d + 29 ≤ b) (hP : ∀ (h1 : AH) (g' : Nat → Int32), (∀ x, x ≠ d → x ≠ d + 28 → h1 x = h x) → h1 d = some (.inr (0, dwF d I R L K (V + 1) cc fc)) → h1 (d + 28) = some (.inl (2, 64 * 2 ^ I, .inl g')) → (∀ x, x < 64 * 2 ^ I → g' x = nI (ov x ||| (if wkP (pwW vr iv x) wc wo S S (nI 0) = -1 then 2 ^ gr else 0))) → Post none h1 nx) : Runs l G i_X0_addNever 0 0 [.ref d, .int (nI gr), .ref w] h nx Post := by
  have hpi : 2 ^ I ≤ 32 := Nat.pow_le_pow_right (n := 2) (by decide) hI
  have p2 : 2 ^ gr < 32 := by
    show 2 ^ gr < 2 ^ 5
    exact Nat.pow_lt_pow_right (by decide) hg
  have loop : ∀ (r x : Nat) (h1 : AH) (g' : Nat → Int32), x + r = 64 * 2 ^ I → (∀ y, y ≠ d → y ≠ d + 28 → h1 y = h y) → h1 d = some (.inr (0, dwF d I R L K (V + 1) cc fc)) → h1 (d + 28) = some (.inl (2, 64 * 2 ^ I, .inl g')) → (∀ y, y < x → g' y = nI (ov y ||| (if wkP (pwW vr iv y) wc wo S S (nI 0) = -1 then 2 ^ gr else 0))) → (∀ y, x ≤ y → y < 64 * 2 ^ I → g' y = nI (ov y)) → Go l G 0 s_X0_addNever 0 0 Post 12 [(3, .int (nI x)), (0, .ref d), (1, .int (nI gr)), (2, .ref w)] [] h1 nx 0 0 := by
    intro r
    induction r with
    | zero =>
      intro x h1 g' hx f1 e0 e28 pa pb
      have e : x = 64 * 2 ^ I := by omega
      refine Go.of hX.2 ck_X0_addNever [] 20 ?_
      refine Exists.intro _ (And.intro e0 (Exists.intro _ (And.intro rfl ?_)))
      refine Exists.intro _ (Exists.intro _ (And.intro e28 (And.intro (by decide) ?_)))
      refine And.intro (fun _ => ?_) (fun cz => absurd ((show nI (64 * 2 ^ I) ≤ nI x from nI_le (by omega) (by omega))) cz)
      exact hP h1 g' f1 e0 e28 (fun y hy => pa y (by omega))
    | succ r ih =>
      intro x h1 g' hx f1 e0 e28 pa pb
      have xlt : x < 64 * 2 ^ I := by omega
      obtain ⟨o1, o2⟩ := ho x xlt
      have hw1 := (f1 w (by omega) (by omega)).trans hw
      have hR1 : wiR h1 b S gv gb gi wc wo gc go ge := by
        obtain ⟨r6, r7, r8, r9, r10, r0, r1, r2⟩ := hR
        exact ⟨(f1 _ (by omega) (by omega)).trans r6, (f1 _ (by omega) (by omega)).trans r7, (f1 _ (by omega) (by omega)).trans r8, (f1 _ (by omega) (by omega)).trans r9, (f1 _ (by omega) (by omega)).trans r10, (f1 _ (by omega) (by omega)).trans r0, (f1 _ (by omega) (by omega)).trans r1, (f1 _ (by omega) (by omega)).trans r2⟩
      have nxt : ∀ (h2 : AH) (g2 : Nat → Int32), (∀ y, y ≠ d → y ≠ d + 28 → h2 y = h y) → h2 d = some (.inr (0, dwF d I R L K (V + 1) cc fc)) → h2 (d + 28) = some (.inl (2, 64 * 2 ^ I, .inl g2)) → (∀ y, y ≠ x → g2 y = g' y) → g2 x = nI (ov x ||| (if wkP (pwW vr iv x) wc wo S S (nI 0) = -1 then 2 ^ gr else 0)) → Go l G 0 s_X0_addNever 0 0 Post 48 [(3, .int (nI x)), (0, .ref d), (1, .int (nI gr)), (2, .ref w)] [] h2 nx 0 0 := by
        intro h2 g2 y1 y2 y3 y4 y5
        have := ih (x + 1) h2 g2 (by omega) y1 y2 y3 (fun y hy => by
          by_cases c : y = x
          · rw [c]; exact y5
          · rw [y4 y c]; exact pa y (by omega)) (fun y h1 h2 => by rw [y4 y (by omega)]; exact pb y (by omega) h2)
        rw [nI_succ] at this
        refine Go.of hX.2 ck_X0_addNever [12] 5 ?_
        exact go_loc (lv' := [(3, .int (nI x + 1)), (0, .ref d), (1, .int (nI gr)), (2, .ref w)]) ⟨rfl, rfl, rfl, rfl, trivial⟩ (this)
      have px := pb x (Nat.le_refl x) xlt
      refine Go.of hX.2 ck_X0_addNever [48] 60 ?_
      refine Exists.intro _ (And.intro e0 (Exists.intro _ (And.intro rfl ?_)))
      refine Exists.intro _ (Exists.intro _ (And.intro e28 (And.intro (by decide) ?_)))
      refine And.intro (fun cz => absurd cz ((show ¬ nI (64 * 2 ^ I) ≤ nI x from nI_ge xlt (by omega)))) (fun _ => ?_)
      refine And.intro (fun cz => absurd cz (nI_pos (show gr < 2 ^ 31 by omega))) (fun _ => ?_)
      refine Exists.intro _ (And.intro hw1 (Exists.intro 0 (Exists.intro 0 (And.intro (Nat.le_refl _) (And.intro (Nat.le_refl _) (x_holds (vr := vr) (iv := iv) hX hw1 hR1 hS hv (by omega) ?_))))))
      by_cases c : wkP (pwW vr iv x) wc wo S S (nI 0) = -1
      · rw [decide_eq_true c]
        refine And.intro (fun cz => by first | exact absurd cz (by decide) | exact absurd (by decide) cz) (fun _ => ?_)
        refine Exists.intro _ (And.intro e0 (Exists.intro _ (And.intro rfl ?_)))
        refine Exists.intro 2 (Exists.intro _ (Exists.intro _ (And.intro e28 (And.intro (Or.inl rfl) (And.intro (vp_in_nI xlt (by omega)) ?_)))))
        rw [nI_clamp (show x < 2 ^ 31 by omega), px]
        refine Exists.intro 2 (Exists.intro _ (Exists.intro _ (And.intro e28 (And.intro (Or.inl rfl) (And.intro (vp_in_nI xlt (by omega)) ?_)))))
        rw [nI_clamp (show x < 2 ^ 31 by omega)]
        refine go_loc (lv' := [(3, .int (nI x)), (0, .ref d), (1, .int (nI gr)), (2, .ref w)]) ⟨rfl, rfl, rfl, rfl, trivial⟩ ?_
        have eb : vp_nar (TY 2) ((nI (ov x) ||| ((1 : Int32) <<< (nI gr &&& 31)).toInt8.toInt32).toInt8.toInt32) = nI (ov x ||| 2 ^ gr) := by
          have h32 : ov x ||| 2 ^ gr < 32 := Nat.or_lt_two_pow (n := 5) o2 p2
          rw [nx_pow (by omega), (i2b_c _ p2).1, nx_or, (i2b_c _ h32).1, (i2b_c _ h32).2]
        rw [eb]
        exact nxt _ _ (fun y a1 a2 => (uph_ne a2).trans (f1 y a1 a2)) ((uph_ne (by omega)).trans e0) uph_eq (fun y hy => pk_un hy) (by rw [pk_us, if_pos c])
      · rw [decide_eq_false c]
        refine And.intro (fun _ => ?_) (fun cz => by first | exact absurd cz (by decide) | exact absurd (by decide) cz)
        exact go_loc (lv' := [(3, .int (nI x)), (0, .ref d), (1, .int (nI gr)), (2, .ref w)]) ⟨rfl, rfl, rfl, rfl, trivial⟩ (nxt h1 g' f1 e0 e28 (fun _ _ => rfl) (by rw [px, if_neg c, Nat.or_zero]))
  refine en_X0_addNever hX [12] 20 rfl ?_
  refine Exists.intro _ (And.intro hd (Exists.intro _ (And.intro rfl ?_)))
  refine Exists.intro _ (And.intro hd (And.intro (Nat.le_of_ble_eq_true rfl) (And.intro rfl (And.intro rfl ?_))))
  refine go_loc (lv' := [(3, .int (nI 0)), (0, .ref d), (1, .int (nI gr)), (2, .ref w)]) ⟨rfl, rfl, rfl, rfl, trivial⟩ ?_
  refine loop (64 * 2 ^ I) 0 _ g28 (Nat.zero_add _) (fun y a1 a2 => uph_ne a1) (uph_eq.trans ?_) ((uph_ne (by omega)).trans h28) (fun y hy => absurd hy (Nat.not_lt_zero y)) (fun y _ hy => (ho y hy).1)
  unfold dwF
  rw [nI_succ V]
  rfl
