/-! x draws the nevers of a text -/
theorem nmL_s {kd : Nat → Nat} {a m : Nat} : nmL kd a (m + 1) = nmL kd a m ++ (if kd (a + m) = 2 then [a + m] else []) := by
  unfold nmL
  rw [sqL_app, List.filter_append]
  congr 1
  split
  · next h => rw [List.filter_cons_of_pos (by exact decide_eq_true h)]; rfl
  · next h => rw [List.filter_cons_of_neg (by rw [decide_eq_true_eq]; exact h)]; rfl
theorem nmL_len {kd : Nat → Nat} {a : Nat} : ∀ m, (nmL kd a m).length = nmE (sqL kd a m)
  | 0 => rfl
  | m + 1 => by
    rw [nmL_s, List.length_append, nmL_len m, nmE_s]
    congr 1
    split <;> rfl
theorem nmL_at {kd : Nat → Nat} {a x : Nat} (hk : kd (a + x) = 2) : ∀ m, x < m → (nmL kd a m).getD (nmE (sqL kd a x)) 0 = a + x
  | 0, h => absurd h (Nat.not_lt_zero x)
  | m + 1, h => by
    have hl := nmL_len (kd := kd) (a := a) m
    rw [nmL_s]
    by_cases c : x = m
    · subst c
      rw [if_pos hk, getD_app, if_neg (by omega), if_pos hl.symm]
    · have h1 := nmE_mo (kd := kd) (a := a) (show x + 1 ≤ m by omega)
      rw [nmE_s, if_pos hk] at h1
      have ih := nmL_at hk m (by omega)
      by_cases c2 : kd (a + m) = 2
      · rw [if_pos c2, getD_app, if_pos (by omega)]
        exact ih
      · rw [if_neg c2, List.append_nil]
        exact ih
/-- each name of a circuit by its number -/
theorem nm_ex {kd : Nat → Nat} {a m k : Nat} (hk : k < nmE (sqL kd a m)) : ∃ x, x < m ∧ kd (a + x) = 2 ∧ nmE (sqL kd a x) = k := by
  obtain ⟨x, _, hx, e1, e2⟩ := z_reach (f := fun x => nmE (sqL kd a x)) (i := 0) (k := k) (m := m) (Nat.zero_le _) (by rw [Nat.zero_add]; exact hk) (fun q _ _ => by
    show nmE (sqL kd a (q + 1)) ≤ nmE (sqL kd a q) + 1
    rw [nmE_s]
    split <;> omega)
  have e1 : nmE (sqL kd a x) = k := e1
  have e2 : nmE (sqL kd a (x + 1)) = k + 1 := e2
  rw [nmE_s] at e2
  refine ⟨x, by omega, ?_, e1⟩
  split at e2
  · assumption
  · omega
theorem ntW_c {kd : Nat → Nat} {N a x : Nat} (h : TXT kd N) (ha : a ≤ N) (hs : zS (zz kd a) = 10) (hd : zD (zz kd a) = 0) (hx : x < cLc kd N a) : ntW kd a (a + x) = decide (zS (zz kd (a + x)) = 11) := by
  obtain ⟨_, c2, _, _, c5, c6⟩ := seg_c h ha hs hd
  unfold ntW
  cases x with
  | zero =>
    rw [decide_eq_false (by omega), Bool.false_and, Nat.add_zero, hs]
    rfl
  | succ y =>
    rw [decide_eq_true (show a < a + (y + 1) by omega), Bool.true_and]
    show decide (kd (a + y) = 14) = decide (zS (zz kd (a + y + 1)) = 11)
    obtain ⟨s, h1, h2, e, _⟩ := h.st (show a + y < N by omega)
    have hz := zfr h2 (c5 y (by omega)).2.2.2.2.2.1 h1
    rw [e, zA_S]
    refine decide_eq_decide.mpr ?_
    omega
/-- a name in a never's circuit, by a word -/
def lfW (kd : Nat → Nat) (vl : Nat → Int64) (N tr w t : Nat) : Bool := w.testBit (vcT kd vl N t) ^^ (decide (zS (zz kd t) = 11) ^^ tr.testBit (vcT kd vl N t))
def NVw (kd : Nat → Nat) (vl : Nat → Int64) (N tr k w : Nat) : Bool := CTk (sqL kd (tkV kd N k) (cLc kd N (tkV kd N k))) 0 (fun j => lfW kd vl N tr w ((nmL kd (tkV kd N k) (cLc kd N (tkV kd N k))).getD j 0))
def lpW (kd : Nat → Nat) (vl : Nat → Int64) (N k : Nat) : Nat := (zG kd vl (toL kd N) (vl (tkX kd N k))).getD 0
/-- how many nevers are drawn when the loop stands at token i -/
def kvT (kd : Nat → Nat) (i : Nat) : Nat := if zS (zz kd i) = 8 ∨ zS (zz kd i) = 9 then zV (zz kd i) - 1 else zV (zz kd i)
theorem kv_s {kd : Nat → Nat} {N i : Nat} (h : TXT kd N) (hi : i < N) : kvT kd (i + 1) = if zS (zz kd i) = 9 then kvT kd i + 1 else kvT kd i := by
  obtain ⟨s, h1, h2, e, _⟩ := h.st hi
  have to := zto h2 h1
  have ac := zac h2 h1
  have p3 := (h.p (show i ≤ N by omega)).2.2
  unfold kvT
  rw [e, zA_S, zA_V]
  by_cases c9 : zS (zz kd i) = 9
  · have := ac.2.1 c9
    have := p3 (Or.inr c9)
    rw [if_pos c9, if_pos (Or.inr c9), if_neg (by omega), if_neg (by omega)]
    omega
  · rw [if_neg c9]
    by_cases c8 : zS (zz kd i) = 8
    · have := ac.2.2.2.1 c8
      rw [if_pos (Or.inr this.2), if_pos (Or.inl c8), if_neg (by omega)]
    · rw [if_neg (show ¬ (zS (zz kd i) = 8 ∨ zS (zz kd i) = 9) by omega)]
      by_cases cs : s = 8 ∨ s = 9
      · have : s = 8 := by
          rcases cs with z | z
          · exact z
          · have := to.2.2.2.2.1 z; omega
        have := to.2.2.2.1 this
        rw [if_pos cs, if_pos this]
        omega
      · rw [if_neg cs, if_neg (fun z => by
          obtain ⟨z1, z2⟩ := z
          rw [z1, z2] at h1
          have h1 : some 8 = some s := h1
          injection h1 with h1
          omega)]
/-- the arrays of the wiring that nevers share -/
def okV (gv gi : Nat → Int32) : Prop := ∀ k, k < 400 → (∃ v, v < 30 ∧ gv k = nI v) ∧ ∃ b : Bool, gi k = nI b.toNat
set_option maxHeartbeats 8000000 in
theorem x_drawNevers {l : Launch} {G : GG} {h : AH} {nx : Nat} {Post : Option Value → AH → Nat → Prop} {r d N I R L K cc fc : Nat} {pl : Int32} {z : ZT} {kd pf : Nat → Nat} {vl : Nat → Int64} {st : Nat → Nat} {g2 g28 : Nat → Int32} (hX : XC G ∧ TX l G) (hr : h r = some (.inr (6, rdO r N pl z))) (hA : rwA h r N kd pf vl (cfJ kd vl N N)) (hB : rwB h r kd vl (toL kd N)) (hL : (toL kd N).length = zI z + zR z + zL z) (hL2 : (toL kd N).length ≤ 16) (hT : TXT kd N) (hN : N ≤ 400) (hF : ∀ i, i < N → fX kd vl N i = 0) (hd : h d = some (.inr (0, dwF d I R L K 0 cc fc))) (h2 : h (d + 2) = some (.inl (0, 16, .inl g2))) (h28 : h (d + 28) = some (.inl (2, 64 * 2 ^ I, .inl g28))) (hI : I ≤ 5) (h0 : ∀ x, x < 64 * 2 ^ I → g28 x = nI 0) (hst : ∀ i, i < 5 → g2 (11 + i) = nI (st i) ∧ st i < 19) (hrd : r + 12 ≤ d) (hdn : d + 29 ≤ nx) (hP : ∀ (h1 : AH) (g' : Nat → Int32), (∀ x, x < nx → x ≠ d → x ≠ d + 28 → h1 x = h x) → h1 d = some (.inr (0, dwF d I R L K (zV (zz kd N)) cc fc)) → h1 (d + 28) = some (.inl (2, 64 * 2 ^ I, .inl g')) → (∀ w, w < 64 * 2 ^ I → g' w = nI (nvF (lpW kd vl N) (fun k => NVw kd vl N (trB st 5) k w) (zV (zz kd N)))) → Post none h1 (nx + 12)) : Runs l G i_X6_drawNevers 12 2320 [.ref r, .ref d] h nx Post := by
  obtain ⟨g4, g5, g6, g8, g7, a4, a5, a6, a7, a8, pa⟩ := id hA
  have htr : trB st 5 < 2 ^ 30 := Nat.lt_of_lt_of_le (bsum_lt _ 11) (by decide)
  have hTT : ∀ t ∈ toL kd N, zT (zz kd t) < 19 := fun t ht => (hT.w (show t ≤ N by have := (told_c hT ht).1; omega)).2.2.1
  have hpi : 2 ^ I ≤ 32 := Nat.pow_le_pow_right (n := 2) (by decide) hI
  have hlp : ∀ k, k < zV (zz kd N) → lpW kd vl N k < 5 := fun k hk => by
    obtain ⟨i, hi, c1, c2, c3, c4, _⟩ := exX hT hk
    obtain ⟨t, g, d1, d2, d3, d4, d5, d6, d7, d8⟩ := green_c hT hF (show i < N by omega) c1
    have := (hT.w (Nat.le_refl N)).2.2.2.2.2.1
    unfold lpW
    rw [c4, d8]
    show g < 5
    omega
  have loop : ∀ (m i : Nat) (h1 : AH) (gg : Int32) (g' gv gb gi wc wo gc go ge : Nat → Int32), i + m = N → (∀ x, x < nx → x ≠ d → x ≠ d + 28 → h1 x = h x) → h1 d = some (.inr (0, dwF d I R L K (kvT kd i) cc fc)) → h1 (d + 28) = some (.inl (2, 64 * 2 ^ I, .inl g')) → (∀ w, w < 64 * 2 ^ I → g' w = nI (nvF (lpW kd vl N) (fun k => NVw kd vl N (trB st 5) k w) (kvT kd i))) → h1 nx = some (.inr (10, wiF (nx + 1) 400)) → wiR h1 (nx + 1) 400 gv gb gi wc wo gc go ge → okV gv gi → (zS (zz kd i) = 9 → gg = nI (lpW kd vl N (kvT kd i))) → Go l G 6 s_X6_drawNevers 12 2320 Post 16 [(4, .int (nI i)), (3, .int gg), (2, .ref nx), (0, .ref r), (1, .ref d)] [] h1 (nx + 12) 12 2312 := by
    intro m
    induction m with
    | zero =>
      intro i h1 gg g' gv gb gi wc wo gc go ge hi f1 e0 e28 p28 eW RW ok hg
      have e : i = N := by omega
      subst e
      have ev : kvT kd i = zV (zz kd i) := by unfold kvT; rw [if_neg (by rw [hT.2.2]; decide)]
      have hr1 := (f1 r (by omega) (by omega) (by omega)).trans hr
      rw [ev] at e0 p28
      refine Go.of hX.2 ck_X6_drawNevers [] 20 ?_
      refine Exists.intro _ (And.intro hr1 (Exists.intro _ (And.intro rfl ?_)))
      refine And.intro (fun _ => ?_) (fun cz => absurd (nI_le (Nat.le_refl i) (by omega)) cz)
      exact hP h1 g' f1 e0 e28 p28
    | succ m ih =>
      intro i h1 gg g' gv gb gi wc wo gc go ge hi f1 e0 e28 p28 eW RW ok hg
      have hiN : i < N := by omega
      have hr1 := (f1 r (by omega) (by omega) (by omega)).trans hr
      have kv := kv_s hT hiN
      obtain ⟨s, h1', h2', e, _⟩ := hT.st hiN
      have ac := zac h2' h1'
      have to := zto h2' h1'
      have eS : zS (zz kd (i + 1)) = s := by rw [e, zA_S]
      have hk19 := hT.1 i
      obtain ⟨p4, p5, p6, p7, p8⟩ := pa i hiN
      have k5 := (f1 (r + 5) (by omega) (by omega) (by omega)).trans a5
      have k4 := (f1 (r + 4) (by omega) (by omega) (by omega)).trans a4
      have k7 := (f1 (r + 7) (by omega) (by omega) (by omega)).trans a7
      have k8 := (f1 (r + 8) (by omega) (by omega) (by omega)).trans a8
      have nxt : ∀ (h2 : AH) (gg' : Int32) (g2' gv' gb' gi' wc' wo' gc' go' ge' : Nat → Int32), (∀ x, x < nx → x ≠ d → x ≠ d + 28 → h2 x = h x) → h2 d = some (.inr (0, dwF d I R L K (kvT kd (i + 1)) cc fc)) → h2 (d + 28) = some (.inl (2, 64 * 2 ^ I, .inl g2')) → (∀ w, w < 64 * 2 ^ I → g2' w = nI (nvF (lpW kd vl N) (fun k => NVw kd vl N (trB st 5) k w) (kvT kd (i + 1)))) → h2 nx = some (.inr (10, wiF (nx + 1) 400)) → wiR h2 (nx + 1) 400 gv' gb' gi' wc' wo' gc' go' ge' → okV gv' gi' → (s = 9 → gg' = nI (lpW kd vl N (kvT kd (i + 1)))) → Go l G 6 s_X6_drawNevers 12 2320 Post 105 [(4, .int (nI i)), (3, .int gg'), (2, .ref nx), (0, .ref r), (1, .ref d)] [] h2 (nx + 12) 12 2312 := by
        intro h2 gg' g2' gv' gb' gi' wc' wo' gc' go' ge' y1 y2 y3 y4 y5 y6 y7 y8
        have := ih (i + 1) h2 gg' g2' gv' gb' gi' wc' wo' gc' go' ge' (by omega) y1 y2 y3 y4 y5 y6 y7 (by rw [eS]; exact y8)
        rw [nI_succ i] at this
        refine Go.of hX.2 ck_X6_drawNevers [16] 5 ?_
        exact go_loc (lv' := [(4, .int (nI i + 1)), (3, .int gg'), (2, .ref nx), (0, .ref r), (1, .ref d)]) ⟨rfl, rfl, rfl, rfl, rfl, trivial⟩ (this)
      refine Go.of hX.2 ck_X6_drawNevers [105] 90 ?_
      refine Exists.intro _ (And.intro hr1 (Exists.intro _ (And.intro rfl ?_)))
      refine And.intro (fun cz => absurd cz (nI_ge (a := i) (b := N) hiN (by omega))) (fun _ => ?_)
      refine And.intro (fun cz => absurd cz (nI_ge (a := i) (b := 400) (by omega) (by decide))) (fun _ => ?_)
      refine Exists.intro _ (And.intro hr1 (Exists.intro _ (And.intro rfl ?_)))
      refine Exists.intro _ (Exists.intro _ (And.intro k5 (And.intro (vp_in_nI (show i < 400 by omega) (by decide)) ?_)))
      rw [nI_clamp (show i < 2 ^ 31 by omega), p5]
      by_cases c8 : zS (zz kd i) = 8
      · obtain ⟨k2, s9, v9, v1, t10, _⟩ := hT.s8 hiN c8
        obtain ⟨t, g, d1, d2, d3, d4, d5, d6, d7, d8⟩ := green_c hT hF hiN c8
        rw [if_neg (by omega)] at kv
        have hB1 : rwB h1 r kd vl (toL kd N) := hB.ag (fun x _ _ => f1 x (by omega) (by omega) (by omega))
        have hlen : nI (zI z + zR z + zL z) = nI (toL kd N).length := by rw [hL]
        refine And.intro (fun cz => absurd (show nI (zS (zz kd i)) = nI 8 from by rw [c8]) cz) (fun _ => ?_)
        refine Exists.intro _ (And.intro hr1 (Exists.intro _ (And.intro rfl ?_)))
        refine Exists.intro _ (Exists.intro _ (And.intro k7 (And.intro (vp_in_nI (show i < 400 by omega) (by decide)) ?_)))
        rw [nI_clamp (show i < 2 ^ 31 by omega), p7]
        refine Exists.intro _ (And.intro hr1 (Exists.intro _ (And.intro rfl ?_)))
        refine Exists.intro _ (And.intro hr1 (Exists.intro 0 (Exists.intro 0 (And.intro (by omega) (And.intro (by omega) (x_greenOf hX hr1 hB1 hL.symm hL2 hTT ?_))))))
        rw [d8]
        refine go_loc (lv' := [(4, .int (nI i)), (3, .int (nI g)), (2, .ref nx), (0, .ref r), (1, .ref d)]) ⟨rfl, rfl, rfl, rfl, rfl, trivial⟩ ?_
        refine nxt h1 (nI g) g' gv gb gi wc wo gc go ge f1 (by rw [kv]; exact e0) e28 (by rw [kv]; exact p28) eW RW ok (fun _ => ?_)
        have ek : kvT kd i = zV (zz kd i) - 1 := by unfold kvT; rw [if_pos (Or.inl c8)]
        rw [kv, ek]
        unfold lpW
        rw [tkX_c hT hiN c8 (show zV (zz kd i) = zV (zz kd i) - 1 + 1 by omega), d8]
        rfl
      · refine And.intro (fun _ => ?_) (fun cz => absurd cz (fun z => c8 ((nI_eq (by omega) (by decide)).mp (show nI (zS (zz kd i)) = nI 8 from z))))
        refine Exists.intro _ (And.intro hr1 (Exists.intro _ (And.intro rfl ?_)))
        refine Exists.intro _ (Exists.intro _ (And.intro k4 (And.intro (vp_in_nI (show i < 400 by omega) (by decide)) ?_)))
        rw [nI_clamp (show i < 2 ^ 31 by omega), p4]
        by_cases c11 : kd i = 11
        · have c9 : zS (zz kd i) = 9 := ac.2.2.2.2.2.2.2.2.2.2.2 c11
          obtain ⟨_, s10, v9, v1, t10, t10b, d0⟩ := hT.s9 hiN c9
          obtain ⟨s1, s2, s3, s4, s5, s6⟩ := seg_c hT (show i + 1 ≤ N by omega) s10 d0
          rw [if_pos c9] at kv
          have ek : kvT kd i + 1 = zV (zz kd i) := by
            unfold kvT
            rw [if_pos (Or.inr c9)]
            omega
          have hgg := hg c9
          subst hgg
          have etv : tkV kd N (kvT kd i) = i + 1 := tkV_c hT hiN c9 ek.symm
          have mV := (hT.mo (show i ≤ N by omega) (Nat.le_refl N)).2.2.2.1
          have hlp5 := hlp (kvT kd i) (by omega)
          have hcod : codesAt h1 (r + 8) kd (vcT kd vl N) (i + 1) (cLc kd N (i + 1)) := ⟨g8, k8, by omega, fun j hj => by
            have cd := cdT_c hT hF (show i + 1 + j < N by omega) (s5 j (by omega)).2.2.2.2.2.1
            exact ⟨(pa _ (by omega)).2.2.2.2.trans cd.1, fun hk => by have := cd.2 hk; omega, hT.1 _⟩⟩
          have ce : cEd kd N i = i + 1 + cLc kd N (i + 1) := by rw [cEd_s hiN, if_neg (by omega)]; rfl
          have nm400 : nmE (sqL kd (i + 1) (cLc kd N (i + 1))) ≤ 400 := by
            have : ∀ m, nmE (sqL kd (i + 1) m) ≤ m := fun m => by
              induction m with
              | zero => exact Nat.le_refl _
              | succ m ih => rw [nmE_s]; split <;> omega
            have := this (cLc kd N (i + 1))
            omega
          have e1 : nI i + 1 = nI (i + 1) := (nI_succ i).symm
          refine And.intro (fun cz => absurd (show nI (kd i) = nI 11 from by rw [c11]) cz) (fun _ => ?_)
          refine Exists.intro _ (And.intro hr1 (Exists.intro _ (And.intro rfl ?_)))
          refine Exists.intro _ (And.intro hr1 (Exists.intro 0 (Exists.intro 0 (And.intro (by omega) (And.intro (by omega) (x_circuitEnd hX hr1 k4 (fun j hj => (pa j hj).1) hT.1 hN (by omega) ?_))))))
          refine Exists.intro _ (And.intro e0 (Exists.intro 0 (Exists.intro 0 (And.intro (by omega) (And.intro (by omega) (x_trackBits (st := st) hX e0 rfl ((f1 _ (by omega) (by omega) (by omega)).trans h2) hst ?_))))))
          refine Exists.intro _ (And.intro eW (Exists.intro 0 (Exists.intro 0 (And.intro (by omega) (And.intro (by omega) ?_)))))
          rw [e1, ce]
          refine x_connect (first := 0) (kd := kd) (vc := vcT kd vl N) hX eW RW hcod (by omega) (by decide) (by omega) htr s6 (by omega) (by omega) (fun h3 gv' gb' gi' wc' wo' gc' go' ge' y1 y2 y3 y4 y5 y6 y7 y8 y9 y10 => ?_)
          have f3 : ∀ x, x < nx → h3 x = h1 x := fun x hx => y1 x (by omega)
          have ok' : okV gv' gi' := fun k hk => by
            by_cases ck : k < nmE (sqL kd (i + 1) (cLc kd N (i + 1)))
            · obtain ⟨x, x1, x2, x3⟩ := nm_ex ck
              obtain ⟨u1, u2, u3⟩ := y4 x (Nat.zero_le x) x1 x2
              rw [Nat.zero_add, x3] at u1 u2 u3
              have cd := (cdT_c hT hF (show i + 1 + x < N by omega) (s5 x (by omega)).2.2.2.2.2.1).2 x2
              exact ⟨⟨_, by omega, u1⟩, _, u3⟩
            · have a1 := y6 k (Or.inr (by omega))
              have a2 := y8 k (Or.inr (by omega))
              rw [a1, a2]
              exact ok k hk
          have hvr : ∀ k, k < 400 → gv' k = nI (gv' k).toNatClampNeg ∧ (gv' k).toNatClampNeg < 30 ∧ gi' k = nI (decide (gi' k ≠ 0)).toNat := fun k hk => by
            obtain ⟨⟨v, hv, ev⟩, b, eb⟩ := ok' k hk
            rw [ev, nI_clamp (by omega), eb]
            refine ⟨rfl, hv, ?_⟩
            cases b <;> rfl
          have eW3 : h3 nx = some (.inr (10, wiF (nx + 1) 400)) := (y1 nx (by omega)).trans eW
          have e03 := (f3 d (by omega)).trans e0
          refine Exists.intro _ (And.intro e03 (Exists.intro 0 (Exists.intro 0 (And.intro (by omega) (And.intro (by omega) (x_addNever (gr := lpW kd vl N (kvT kd i)) (vr := fun k => (gv' k).toNatClampNeg) (iv := fun k => decide (gi' k ≠ 0)) (ov := fun w => nvF (lpW kd vl N) (fun k => NVw kd vl N (trB st 5) k w) (kvT kd i)) hX e03 ((f3 _ (by omega)).trans e28) hI hlp5 (fun w hw => ⟨p28 w hw, nvF_lt (fun k hk => hlp k (by omega))⟩) eW3 y3 (by decide) hvr (by omega) (fun h4 g4' z1 z2 z3 z4 => ?_)))))))
          refine go_loc (lv' := [(4, .int (nI i)), (3, .int (nI (lpW kd vl N (kvT kd i)))), (2, .ref nx), (0, .ref r), (1, .ref d)]) ⟨rfl, rfl, rfl, rfl, rfl, trivial⟩ ?_
          have y3' : wiR h4 (nx + 1) 400 gv' gb' gi' wc' wo' gc' go' ge' := by
            obtain ⟨r6, r7, r8, r9, r10, r0, r1, r2⟩ := y3
            exact ⟨(z1 _ (by omega) (by omega)).trans r6, (z1 _ (by omega) (by omega)).trans r7, (z1 _ (by omega) (by omega)).trans r8, (z1 _ (by omega) (by omega)).trans r9, (z1 _ (by omega) (by omega)).trans r10, (z1 _ (by omega) (by omega)).trans r0, (z1 _ (by omega) (by omega)).trans r1, (z1 _ (by omega) (by omega)).trans r2⟩
          refine nxt h4 _ g4' gv' gb' gi' wc' wo' gc' go' ge' (fun x x1 x2 x3 => (z1 x x2 x3).trans ((f3 x x1).trans (f1 x x1 x2 x3))) (by rw [kv]; exact z2) z3 (fun w hw => ?_) ((z1 _ (by omega) (by omega)).trans eW3) y3' ok' (fun z => by
            have := to.2.2.2.2.1 z; omega)
          rw [z4 w hw, kv]
          congr 1
          show _ = nvF (lpW kd vl N) (fun k => NVw kd vl N (trB st 5) k w) (kvT kd i) ||| (if NVw kd vl N (trB st 5) (kvT kd i) w = true then 2 ^ lpW kd vl N (kvT kd i) else 0)
          congr 1
          have hwk := walk_CT (p := pwW (fun k => (gv' k).toNatClampNeg) (fun k => decide (gi' k ≠ 0)) w) (N := 400) (by decide) s1 y5 (by omega) 400 nm400
          have hNV : NVw kd vl N (trB st 5) (kvT kd i) w = CTk (sqL kd (i + 1) (cLc kd N (i + 1))) 0 (pwW (fun k => (gv' k).toNatClampNeg) (fun k => decide (gi' k ≠ 0)) w) := by
            unfold NVw
            rw [etv]
            refine CTk_congr (fun k k1 k2 => ?_)
            rw [Nat.zero_add] at k2
            obtain ⟨x, x1, x2, x3⟩ := nm_ex k2
            obtain ⟨u1, u2, u3⟩ := y4 x (Nat.zero_le x) x1 x2
            rw [Nat.zero_add, x3] at u1 u2 u3
            have cd := (cdT_c hT hF (show i + 1 + x < N by omega) (s5 x (by omega)).2.2.2.2.2.1).2 x2
            have ea := nmL_at x2 (cLc kd N (i + 1)) x1
            rw [x3] at ea
            rw [ea]
            unfold lfW pwW
            show _ = (w.testBit (gv' k).toNatClampNeg ^^ decide (gi' k ≠ 0))
            rw [u1, u3, nI_clamp (by omega), ntW_c hT (show i + 1 ≤ N by omega) s10 d0 x1]
            congr 1
            cases (decide (zS (zz kd (i + 1 + x)) = 11) ^^ (trB st 5).testBit (vcT kd vl N (i + 1 + x))) <;> rfl
          rw [hwk, hNV]
          cases CTk (sqL kd (i + 1) (cLc kd N (i + 1))) 0 (pwW (fun k => (gv' k).toNatClampNeg) (fun k => decide (gi' k ≠ 0)) w) <;> rfl
        · have n9 : zS (zz kd i) ≠ 9 := fun z => c11 (ac.2.1 z).1
          rw [if_neg n9] at kv
          refine And.intro (fun _ => ?_) (fun cz => absurd cz (fun z => c11 ((nI_eq (by omega) (by decide)).mp (show nI (kd i) = nI 11 from z))))
          refine go_loc (lv' := [(4, .int (nI i)), (3, .int gg), (2, .ref nx), (0, .ref r), (1, .ref d)]) ⟨rfl, rfl, rfl, rfl, rfl, trivial⟩ ?_
          exact nxt h1 gg g' gv gb gi wc wo gc go ge f1 (by rw [kv]; exact e0) e28 (by rw [kv]; exact p28) eW RW ok (fun z => by
            have := to.2.2.2.2.1 z
            omega)
  refine en_X6_drawNevers hX [16] 60 rfl ?_
  refine And.intro (by decide) (And.intro (Nat.le_of_ble_eq_true rfl) ?_)
  refine Exists.intro 11 (Exists.intro 2300 (And.intro (by decide) (And.intro (Nat.le_of_ble_eq_true rfl) (c_Wiring_init (N := 400) (Nat.le_refl _) hX uph_eq (Nat.lt_succ_self _) (fun h3 z1 z2 w0 w1 w2 w3 w4 w5 w6 w7 w8 w9 w10 => ?_)))))
  refine go_loc (lv' := [(4, .int (nI 0)), (3, .int (-1)), (2, .ref nx), (0, .ref r), (1, .ref d)]) ⟨rfl, rfl, rfl, rfl, rfl, trivial⟩ ?_
  have k0 : kvT kd 0 = 0 := rfl
  exact loop N 0 h3 (-1) g28 _ _ _ _ _ _ _ _ (Nat.zero_add _) (fun x hx _ _ => (z1 x (by omega) (by omega)).trans (uph_ne (by omega))) ((z1 d (by omega) (by omega)).trans ((uph_ne (by omega)).trans hd)) ((z1 _ (by omega) (by omega)).trans ((uph_ne (by omega)).trans h28)) (fun w hw => h0 w hw) z2 ⟨w6, w7, w8, w9, w10, w0, w1, w2⟩ (fun k hk => ⟨⟨0, by decide, rfl⟩, false, rfl⟩) (fun z => absurd (show (0 : Nat) = 9 from z) (by decide))
