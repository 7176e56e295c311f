/-! x wires a whole circuit -/
def ntW (kd : Nat → Nat) (a i : Nat) : Bool := decide (a < i) && decide (kd (i - 1) = 14)
/-- what is wired: names from token a + j on -/
def wiD (kd vc : Nat → Nat) (tr a m first j : Nat) (gv gb gi : Nat → Int32) : Prop := ∀ x, j ≤ x → x < m → kd (a + x) = 2 → gv (first + nmE (sqL kd a x)) = nI (vc (a + x)) ∧ gb (first + nmE (sqL kd a x)) = nI (ntW kd a (a + x)).toNat ∧ gi (first + nmE (sqL kd a x)) = nI (ntW kd a (a + x) ^^ tr.testBit (vc (a + x))).toNat
/-- nothing else has changed -/
def sam (lo hi : Nat) (g g' : Nat → Int32) : Prop := ∀ n, n < lo ∨ hi ≤ n → g' n = g n
set_option maxHeartbeats 8000000 in
theorem x_connect {l : Launch} {G : GG} {h : AH} {nx : Nat} {Post : Option Value → AH → Nat → Prop} {w b S q a m first tr : Nat} {kd vc : Nat → Nat} {gv gb gi wc wo gc go ge : Nat → Int32} (hX : XC G ∧ TX l G) (hw : h w = some (.inr (10, wiF b S))) (hR : wiR h b S gv gb gi wc wo gc go ge) (hc : codesAt h q kd vc a m) (ha : 0 < a) (hS : S ≤ 400) (hfit : first + nmE (sqL kd a m) ≤ S) (htr : tr < 2 ^ 30) (hk : ∀ j, j < m → kd (a + j) = 2 ∨ kd (a + j) = 14 ∨ kd (a + j) = 15 ∨ kd (a + j) = 16 ∨ kd (a + j) = 17 ∨ kd (a + j) = 18) (hwb : w < b ∨ b + 11 ≤ w) (hqb : q < b ∨ b + 11 ≤ q) (hP : ∀ (h1 : AH) (gv' gb' gi' wc' wo' gc' go' ge' : Nat → Int32), (∀ x, x < b ∨ b + 11 ≤ x → h1 x = h x) → (∀ x, b + 3 ≤ x → x < b + 6 → h1 x = h x) → wiR h1 b S gv' gb' gi' wc' wo' gc' go' ge' → wiD kd vc tr a m first 0 gv' gb' gi' → okG wc' wo' (sqL kd a m) first → sam first (first + nmE (sqL kd a m)) gv gv' → sam first (first + nmE (sqL kd a m)) gb gb' → sam first (first + nmE (sqL kd a m)) gi gi' → sam first (first + nmE (sqL kd a m)) wc wc' → sam first (first + nmE (sqL kd a m)) wo wo' → Post none h1 nx) : Runs l G i_X10_connect 0 0 [.ref w, .ref q, .int (nI a), .int (nI (a + m)), .int (nI first), .int (nI tr)] h nx Post := by
  obtain ⟨g, eq, h4, p⟩ := id hc
  have loop : ∀ (j : Nat) (h1 : AH) (gv' gb' gi' wc' wo' gc' go' ge' : Nat → Int32), j ≤ m → (∀ x, x < b ∨ b + 11 ≤ x → h1 x = h x) → (∀ x, b + 3 ≤ x → x < b + 6 → h1 x = h x) → wiR h1 b S gv' gb' gi' wc' wo' gc' go' ge' → wiD kd vc tr a m first j gv' gb' gi' → okG wc' wo' (sqL kd (a + j) (m - j)) (first + nmE (sqL kd a j)) → sam (first + nmE (sqL kd a j)) (first + nmE (sqL kd a m)) gv gv' → sam (first + nmE (sqL kd a j)) (first + nmE (sqL kd a m)) gb gb' → sam (first + nmE (sqL kd a j)) (first + nmE (sqL kd a m)) gi gi' → sam (first + nmE (sqL kd a j)) (first + nmE (sqL kd a m)) wc wc' → sam (first + nmE (sqL kd a j)) (first + nmE (sqL kd a m)) wo wo' → (∀ l, l ≤ (goE (sqL kd (a + j) (m - j)) (first + nmE (sqL kd a j))).1 → gc' l = (goE (sqL kd (a + j) (m - j)) (first + nmE (sqL kd a j))).2.1 l ∧ go' l = (goE (sqL kd (a + j) (m - j)) (first + nmE (sqL kd a j))).2.2.1 l ∧ ge' l = (goE (sqL kd (a + j) (m - j)) (first + nmE (sqL kd a j))).2.2.2 l) → Go l G 10 s_X10_connect 0 0 Post 46 [(8, .int (nI (a + j) - 1)), (7, .int (nI (goE (sqL kd (a + j) (m - j)) (first + nmE (sqL kd a j))).1)), (6, .int (nI (first + nmE (sqL kd a j)))), (0, .ref w), (1, .ref q), (2, .int (nI a)), (3, .int (nI (a + m))), (4, .int (nI first)), (5, .int (nI tr))] [] h1 nx 0 0 := by
    intro j
    induction j with
    | zero =>
      intro h1 gv' gb' gi' wc' wo' gc' go' ge' hj f1 f2 R D ok s1 s2 s3 s4 s5 hg
      obtain ⟨a', rfl⟩ : ∃ x, a = x + 1 := ⟨a - 1, by omega⟩
      refine Go.of hX.2 ck_X10_connect [] 20 ?_
      refine And.intro (fun _ => ?_) (fun cz => absurd (show nI (a' + 1 + 0) - 1 < nI (a' + 1) from by rw [Nat.add_zero, nI_pred]; exact nI_lt (by omega) (by omega)) cz)
      exact hP h1 gv' gb' gi' wc' wo' gc' go' ge' f1 f2 R D ok s1 s2 s3 s4 s5
    | succ j ih =>
      intro h1 gv' gb' gi' wc' wo' gc' go' ge' hj f1 f2 R D ok s1 s2 s3 s4 s5 hg
      have el : sqL kd (a + j) (m - j) = kd (a + j) :: sqL kd (a + (j + 1)) (m - (j + 1)) := by
        rw [show m - j = (m - (j + 1)) + 1 by omega]
        rfl
      have en : nmE (sqL kd a (j + 1)) = nmE (sqL kd a j) + (if kd (a + j) = 2 then 1 else 0) := nmE_s
      have emo : nmE (sqL kd a (j + 1)) ≤ nmE (sqL kd a m) := nmE_mo hj
      have eG : goE (sqL kd (a + j) (m - j)) (first + nmE (sqL kd a j)) = gsE (kd (a + j)) (first + nmE (sqL kd a j)) (goE (sqL kd (a + (j + 1)) (m - (j + 1))) (first + nmE (sqL kd a (j + 1)))) := by
        rw [el, en]
        show gsE _ _ (goE _ (if kd (a + j) = 2 then first + nmE (sqL kd a j) + 1 else first + nmE (sqL kd a j))) = _
        congr 2
        split <;> omega
      have hG5 : (goE (sqL kd (a + (j + 1)) (m - (j + 1))) (first + nmE (sqL kd a (j + 1)))).1 ≤ 4 := goE_5 _ _
      have ih := ih
      rw [eG] at ih
      generalize hGG : goE (sqL kd (a + (j + 1)) (m - (j + 1))) (first + nmE (sqL kd a (j + 1))) = G at *
      obtain ⟨lv, cG, oG, eeG⟩ := G
      have hlv : lv ≤ 4 := hG5
      obtain ⟨q1, q2, q3⟩ := p j (by omega)
      have hw1 := (f1 w (by omega)).trans hw
      have eq1 := (f1 q (by omega)).trans eq
      have kj := hk j (by omega)
      have e8 : nI (a + (j + 1)) - 1 = nI (a + j) := nI_pred (a + j)
      rw [e8]
      have nxt : ∀ {h2 : AH} {lq : Nat} {gc2 go2 ge2 gv2 gb2 gi2 wc2 wo2 : Nat → Int32}, (∀ x, x < b ∨ b + 11 ≤ x → h2 x = h x) → (∀ x, b + 3 ≤ x → x < b + 6 → h2 x = h x) → wiR h2 b S gv2 gb2 gi2 wc2 wo2 gc2 go2 ge2 → wiD kd vc tr a m first j gv2 gb2 gi2 → okG wc2 wo2 (sqL kd (a + j) (m - j)) (first + nmE (sqL kd a j)) → sam (first + nmE (sqL kd a j)) (first + nmE (sqL kd a m)) gv gv2 → sam (first + nmE (sqL kd a j)) (first + nmE (sqL kd a m)) gb gb2 → sam (first + nmE (sqL kd a j)) (first + nmE (sqL kd a m)) gi gi2 → sam (first + nmE (sqL kd a j)) (first + nmE (sqL kd a m)) wc wc2 → sam (first + nmE (sqL kd a j)) (first + nmE (sqL kd a m)) wo wo2 → lq = (gsE (kd (a + j)) (first + nmE (sqL kd a j)) (lv, cG, oG, eeG)).1 → (∀ x, x ≤ lq → gc2 x = (gsE (kd (a + j)) (first + nmE (sqL kd a j)) (lv, cG, oG, eeG)).2.1 x ∧ go2 x = (gsE (kd (a + j)) (first + nmE (sqL kd a j)) (lv, cG, oG, eeG)).2.2.1 x ∧ ge2 x = (gsE (kd (a + j)) (first + nmE (sqL kd a j)) (lv, cG, oG, eeG)).2.2.2 x) → Go l G 10 s_X10_connect 0 0 Post 263 [(8, .int (nI (a + j))), (7, .int (nI lq)), (6, .int (nI (first + nmE (sqL kd a j)))), (0, .ref w), (1, .ref q), (2, .int (nI a)), (3, .int (nI (a + m))), (4, .int (nI first)), (5, .int (nI tr))] [] h2 nx 0 0 := by
        intro h2 lq gc2 go2 ge2 gv2 gb2 gi2 wc2 wo2 y1 y2 y3 y4 y5 y6 y7 y8 y9 y10 el2 hx
        subst el2
        have := ih h2 gv2 gb2 gi2 wc2 wo2 gc2 go2 ge2 (by omega) y1 y2 y3 y4 y5 y6 y7 y8 y9 y10 hx
        rw [Int32.sub_eq_add_neg] at this
        refine Go.of hX.2 ck_X10_connect [46] 10 ?_
        exact go_loc (lv' := [(8, .int (nI (a + j) + (-1))), (7, .int (nI (gsE (kd (a + j)) (first + nmE (sqL kd a j)) (lv, cG, oG, eeG)).1)), (6, .int (nI (first + nmE (sqL kd a j)))), (0, .ref w), (1, .ref q), (2, .int (nI a)), (3, .int (nI (a + m))), (4, .int (nI first)), (5, .int (nI tr))]) ⟨rfl, rfl, rfl, rfl, rfl, rfl, rfl, rfl, rfl, trivial⟩ (this)
      have Dsame : kd (a + j) ≠ 2 → wiD kd vc tr a m first j gv' gb' gi' := fun n2 x x1 x2 x3 => by
        have : x ≠ j := fun e => n2 (by rw [← e]; exact x3)
        exact D x (by omega) x2 x3
      have okS : kd (a + j) ≠ 2 → okG wc' wo' (sqL kd (a + j) (m - j)) (first + nmE (sqL kd a j)) := fun n2 => by
        rw [el]
        refine ⟨fun z => absurd z n2, ?_⟩
        rw [if_neg n2]
        rw [en, if_neg n2, Nat.add_zero] at ok
        exact ok
      have nS : kd (a + j) ≠ 2 → nmE (sqL kd a (j + 1)) = nmE (sqL kd a j) := fun n2 => by rw [en, if_neg n2]; rfl
      refine Go.of hX.2 ck_X10_connect [97, 127, 263] 60 ?_
      refine And.intro (fun cz => absurd cz (nI_nlt (a := a + j) (b := a) (by omega) (by omega))) (fun _ => ?_)
      refine And.intro (fun cz => absurd cz (nI_pos (show a + j < 2 ^ 31 by omega))) (fun _ => ?_)
      refine Exists.intro _ (Exists.intro _ (And.intro eq1 (And.intro (vp_in_nI (show a + j < 400 by omega) (by decide)) ?_)))
      rw [nI_clamp (show a + j < 2 ^ 31 by omega), q1]
      unfold cdT
      by_cases k2 : kd (a + j) = 2
      · have hv := q2 k2
        rw [if_pos k2]
        have enn : nmE (sqL kd a (j + 1)) = nmE (sqL kd a j) + 1 := by rw [en, if_pos k2]
        have at97 : Go l G 10 s_X10_connect 0 0 Post 97 [(10, .int (nI (ntW kd a (a + j)).toNat)), (9, .int (nI (vc (a + j)))), (8, .int (nI (a + j))), (7, .int (nI lv)), (6, .int (nI (first + nmE (sqL kd a j)))), (0, .ref w), (1, .ref q), (2, .int (nI a)), (3, .int (nI (a + m))), (4, .int (nI first)), (5, .int (nI tr))] [] h1 nx 0 0 := by
          have done : ∀ h2 : AH, (∀ x, x < b ∨ b + 11 ≤ x → h2 x = h x) → (∀ x, b + 3 ≤ x → x < b + 6 → h2 x = h x) → wiR h2 b S (upd gv' (first + nmE (sqL kd a j)) (nI (vc (a + j)))) (upd gb' (first + nmE (sqL kd a j)) (nI (ntW kd a (a + j)).toNat)) (upd gi' (first + nmE (sqL kd a j)) (nI (ntW kd a (a + j) ^^ tr.testBit (vc (a + j))).toNat)) (upd wc' (first + nmE (sqL kd a j)) (gc' lv)) (upd wo' (first + nmE (sqL kd a j)) (go' lv)) gc' go' ge' → Go l G 10 s_X10_connect 0 0 Post 263 [(8, .int (nI (a + j))), (7, .int (nI lv)), (6, .int (nI (first + nmE (sqL kd a j)))), (0, .ref w), (1, .ref q), (2, .int (nI a)), (3, .int (nI (a + m))), (4, .int (nI first)), (5, .int (nI tr))] [] h2 nx 0 0 := by
            intro h2 y1 y2 y3
            have sm : ∀ {g g' : Nat → Int32} {v : Int32}, sam (first + nmE (sqL kd a (j + 1))) (first + nmE (sqL kd a m)) g g' → sam (first + nmE (sqL kd a j)) (first + nmE (sqL kd a m)) g (upd g' (first + nmE (sqL kd a j)) v) := fun {g g' v} hs n hn => by
              rw [pk_un (by omega)]
              exact hs n (by omega)
            have eg : gsE (kd (a + j)) (first + nmE (sqL kd a j)) (lv, cG, oG, eeG) = (lv, cG, oG, eeG) := by rw [k2]; rfl
            refine nxt y1 y2 y3 (fun x x1 x2 x3 => ?_) ?_ (sm s1) (sm s2) (sm s3) (sm s4) (sm s5) (by rw [eg]) (fun x hx => by rw [eg]; exact hg x hx)
            · by_cases e : x = j
              · rw [e, pk_us, pk_us, pk_us]
                exact ⟨rfl, rfl, rfl⟩
              · have := nmE_mo (kd := kd) (a := a) (show j + 1 ≤ x by omega)
                rw [pk_un (by omega), pk_un (by omega), pk_un (by omega)]
                exact D x (by omega) x2 x3
            · rw [el]
              refine ⟨fun _ => ?_, ?_⟩
              · have e2 : goE (sqL kd (a + (j + 1)) (m - (j + 1))) (first + nmE (sqL kd a j) + 1) = (lv, cG, oG, eeG) := by rw [← hGG, enn]; rfl
                rw [e2, pk_us, pk_us]
                exact ⟨(hg lv (Nat.le_refl _)).1, (hg lv (Nat.le_refl _)).2.1⟩
              · rw [if_pos k2]
                rw [enn] at ok
                refine okG_congr _ _ (fun n hn => ?_) ok
                rw [pk_un (by omega), pk_un (by omega)]
                exact ⟨rfl, rfl⟩
          have tb0 := nx_tb0 (a := tr) (k := vc (a + j)) (by omega) (by omega)
          refine Go.of hX.2 ck_X10_connect [263] 60 ?_
          cases htb : tr.testBit (vc (a + j)) with
          | false =>
            rw [htb] at done
            refine And.intro (fun _ => ?_) (fun cz => absurd (tb0.mpr htb) cz)
            refine Exists.intro _ (And.intro hw1 (Exists.intro 0 (Exists.intro 0 (And.intro (Nat.le_refl _) (And.intro (Nat.le_refl _) (x_putContact (tb := false) hX hw1 R (by omega) hS (by omega) hwb (fun h2 y1 y2 y3 => ?_)))))))
            exact go_loc (lv' := [(8, .int (nI (a + j))), (7, .int (nI lv)), (6, .int (nI (first + nmE (sqL kd a j)))), (0, .ref w), (1, .ref q), (2, .int (nI a)), (3, .int (nI (a + m))), (4, .int (nI first)), (5, .int (nI tr))]) ⟨rfl, rfl, rfl, rfl, rfl, rfl, rfl, rfl, rfl, trivial⟩ (done h2 (fun x hx => (y1 x hx).trans (f1 x hx)) (fun x z1 z2 => (y2 x z1 z2).trans (f2 x z1 z2)) y3)
          | true =>
            rw [htb] at done
            refine And.intro (fun cz => absurd cz (fun z => by rw [tb0.mp z] at htb; cases htb)) (fun _ => ?_)
            refine Exists.intro _ (And.intro hw1 (Exists.intro 0 (Exists.intro 0 (And.intro (Nat.le_refl _) (And.intro (Nat.le_refl _) (x_putContact (tb := true) hX hw1 R (by omega) hS (by omega) hwb (fun h2 y1 y2 y3 => ?_)))))))
            exact go_loc (lv' := [(8, .int (nI (a + j))), (7, .int (nI lv)), (6, .int (nI (first + nmE (sqL kd a j)))), (0, .ref w), (1, .ref q), (2, .int (nI a)), (3, .int (nI (a + m))), (4, .int (nI first)), (5, .int (nI tr))]) ⟨rfl, rfl, rfl, rfl, rfl, rfl, rfl, rfl, rfl, trivial⟩ (done h2 (fun x hx => (y1 x hx).trans (f1 x hx)) (fun x z1 z2 => (y2 x z1 z2).trans (f2 x z1 z2)) y3)
        refine And.intro (fun cz => absurd cz (nI_ge (a := vc (a + j)) (b := 100) (by omega) (by decide))) (fun _ => ?_)
        have e6 : nI (first + nmE (sqL kd a (j + 1))) + (-1) = nI (first + nmE (sqL kd a j)) := by rw [← Int32.sub_eq_add_neg, enn]; exact nI_pred _
        by_cases ca : j = 0
        · have e0 : ntW kd a (a + j) = false := by unfold ntW; rw [decide_eq_false (by omega)]; rfl
          rw [e0] at at97
          refine And.intro (fun _ => ?_) (fun cz => absurd (nI_le (a := a + j) (b := a) (by omega) (by omega)) cz)
          refine go_loc (lv' := [(10, .int (nI false.toNat)), (9, .int (nI (vc (a + j)))), (8, .int (nI (a + j))), (7, .int (nI lv)), (6, .int (nI (first + nmE (sqL kd a (j + 1))) + (-1))), (0, .ref w), (1, .ref q), (2, .int (nI a)), (3, .int (nI (a + m))), (4, .int (nI first)), (5, .int (nI tr))]) ⟨rfl, rfl, rfl, rfl, rfl, rfl, rfl, rfl, rfl, rfl, rfl, trivial⟩ ?_
          rw [e6]
          exact at97
        · obtain ⟨i, rfl⟩ : ∃ i, j = i + 1 := ⟨j - 1, by omega⟩
          obtain ⟨r1, r2, r3⟩ := p i (by omega)
          refine And.intro (fun cz => absurd cz (fun z => absurd ((nI_leI (a := a + (i + 1)) (b := a) (by omega) (by omega)).mp z) (by omega))) (fun _ => ?_)
          have e9 : nI (a + (i + 1)) - 1 = nI (a + i) := nI_pred (a + i)
          refine Exists.intro _ (Exists.intro _ (And.intro eq1 (And.intro (by rw [e9]; exact vp_in_nI (show a + i < 400 by omega) (by decide)) ?_)))
          rw [e9, nI_clamp (show a + i < 2 ^ 31 by omega), r1]
          have ent : ntW kd a (a + (i + 1)) = decide (kd (a + i) = 14) := by
            unfold ntW
            rw [decide_eq_true (show a < a + (i + 1) by omega), Bool.true_and]
            rfl
          unfold cdT
          by_cases c14 : kd (a + i) = 14
          · rw [ent, decide_eq_true c14] at at97
            rw [if_neg (by omega), c14]
            refine And.intro (fun cz => absurd (show nI (100 + 14) = 114 from rfl) cz) (fun _ => ?_)
            refine go_loc (lv' := [(10, .int (nI true.toNat)), (9, .int (nI (vc (a + (i + 1))))), (8, .int (nI (a + (i + 1)))), (7, .int (nI lv)), (6, .int (nI (first + nmE (sqL kd a (i + 1 + 1))) + (-1))), (0, .ref w), (1, .ref q), (2, .int (nI a)), (3, .int (nI (a + m))), (4, .int (nI first)), (5, .int (nI tr))]) ⟨rfl, rfl, rfl, rfl, rfl, rfl, rfl, rfl, rfl, rfl, rfl, trivial⟩ ?_
            rw [e6]
            exact at97
          · rw [ent, decide_eq_false c14] at at97
            have hne : (if kd (a + i) = 2 then vc (a + i) else 100 + kd (a + i)) ≠ 114 := by
              split
              · next y => have := r2 y; omega
              · omega
            have hlt : (if kd (a + i) = 2 then vc (a + i) else 100 + kd (a + i)) < 200 := by
              split
              · next y => have := r2 y; omega
              · omega
            refine And.intro (fun _ => ?_) (fun cz => absurd cz (fun z => hne ((nI_eq (by omega) (by decide)).mp (show nI _ = nI 114 from z))))
            refine go_loc (lv' := [(10, .int (nI false.toNat)), (9, .int (nI (vc (a + (i + 1))))), (8, .int (nI (a + (i + 1)))), (7, .int (nI lv)), (6, .int (nI (first + nmE (sqL kd a (i + 1 + 1))) + (-1))), (0, .ref w), (1, .ref q), (2, .int (nI a)), (3, .int (nI (a + m))), (4, .int (nI first)), (5, .int (nI tr))]) ⟨rfl, rfl, rfl, rfl, rfl, rfl, rfl, rfl, rfl, rfl, rfl, trivial⟩ ?_
            rw [e6]
            exact at97
      · rw [if_neg k2]
        have ens := nS k2
        rw [ens] at s1 s2 s3 s4 s5
        rw [ens]
        have kne : ∀ c, c < 300 → 100 + kd (a + j) ≠ c → ¬ nI (100 + kd (a + j)) = nI c := fun c hc z e => z ((nI_eq (by omega) (by omega)).mp e)
        refine And.intro (fun _ => ?_) (fun cz => absurd (nI_le (a := 100) (b := 100 + kd (a + j)) (by omega) (by omega)) cz)
        refine go_loc (lv' := [(9, .int (nI (100 + kd (a + j)))), (8, .int (nI (a + j))), (7, .int (nI lv)), (6, .int (nI (first + nmE (sqL kd a j)))), (0, .ref w), (1, .ref q), (2, .int (nI a)), (3, .int (nI (a + m))), (4, .int (nI first)), (5, .int (nI tr))]) ⟨rfl, rfl, rfl, rfl, rfl, rfl, rfl, rfl, rfl, rfl, trivial⟩ ?_
        have nxt := @nxt
        obtain ⟨e6, e7, e8, e9, e10, e0, e1, e2⟩ := id R
        refine Go.of hX.2 ck_X10_connect [197, 248, 263] 80 ?_
        by_cases c15 : kd (a + j) = 15
        · have eg : gsE (kd (a + j)) (first + nmE (sqL kd a j)) (lv, cG, oG, eeG) = (lv, upd cG lv (nI (first + nmE (sqL kd a j))), oG, eeG) := by rw [c15]; rfl
          refine And.intro (fun cz => absurd (show nI (100 + kd (a + j)) = nI 115 from by rw [c15]) cz) (fun _ => ?_)
          refine Exists.intro _ (And.intro hw1 (Exists.intro _ (And.intro rfl ?_)))
          refine Exists.intro _ (Exists.intro _ (And.intro e0 (And.intro (vp_in_nI (show lv < 5 by omega) (by decide)) ?_)))
          rw [nI_clamp (show lv < 2 ^ 31 by omega)]
          refine go_loc (lv' := [(8, .int (nI (a + j))), (7, .int (nI lv)), (6, .int (nI (first + nmE (sqL kd a j)))), (0, .ref w), (1, .ref q), (2, .int (nI a)), (3, .int (nI (a + m))), (4, .int (nI first)), (5, .int (nI tr))]) ⟨rfl, rfl, rfl, rfl, rfl, rfl, rfl, rfl, rfl, trivial⟩ ?_
          refine nxt (fun x hx => (uph_ne (by omega)).trans (f1 x hx)) (fun x z1 z2 => (uph_ne (by omega)).trans (f2 x z1 z2)) ⟨(uph_ne (by omega)).trans e6, (uph_ne (by omega)).trans e7, (uph_ne (by omega)).trans e8, (uph_ne (by omega)).trans e9, (uph_ne (by omega)).trans e10, uph_eq, (uph_ne (by omega)).trans e1, (uph_ne (by omega)).trans e2⟩ (Dsame k2) (okS k2) s1 s2 s3 s4 s5 (by rw [eg]) (fun x hx => ?_)
          rw [eg]
          refine ⟨?_, (hg x hx).2.1, (hg x hx).2.2⟩
          by_cases e : x = lv
          · rw [e, pk_us]; exact pk_us.symm
          · rw [pk_un e]
            exact (hg x hx).1.trans (pk_un (f := cG) e).symm
        · refine And.intro (fun _ => ?_) (fun cz => absurd cz (kne 115 (by decide) (by omega)))
          by_cases c16 : kd (a + j) = 16
          · have eg : gsE (kd (a + j)) (first + nmE (sqL kd a j)) (lv, cG, oG, eeG) = (lv, upd cG lv (eeG lv), upd oG lv (nI (first + nmE (sqL kd a j))), eeG) := by rw [c16]; rfl
            refine And.intro (fun cz => absurd (show nI (100 + kd (a + j)) = nI 116 from by rw [c16]) cz) (fun _ => ?_)
            refine Exists.intro _ (And.intro hw1 (Exists.intro _ (And.intro rfl ?_)))
            refine Exists.intro _ (Exists.intro _ (And.intro e1 (And.intro (vp_in_nI (show lv < 5 by omega) (by decide)) ?_)))
            refine Exists.intro _ (And.intro ((uph_ne (by omega)).trans hw1) (Exists.intro _ (And.intro rfl ?_)))
            refine Exists.intro _ (And.intro ((uph_ne (by omega)).trans hw1) (Exists.intro _ (And.intro rfl ?_)))
            refine Exists.intro _ (Exists.intro _ (And.intro ((uph_ne (by omega)).trans e2) (And.intro (vp_in_nI (show lv < 5 by omega) (by decide)) ?_)))
            rw [nI_clamp (show lv < 2 ^ 31 by omega)]
            refine Exists.intro _ (Exists.intro _ (And.intro ((uph_ne (by omega)).trans e0) (And.intro (vp_in_nI (show lv < 5 by omega) (by decide)) ?_)))
            rw [nI_clamp (show lv < 2 ^ 31 by omega)]
            refine go_loc (lv' := [(8, .int (nI (a + j))), (7, .int (nI lv)), (6, .int (nI (first + nmE (sqL kd a j)))), (0, .ref w), (1, .ref q), (2, .int (nI a)), (3, .int (nI (a + m))), (4, .int (nI first)), (5, .int (nI tr))]) ⟨rfl, rfl, rfl, rfl, rfl, rfl, rfl, rfl, rfl, trivial⟩ ?_
            refine nxt (fun x hx => (uph_ne (by omega)).trans ((uph_ne (by omega)).trans (f1 x hx))) (fun x z1 z2 => (uph_ne (by omega)).trans ((uph_ne (by omega)).trans (f2 x z1 z2))) ⟨(uph_ne (by omega)).trans ((uph_ne (by omega)).trans e6), (uph_ne (by omega)).trans ((uph_ne (by omega)).trans e7), (uph_ne (by omega)).trans ((uph_ne (by omega)).trans e8), (uph_ne (by omega)).trans ((uph_ne (by omega)).trans e9), (uph_ne (by omega)).trans ((uph_ne (by omega)).trans e10), uph_eq, (uph_ne (by omega)).trans uph_eq, (uph_ne (by omega)).trans ((uph_ne (by omega)).trans e2)⟩ (Dsame k2) (okS k2) s1 s2 s3 s4 s5 (by rw [eg]) (fun x hx => ?_)
            rw [eg]
            by_cases e : x = lv
            · rw [e, pk_us, pk_us]
              exact ⟨(hg lv (Nat.le_refl _)).2.2.trans pk_us.symm, pk_us.symm, (hg lv (Nat.le_refl _)).2.2⟩
            · rw [pk_un e, pk_un e]
              exact ⟨(hg x hx).1.trans (pk_un (f := cG) e).symm, (hg x hx).2.1.trans (pk_un (f := oG) e).symm, (hg x hx).2.2⟩
          · refine And.intro (fun _ => ?_) (fun cz => absurd cz (kne 116 (by decide) (by omega)))
            have last : ¬ (kd (a + j) = 18 ∧ lv + 1 < 5) → Go l G 10 s_X10_connect 0 0 Post 248 [(9, .int (nI (100 + kd (a + j)))), (8, .int (nI (a + j))), (7, .int (nI lv)), (6, .int (nI (first + nmE (sqL kd a j)))), (0, .ref w), (1, .ref q), (2, .int (nI a)), (3, .int (nI (a + m))), (4, .int (nI first)), (5, .int (nI tr))] [] h1 nx 0 0 := by
              intro hno
              refine Go.of hX.2 ck_X10_connect [263] 20 ?_
              by_cases c17 : kd (a + j) = 17
              · refine And.intro (fun cz => absurd (show nI (100 + kd (a + j)) = nI 117 from by rw [c17]) cz) (fun _ => ?_)
                by_cases cl : lv = 0
                · have eg : gsE (kd (a + j)) (first + nmE (sqL kd a j)) (lv, cG, oG, eeG) = (lv, cG, oG, eeG) := by
                    rw [c17, cl]; rfl
                  refine And.intro (fun _ => ?_) (fun cz => absurd (show nI lv ≤ 0 from by rw [cl]; decide) cz)
                  exact go_loc (lv' := [(8, .int (nI (a + j))), (7, .int (nI lv)), (6, .int (nI (first + nmE (sqL kd a j)))), (0, .ref w), (1, .ref q), (2, .int (nI a)), (3, .int (nI (a + m))), (4, .int (nI first)), (5, .int (nI tr))]) ⟨rfl, rfl, rfl, rfl, rfl, rfl, rfl, rfl, rfl, trivial⟩ (nxt f1 f2 R (Dsame k2) (okS k2) s1 s2 s3 s4 s5 (by rw [eg]) (fun x hx => by rw [eg]; exact hg x hx))
                · obtain ⟨lw, rfl⟩ : ∃ z, lv = z + 1 := ⟨lv - 1, by omega⟩
                  have eg : gsE (kd (a + j)) (first + nmE (sqL kd a j)) (lw + 1, cG, oG, eeG) = (lw, cG, oG, eeG) := by
                    rw [c17]
                    unfold gsE
                    rw [if_neg (by decide), if_neg (by decide), if_neg (fun z => absurd z.1 (by decide)), if_pos ⟨rfl, Nat.succ_pos lw⟩]
                    rfl
                  refine And.intro (fun cz => absurd cz (fun z => absurd ((nI_leI (a := lw + 1) (b := 0) (by omega) (by decide)).mp z) (by omega))) (fun _ => ?_)
                  refine go_loc (lv' := [(8, .int (nI (a + j))), (7, .int (nI (lw + 1) + (-1))), (6, .int (nI (first + nmE (sqL kd a j)))), (0, .ref w), (1, .ref q), (2, .int (nI a)), (3, .int (nI (a + m))), (4, .int (nI first)), (5, .int (nI tr))]) ⟨rfl, rfl, rfl, rfl, rfl, rfl, rfl, rfl, rfl, trivial⟩ ?_
                  rw [show nI (lw + 1) + (-1) = nI lw from by rw [← Int32.sub_eq_add_neg]; exact nI_pred lw]
                  exact nxt f1 f2 R (Dsame k2) (okS k2) s1 s2 s3 s4 s5 (by rw [eg]) (fun x hx => by rw [eg]; exact hg x (by show x ≤ lw + 1; omega))
              · have eg : gsE (kd (a + j)) (first + nmE (sqL kd a j)) (lv, cG, oG, eeG) = (lv, cG, oG, eeG) := by
                  unfold gsE
                  rw [if_neg c15, if_neg c16, if_neg hno, if_neg (fun z => c17 z.1)]
                refine And.intro (fun _ => ?_) (fun cz => absurd cz (kne 117 (by decide) (by omega)))
                exact go_loc (lv' := [(8, .int (nI (a + j))), (7, .int (nI lv)), (6, .int (nI (first + nmE (sqL kd a j)))), (0, .ref w), (1, .ref q), (2, .int (nI a)), (3, .int (nI (a + m))), (4, .int (nI first)), (5, .int (nI tr))]) ⟨rfl, rfl, rfl, rfl, rfl, rfl, rfl, rfl, rfl, trivial⟩ (nxt f1 f2 R (Dsame k2) (okS k2) s1 s2 s3 s4 s5 (by rw [eg]) (fun x hx => by rw [eg]; exact hg x hx))
            by_cases c18 : kd (a + j) = 18
            · refine And.intro (fun cz => absurd (show nI (100 + kd (a + j)) = nI 118 from by rw [c18]) cz) (fun _ => ?_)
              by_cases cl : lv + 1 < 5
              · have eg : gsE (kd (a + j)) (first + nmE (sqL kd a j)) (lv, cG, oG, eeG) = (lv + 1, upd cG (lv + 1) (cG lv), upd oG (lv + 1) (oG lv), upd eeG (lv + 1) (cG lv)) := by
                  unfold gsE
                  rw [if_neg c15, if_neg c16, if_pos ⟨c18, cl⟩]
                refine And.intro (fun cz => absurd cz (show ¬ (5 : Int32) ≤ nI lv + 1 from by rw [← nI_succ]; exact nI_ge (a := lv + 1) (b := 5) cl (by decide))) (fun _ => ?_)
                refine go_loc (lv' := [(9, .int (nI (100 + kd (a + j)))), (8, .int (nI (a + j))), (7, .int (nI lv + 1)), (6, .int (nI (first + nmE (sqL kd a j)))), (0, .ref w), (1, .ref q), (2, .int (nI a)), (3, .int (nI (a + m))), (4, .int (nI first)), (5, .int (nI tr))]) ⟨rfl, rfl, rfl, rfl, rfl, rfl, rfl, rfl, rfl, rfl, trivial⟩ ?_
                rw [← nI_succ]
                refine Go.of hX.2 ck_X10_connect [263] 60 ?_
                refine Exists.intro _ (And.intro hw1 (Exists.intro _ (And.intro rfl ?_)))
                refine Exists.intro _ (And.intro hw1 (Exists.intro _ (And.intro rfl ?_)))
                refine Exists.intro _ (Exists.intro _ (And.intro e0 (And.intro (by rw [nI_pred]; exact vp_in_nI (show lv < 5 by omega) (by decide)) ?_)))
                rw [nI_pred, nI_clamp (show lv < 2 ^ 31 by omega)]
                refine Exists.intro _ (Exists.intro _ (And.intro e0 (And.intro (vp_in_nI (show lv + 1 < 5 by omega) (by decide)) ?_)))
                rw [nI_clamp (show lv + 1 < 2 ^ 31 by omega)]
                refine Exists.intro _ (And.intro ((uph_ne (by omega)).trans hw1) (Exists.intro _ (And.intro rfl ?_)))
                refine Exists.intro _ (And.intro ((uph_ne (by omega)).trans hw1) (Exists.intro _ (And.intro rfl ?_)))
                refine Exists.intro _ (Exists.intro _ (And.intro uph_eq (And.intro (by rw [nI_pred]; exact vp_in_nI (show lv < 5 by omega) (by decide)) ?_)))
                rw [nI_pred, nI_clamp (show lv < 2 ^ 31 by omega), pk_un (show lv ≠ lv + 1 by omega)]
                refine Exists.intro _ (Exists.intro _ (And.intro ((uph_ne (by omega)).trans e2) (And.intro (vp_in_nI (show lv + 1 < 5 by omega) (by decide)) ?_)))
                rw [nI_clamp (show lv + 1 < 2 ^ 31 by omega)]
                refine Exists.intro _ (And.intro ((uph_ne (by omega)).trans ((uph_ne (by omega)).trans hw1)) (Exists.intro _ (And.intro rfl ?_)))
                refine Exists.intro _ (And.intro ((uph_ne (by omega)).trans ((uph_ne (by omega)).trans hw1)) (Exists.intro _ (And.intro rfl ?_)))
                refine Exists.intro _ (Exists.intro _ (And.intro ((uph_ne (by omega)).trans ((uph_ne (by omega)).trans e1)) (And.intro (by rw [nI_pred]; exact vp_in_nI (show lv < 5 by omega) (by decide)) ?_)))
                rw [nI_pred, nI_clamp (show lv < 2 ^ 31 by omega)]
                refine Exists.intro _ (Exists.intro _ (And.intro ((uph_ne (by omega)).trans ((uph_ne (by omega)).trans e1)) (And.intro (vp_in_nI (show lv + 1 < 5 by omega) (by decide)) ?_)))
                rw [nI_clamp (show lv + 1 < 2 ^ 31 by omega)]
                refine go_loc (lv' := [(8, .int (nI (a + j))), (7, .int (nI (lv + 1))), (6, .int (nI (first + nmE (sqL kd a j)))), (0, .ref w), (1, .ref q), (2, .int (nI a)), (3, .int (nI (a + m))), (4, .int (nI first)), (5, .int (nI tr))]) ⟨rfl, rfl, rfl, rfl, rfl, rfl, rfl, rfl, rfl, trivial⟩ ?_
                have un : ∀ {A B C : AE} x, x ≠ b → x ≠ b + 1 → x ≠ b + 2 → uph (uph (uph h1 b A) (b + 2) B) (b + 1) C x = h1 x := fun x z1 z2 z3 => (uph_ne z2).trans ((uph_ne z3).trans (uph_ne z1))
                refine nxt (fun x hx => (un x (by omega) (by omega) (by omega)).trans (f1 x hx)) (fun x z1 z2 => (un x (by omega) (by omega) (by omega)).trans (f2 x z1 z2)) ⟨(un _ (by omega) (by omega) (by omega)).trans e6, (un _ (by omega) (by omega) (by omega)).trans e7, (un _ (by omega) (by omega) (by omega)).trans e8, (un _ (by omega) (by omega) (by omega)).trans e9, (un _ (by omega) (by omega) (by omega)).trans e10, (uph_ne (by omega)).trans ((uph_ne (by omega)).trans uph_eq), uph_eq, (uph_ne (by omega)).trans uph_eq⟩ (Dsame k2) (okS k2) s1 s2 s3 s4 s5 (by rw [eg]) (fun x hx => ?_)
                rw [eg]
                have hl := hg lv (Nat.le_refl _)
                by_cases e : x = lv + 1
                · rw [e, pk_us, pk_us, pk_us]
                  exact ⟨hl.1.trans pk_us.symm, hl.2.1.trans pk_us.symm, hl.1.trans pk_us.symm⟩
                · rw [pk_un e, pk_un e, pk_un e]
                  have hx2 := hg x (by show x ≤ lv; omega)
                  exact ⟨hx2.1.trans (pk_un (f := cG) e).symm, hx2.2.1.trans (pk_un (f := oG) e).symm, hx2.2.2.trans (pk_un (f := eeG) e).symm⟩
              · refine And.intro (fun _ => ?_) (fun cz => absurd (show (5 : Int32) ≤ nI lv + 1 from by rw [← nI_succ]; exact nI_le (a := 5) (b := lv + 1) (by omega) (by omega)) cz)
                exact go_loc (lv' := [(9, .int (nI (100 + kd (a + j)))), (8, .int (nI (a + j))), (7, .int (nI lv)), (6, .int (nI (first + nmE (sqL kd a j)))), (0, .ref w), (1, .ref q), (2, .int (nI a)), (3, .int (nI (a + m))), (4, .int (nI first)), (5, .int (nI tr))]) ⟨rfl, rfl, rfl, rfl, rfl, rfl, rfl, rfl, rfl, rfl, trivial⟩ (last (fun z => cl z.2))
            · refine And.intro (fun _ => ?_) (fun cz => absurd cz (kne 118 (by decide) (by omega)))
              exact go_loc (lv' := [(9, .int (nI (100 + kd (a + j)))), (8, .int (nI (a + j))), (7, .int (nI lv)), (6, .int (nI (first + nmE (sqL kd a j)))), (0, .ref w), (1, .ref q), (2, .int (nI a)), (3, .int (nI (a + m))), (4, .int (nI first)), (5, .int (nI tr))]) ⟨rfl, rfl, rfl, rfl, rfl, rfl, rfl, rfl, rfl, rfl, trivial⟩ (last (fun z => c18 z.1))
  obtain ⟨e6, e7, e8, e9, e10, e0, e1, e2⟩ := id hR
  refine en_X10_connect hX [46] 60 rfl ?_
  refine Exists.intro 0 (Exists.intro 0 (And.intro (Nat.le_refl _) (And.intro (Nat.le_refl _) (x_contactsIn hX hc ?_))))
  refine Exists.intro _ (And.intro hw (Exists.intro _ (And.intro rfl ?_)))
  refine Exists.intro _ (Exists.intro _ (And.intro e0 (And.intro (vp_in_nI (n := 0) (by decide) (by decide)) ?_)))
  refine Exists.intro _ (And.intro ((uph_ne (by omega)).trans hw) (Exists.intro _ (And.intro rfl ?_)))
  refine Exists.intro _ (Exists.intro _ (And.intro ((uph_ne (by omega)).trans e2) (And.intro (vp_in_nI (n := 0) (by decide) (by decide)) ?_)))
  refine Exists.intro _ (And.intro ((uph_ne (by omega)).trans ((uph_ne (by omega)).trans hw)) (Exists.intro _ (And.intro rfl ?_)))
  refine Exists.intro _ (Exists.intro _ (And.intro ((uph_ne (by omega)).trans ((uph_ne (by omega)).trans e1)) (And.intro (vp_in_nI (n := 0) (by decide) (by decide)) ?_)))
  refine Exists.intro _ (Exists.intro _ (And.intro ((uph_ne (by omega)).trans ((uph_ne (by omega)).trans ((uph_ne (by omega)).trans eq))) (And.intro (by decide) ?_)))
  refine And.intro rfl ?_
  refine go_loc (lv' := [(8, .int ((if nI 400 < nI (a + m) then nI 400 else nI (a + m)) - 1)), (7, .int (nI 0)), (6, .int (nI first + nI (nmE (sqL kd a m)))), (0, .ref w), (1, .ref q), (2, .int (nI a)), (3, .int (nI (a + m))), (4, .int (nI first)), (5, .int (nI tr))]) ⟨rfl, rfl, rfl, rfl, rfl, rfl, rfl, rfl, rfl, trivial⟩ ?_
  rw [if_neg (nI_nlt (a := 400) (b := a + m) h4 (by decide)), nI_add]
  have un : ∀ {A B C : AE} x, x ≠ b → x ≠ b + 1 → x ≠ b + 2 → uph (uph (uph h b A) (b + 2) B) (b + 1) C x = h x := fun x z1 z2 z3 => (uph_ne z2).trans ((uph_ne z3).trans (uph_ne z1))
  have l1 := loop m _ gv gb gi wc wo (upd gc 0 (-1)) (upd go 0 (-2)) (upd ge 0 (-1)) (Nat.le_refl _) (fun x hx => un (A := .inl (0, 5, .inl (upd gc 0 (-1)))) (B := .inl (0, 5, .inl (upd ge 0 (-1)))) (C := .inl (0, 5, .inl (upd go 0 (-2)))) x (by omega) (by omega) (by omega)) (fun x z1 z2 => un x (by omega) (by omega) (by omega)) ⟨(un _ (by omega) (by omega) (by omega)).trans e6, (un _ (by omega) (by omega) (by omega)).trans e7, (un _ (by omega) (by omega) (by omega)).trans e8, (un _ (by omega) (by omega) (by omega)).trans e9, (un _ (by omega) (by omega) (by omega)).trans e10, (uph_ne (by omega)).trans ((uph_ne (by omega)).trans uph_eq), uph_eq, (uph_ne (by omega)).trans uph_eq⟩ (fun x x1 x2 => by omega) (by rw [Nat.sub_self]; exact True.intro) (fun _ _ => rfl) (fun _ _ => rfl) (fun _ _ => rfl) (fun _ _ => rfl) (fun _ _ => rfl) (by
    rw [Nat.sub_self]
    intro x hx
    have ex : x = 0 := Nat.le_zero.mp hx
    rw [ex]
    exact ⟨pk_us, pk_us, pk_us⟩)
  rw [Nat.sub_self] at l1
  exact l1
