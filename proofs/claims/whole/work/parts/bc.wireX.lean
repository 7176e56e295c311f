/-! x wires a circuit, from the right to the left -/
def wiF (b S : Nat) : List Value := [.int (nI S), .ref (b + 6), .ref (b + 7), .ref (b + 8), .ref (b + 9), .ref (b + 10), .ref b, .ref (b + 1), .ref (b + 2), .ref (b + 3), .ref (b + 4), .ref (b + 5)]
/-- a token's code: of a name, or of a sign -/
def cdT (kd vc : Nat → Nat) (j : Nat) : Nat := if kd j = 2 then vc j else 100 + kd j
def codesAt (h : AH) (q : Nat) (kd vc : Nat → Nat) (a m : Nat) : Prop := ∃ g : Nat → Int32, h q = some (.inl (0, 400, .inl g)) ∧ a + m ≤ 400 ∧ ∀ j, j < m → g (a + j) = nI (cdT kd vc (a + j)) ∧ (kd (a + j) = 2 → vc (a + j) < 30) ∧ kd (a + j) < 19
theorem nmE_s {kd : Nat → Nat} {a j : Nat} : nmE (sqL kd a (j + 1)) = nmE (sqL kd a j) + (if kd (a + j) = 2 then 1 else 0) := by
  rw [sqL_app]
  have : ∀ l : List Nat, ∀ x, nmE (l ++ [x]) = nmE l + (if x = 2 then 1 else 0) := fun l x => by
    induction l with
    | nil => show (if x = 2 then 1 else 0) + 0 = 0 + _; omega
    | cons y l ih => show (if y = 2 then 1 else 0) + nmE (l ++ [x]) = (if y = 2 then 1 else 0) + nmE l + _; rw [ih]; omega
  exact this _ _
theorem nmE_mo {kd : Nat → Nat} {a : Nat} : ∀ {j m : Nat}, j ≤ m → nmE (sqL kd a j) ≤ nmE (sqL kd a m) := fun {j m} h => by
  obtain ⟨k, rfl⟩ := Nat.exists_eq_add_of_le h
  induction k with
  | zero => exact Nat.le_refl _
  | succ k ih =>
    have := ih (by omega)
    rw [show j + (k + 1) = (j + k) + 1 from rfl, nmE_s]
    omega
set_option maxHeartbeats 8000000 in
theorem x_contactsIn {l : Launch} {G : GG} {h : AH} {nx : Nat} {Post : Option Value → AH → Nat → Prop} {q a m : Nat} {kd vc : Nat → Nat} (hX : XC G ∧ TX l G) (hc : codesAt h q kd vc a m) (hP : Post (some (.int (nI (nmE (sqL kd a m))))) h nx) : Runs l G i_X10_contactsIn 0 0 [.ref q, .int (nI a), .int (nI (a + m))] h nx Post := by
  obtain ⟨g, e, h4, p⟩ := hc
  have loop : ∀ (r j : Nat), j + r = m → Go l G 10 s_X10_contactsIn 0 0 Post 5 [(4, .int (nI (a + j))), (3, .int (nI (nmE (sqL kd a j)))), (0, .ref q), (1, .int (nI a)), (2, .int (nI (a + m)))] [] h nx 0 0 := by
    intro r
    induction r with
    | zero =>
      intro j hj
      have e2 : j = m := by omega
      subst e2
      refine Go.of hX.2 ck_X10_contactsIn [] 20 ?_
      refine And.intro (fun _ => ?_) (fun cz => absurd (nI_le (Nat.le_refl _) (by omega)) cz)
      exact And.intro rfl (hP)
    | succ r ih =>
      intro j hj
      have nx2 := ih (j + 1) (by omega)
      rw [nmE_s, show a + (j + 1) = (a + j) + 1 from rfl, nI_succ (a + j)] at nx2
      obtain ⟨p1, p2, p3⟩ := p j (by omega)
      refine Go.of hX.2 ck_X10_contactsIn [5] 40 ?_
      refine And.intro (fun cz => absurd cz (nI_ge (a := a + j) (b := a + m) (by omega) (by omega))) (fun _ => ?_)
      refine Exists.intro _ (Exists.intro _ (And.intro e (And.intro (by decide) ?_)))
      refine And.intro (fun cz => absurd cz (nI_ge (a := a + j) (b := 400) (by omega) (by decide))) (fun _ => ?_)
      refine Exists.intro _ (Exists.intro _ (And.intro e (And.intro (vp_in_nI (show a + j < 400 by omega) (by decide)) ?_)))
      rw [nI_clamp (show a + j < 2 ^ 31 by omega), p1]
      unfold cdT
      by_cases k2 : kd (a + j) = 2
      · have := p2 k2
        rw [if_pos k2, nI_succ] at nx2
        rw [if_pos k2]
        refine And.intro (fun cz => absurd cz (nI_ge (a := vc (a + j)) (b := 100) (by omega) (by decide))) (fun _ => ?_)
        exact go_loc (lv' := [(4, .int (nI (a + j) + 1)), (3, .int (nI (nmE (sqL kd a j)) + 1)), (0, .ref q), (1, .int (nI a)), (2, .int (nI (a + m)))]) ⟨rfl, rfl, rfl, rfl, rfl, trivial⟩ (nx2)
      · rw [if_neg k2, Nat.add_zero] at nx2
        rw [if_neg k2]
        refine And.intro (fun _ => ?_) (fun cz => absurd (nI_le (a := 100) (b := 100 + kd (a + j)) (by omega) (by omega)) cz)
        exact go_loc (lv' := [(4, .int (nI (a + j) + 1)), (3, .int (nI (nmE (sqL kd a j)))), (0, .ref q), (1, .int (nI a)), (2, .int (nI (a + m)))]) ⟨rfl, rfl, rfl, rfl, rfl, trivial⟩ (nx2)
  refine en_X10_contactsIn hX [5] 20 rfl ?_
  exact go_loc (lv' := [(4, .int (nI (a + 0))), (3, .int (nI 0)), (0, .ref q), (1, .int (nI a)), (2, .int (nI (a + m)))]) ⟨rfl, rfl, rfl, rfl, rfl, trivial⟩ (loop m 0 (Nat.zero_add _))
theorem gsE_5 {k n : Nat} {g : GE} (h : g.1 ≤ 4) : (gsE k n g).1 ≤ 4 := by
  unfold gsE
  repeat' split
  all_goals first | exact h | (show g.1 + 1 ≤ 4; omega) | (show g.1 - 1 ≤ 4; omega)
theorem goE_5 : ∀ (r : List Nat) (n : Nat), (goE r n).1 ≤ 4
  | [], _ => Nat.zero_le _
  | k :: r, n => gsE_5 (goE_5 r (if k = 2 then n + 1 else n))
theorem okG_congr {wc wo wc' wo' : Nat → Int32} : ∀ (r : List Nat) (n : Nat), (∀ k, n ≤ k → wc' k = wc k ∧ wo' k = wo k) → okG wc wo r n → okG wc' wo' r n
  | [], _, _, _ => True.intro
  | k :: r, n, h, ok => ⟨fun hk => by rw [(h n (Nat.le_refl n)).1, (h n (Nat.le_refl n)).2]; exact ok.1 hk, okG_congr r _ (fun j hj => h j (by split at hj <;> omega)) ok.2⟩
/-- what a wiring's rows hold -/
def wiR (h : AH) (b S : Nat) (gv gb gi wc wo gc go ge : Nat → Int32) : Prop := h (b + 6) = some (.inl (0, S, .inl gv)) ∧ h (b + 7) = some (.inl (0, S, .inl gb)) ∧ h (b + 8) = some (.inl (0, S, .inl gi)) ∧ h (b + 9) = some (.inl (0, S, .inl wc)) ∧ h (b + 10) = some (.inl (0, S, .inl wo)) ∧ h b = some (.inl (0, 5, .inl gc)) ∧ h (b + 1) = some (.inl (0, 5, .inl go)) ∧ h (b + 2) = some (.inl (0, 5, .inl ge))
set_option maxHeartbeats 8000000 in
theorem x_putContact {l : Launch} {G : GG} {h : AH} {nx : Nat} {Post : Option Value → AH → Nat → Prop} {w b S n v lv : Nat} {nb tb : Bool} {gv gb gi wc wo gc go ge : Nat → Int32} (hX : XC G ∧ TX l G) (hw : h w = some (.inr (10, wiF b S))) (hR : wiR h b S gv gb gi wc wo gc go ge) (hn : n < S) (hS : S ≤ 400) (hl : lv < 5) (hwb : w < b ∨ b + 11 ≤ w) (hP : ∀ h1 : AH, (∀ x, x < b ∨ b + 11 ≤ x → h1 x = h x) → (∀ x, b + 3 ≤ x → x < b + 6 → h1 x = h x) → wiR h1 b S (upd gv n (nI v)) (upd gb n (nI nb.toNat)) (upd gi n (nI (nb ^^ tb).toNat)) (upd wc n (gc lv)) (upd wo n (go lv)) gc go ge → Post none h1 nx) : Runs l G i_X10_putContact 0 0 [.ref w, .int (nI n), .int (nI v), .int (nI nb.toNat), .int (nI tb.toNat), .int (nI lv)] h nx Post := by
  obtain ⟨e6, e7, e8, e9, e10, e0, e1, e2⟩ := hR
  have fin : Post none (uph (uph (uph (uph (uph h (b + 6) (.inl (0, S, .inl (upd gv n (nI v))))) (b + 7) (.inl (0, S, .inl (upd gb n (nI nb.toNat))))) (b + 8) (.inl (0, S, .inl (upd gi n (nI (nb ^^ tb).toNat))))) (b + 9) (.inl (0, S, .inl (upd wc n (gc lv))))) (b + 10) (.inl (0, S, .inl (upd wo n (go lv))))) nx := by
    refine hP _ (fun x hx => by rw [uph_ne (by omega), uph_ne (by omega), uph_ne (by omega), uph_ne (by omega), uph_ne (by omega)]) (fun x h1 h2 => by rw [uph_ne (by omega), uph_ne (by omega), uph_ne (by omega), uph_ne (by omega), uph_ne (by omega)]) ⟨?_, ?_, ?_, ?_, ?_, ?_, ?_, ?_⟩
    · rw [uph_ne (by omega), uph_ne (by omega), uph_ne (by omega), uph_ne (by omega)]; exact uph_eq
    · rw [uph_ne (by omega), uph_ne (by omega), uph_ne (by omega)]; exact uph_eq
    · rw [uph_ne (by omega), uph_ne (by omega)]; exact uph_eq
    · rw [uph_ne (by omega)]; exact uph_eq
    · exact uph_eq
    · rw [uph_ne (by omega), uph_ne (by omega), uph_ne (by omega), uph_ne (by omega), uph_ne (by omega)]; exact e0
    · rw [uph_ne (by omega), uph_ne (by omega), uph_ne (by omega), uph_ne (by omega), uph_ne (by omega)]; exact e1
    · rw [uph_ne (by omega), uph_ne (by omega), uph_ne (by omega), uph_ne (by omega), uph_ne (by omega)]; exact e2
  have at51 : ∀ h1 : AH, h1 = uph (uph (uph h (b + 6) (.inl (0, S, .inl (upd gv n (nI v))))) (b + 7) (.inl (0, S, .inl (upd gb n (nI nb.toNat))))) (b + 8) (.inl (0, S, .inl (upd gi n (nI (nb ^^ tb).toNat)))) → Go l G 10 s_X10_putContact 0 0 Post 51 [(0, .ref w), (1, .int (nI n)), (2, .int (nI v)), (3, .int (nI nb.toNat)), (4, .int (nI tb.toNat)), (5, .int (nI lv))] [] h1 nx 0 0 := by
    intro h1 eh
    have f : ∀ x, x ≠ b + 6 → x ≠ b + 7 → x ≠ b + 8 → h1 x = h x := fun x a1 a2 a3 => by rw [eh, uph_ne a3, uph_ne a2, uph_ne a1]
    have hw1 := (f w (by omega) (by omega) (by omega)).trans hw
    refine Go.of hX.2 ck_X10_putContact [] 40 ?_
    refine Exists.intro _ (And.intro hw1 (Exists.intro _ (And.intro rfl ?_)))
    refine Exists.intro _ (And.intro hw1 (Exists.intro _ (And.intro rfl ?_)))
    refine Exists.intro _ (Exists.intro _ (And.intro ((f b (by omega) (by omega) (by omega)).trans e0) (And.intro (vp_in_nI hl (by decide)) ?_)))
    rw [nI_clamp (show lv < 2 ^ 31 by omega)]
    refine Exists.intro _ (Exists.intro _ (And.intro ((f (b + 9) (by omega) (by omega) (by omega)).trans e9) (And.intro (vp_in_nI hn (by omega)) ?_)))
    rw [nI_clamp (show n < 2 ^ 31 by omega)]
    refine Exists.intro _ (And.intro ((uph_ne (by omega)).trans hw1) (Exists.intro _ (And.intro rfl ?_)))
    refine Exists.intro _ (And.intro ((uph_ne (by omega)).trans hw1) (Exists.intro _ (And.intro rfl ?_)))
    refine Exists.intro _ (Exists.intro _ (And.intro ((uph_ne (by omega)).trans ((f (b + 1) (by omega) (by omega) (by omega)).trans e1)) (And.intro (vp_in_nI hl (by decide)) ?_)))
    rw [nI_clamp (show lv < 2 ^ 31 by omega)]
    refine Exists.intro _ (Exists.intro _ (And.intro ((uph_ne (by omega)).trans ((f (b + 10) (by omega) (by omega) (by omega)).trans e10)) (And.intro (vp_in_nI hn (by omega)) ?_)))
    rw [nI_clamp (show n < 2 ^ 31 by omega), eh]
    exact fin
  refine en_X10_putContact hX [34, 51] 60 rfl ?_
  refine And.intro (fun cz => absurd cz (nI_pos (show n < 2 ^ 31 by omega))) (fun _ => ?_)
  refine Exists.intro _ (And.intro hw (Exists.intro _ (And.intro rfl ?_)))
  refine And.intro (fun cz => absurd cz (nI_ge hn (by omega))) (fun _ => ?_)
  refine Exists.intro _ (And.intro hw (Exists.intro _ (And.intro rfl ?_)))
  refine Exists.intro _ (Exists.intro _ (And.intro e6 (And.intro (vp_in_nI hn (by omega)) ?_)))
  rw [nI_clamp (show n < 2 ^ 31 by omega)]
  have hw6 := (uph_ne (h := h) (e := .inl (0, S, .inl (upd gv n (nI v)))) (show w ≠ b + 6 by omega)).trans hw
  have e76 := (uph_ne (h := h) (e := .inl (0, S, .inl (upd gv n (nI v)))) (show b + 7 ≠ b + 6 by omega)).trans e7
  refine Exists.intro _ (And.intro hw6 (Exists.intro _ (And.intro rfl ?_)))
  have at34 : Go l G 10 s_X10_putContact 0 0 Post 34 [(0, .ref w), (1, .int (nI n)), (2, .int (nI v)), (3, .int (nI nb.toNat)), (4, .int (nI tb.toNat)), (5, .int (nI lv))] [] (uph (uph h (b + 6) (.inl (0, S, .inl (upd gv n (nI v))))) (b + 7) (.inl (0, S, .inl (upd gb n (nI nb.toNat))))) nx 0 0 := by
    have hw7 := (uph_ne (h := uph h (b + 6) (.inl (0, S, .inl (upd gv n (nI v))))) (e := .inl (0, S, .inl (upd gb n (nI nb.toNat)))) (show w ≠ b + 7 by omega)).trans hw6
    have e87 := (uph_ne (h := uph h (b + 6) (.inl (0, S, .inl (upd gv n (nI v))))) (e := .inl (0, S, .inl (upd gb n (nI nb.toNat)))) (show b + 8 ≠ b + 7 by omega)).trans ((uph_ne (show b + 8 ≠ b + 6 by omega)).trans e8)
    have a51 := at51 _ rfl
    refine Go.of hX.2 ck_X10_putContact [51] 40 ?_
    refine Exists.intro _ (And.intro hw7 (Exists.intro _ (And.intro rfl ?_)))
    by_cases c : nb = tb
    · subst c
      rw [Bool.xor_self] at a51
      refine And.intro (fun _ => ?_) (fun cz => absurd (rfl) cz)
      refine Exists.intro _ (Exists.intro _ (And.intro e87 (And.intro (vp_in_nI hn (by omega)) ?_)))
      rw [nI_clamp (show n < 2 ^ 31 by omega)]
      exact go_loc (lv' := [(0, .ref w), (1, .int (nI n)), (2, .int (nI v)), (3, .int (nI nb.toNat)), (4, .int (nI nb.toNat)), (5, .int (nI lv))]) ⟨rfl, rfl, rfl, rfl, rfl, rfl, trivial⟩ (a51)
    · have e : (nb ^^ tb) = true := by cases nb <;> cases tb <;> first | rfl | exact absurd rfl c
      rw [e] at a51
      refine And.intro (fun cz => absurd cz (fun z => c (tN_inj.mp z))) (fun _ => ?_)
      refine Exists.intro _ (Exists.intro _ (And.intro e87 (And.intro (vp_in_nI hn (by omega)) ?_)))
      rw [nI_clamp (show n < 2 ^ 31 by omega)]
      exact go_loc (lv' := [(0, .ref w), (1, .int (nI n)), (2, .int (nI v)), (3, .int (nI nb.toNat)), (4, .int (nI tb.toNat)), (5, .int (nI lv))]) ⟨rfl, rfl, rfl, rfl, rfl, rfl, trivial⟩ (a51)
  cases nb with
  | false =>
    refine And.intro (fun _ => ?_) (fun cz => by first | exact absurd cz (by decide) | exact absurd (by decide) cz)
    refine Exists.intro _ (Exists.intro _ (And.intro e76 (And.intro (vp_in_nI hn (by omega)) ?_)))
    rw [nI_clamp (show n < 2 ^ 31 by omega)]
    exact go_loc (lv' := [(0, .ref w), (1, .int (nI n)), (2, .int (nI v)), (3, .int (nI false.toNat)), (4, .int (nI tb.toNat)), (5, .int (nI lv))]) ⟨rfl, rfl, rfl, rfl, rfl, rfl, trivial⟩ (at34)
  | true =>
    refine And.intro (fun cz => by first | exact absurd cz (by decide) | exact absurd (by decide) cz) (fun _ => ?_)
    refine Exists.intro _ (Exists.intro _ (And.intro e76 (And.intro (vp_in_nI hn (by omega)) ?_)))
    rw [nI_clamp (show n < 2 ^ 31 by omega)]
    exact go_loc (lv' := [(0, .ref w), (1, .int (nI n)), (2, .int (nI v)), (3, .int (nI true.toNat)), (4, .int (nI tb.toNat)), (5, .int (nI lv))]) ⟨rfl, rfl, rfl, rfl, rfl, rfl, trivial⟩ (at34)
