/-! x reaches a word -/
set_option maxHeartbeats 4000000 in
theorem c_reachX {l : Launch} {G : GG} {h : AH} {nx : Nat} {Post : Option Value → AH → Nat → Prop} {v qs qq qo on up fr Fn : Nat} {gs : Nat → Int64} {gq go : Nat → Int32} {fs : List Value} (hX : XC G ∧ TX l G) (hv : h v = some (.inr (7, fs))) (hl : fs.length = 9) (f1 : fs[1]? = some (.ref qq)) (f2 : fs[2]? = some (.ref qo)) (f3 : fs[3]? = some (.ref qs)) (f4 : fs[4]? = some (.int (nI Fn))) (hs : h qs = some (.inl (1, 32, .inr (.inl gs)))) (hq : h qq = some (.inl (0, 2048, .inl gq))) (ho : h qo = some (.inl (0, 2048, .inl go))) (hqo : qo ≠ qq) (hon : on < 32) (hup : up < 64) (hF : bl (gs on) up = false → Fn < 2048) (hP1 : bl (gs on) up = true → Post none h nx) (hP2 : bl (gs on) up = false → Post none (uph (uph (uph (uph h qs (.inl (1, 32, .inr (.inl (vp_updL gs on (gs on ||| ((1 : Int64) <<< ((nI up).toInt64 &&& 63)))))))) qq (.inl (0, 2048, .inl (upd gq Fn (nI (64 * on + up)))))) qo (.inl (0, 2048, .inl (upd go Fn (nI fr))))) v (.inr (7, fs.set 4 (.int (nI (Fn + 1)))))) nx) : Runs l G i_X7_reach 0 0 [.ref v, .int (nI on), .int (nI up), .int (nI fr)] h nx Post := by
  have n1 : qs ≠ v := fun e => by rw [e, hv] at hs; cases hs
  have n2 : qq ≠ v := fun e => by rw [e, hv] at hq; cases hq
  have n3 : qo ≠ v := fun e => by rw [e, hv] at ho; cases ho
  have n4 : qq ≠ qs := fun e => by rw [e, hs] at hq; cases hq
  have n5 : qo ≠ qs := fun e => by rw [e, hs] at ho; cases ho
  have e31 : nI on &&& 31 = nI on := by rw [show (31 : Int32) = nI 31 from rfl, nx_and, show (31 : Nat) = 2 ^ 5 - 1 from rfl, Nat.and_two_pow_sub_one_eq_mod, Nat.mod_eq_of_lt (by omega)]
  refine en_X7_reach hX [] 120 rfl ?_
  refine Exists.intro _ (And.intro hv (Exists.intro _ (And.intro f3 ?_)))
  refine Exists.intro _ (Exists.intro _ (And.intro hs (And.intro (by rw [e31]; exact vp_in_nI hon (by decide)) ?_)))
  rw [e31, nI_clamp (by omega)]
  cases hb : bl (gs on) up
  · refine And.intro (fun cz => absurd (cmp_eq.mpr ((bl_has _ up hup).mpr hb)) cz) (fun _ => ?_)
    have hF2 := hF hb
    refine Exists.intro _ (And.intro hv (Exists.intro _ (And.intro f4 ?_)))
    refine And.intro (fun _ => ?_) (fun cz => absurd (nI_lt (b := 2048) hF2 (by decide)) cz)
    refine Exists.intro _ (And.intro hv (Exists.intro _ (And.intro f3 ?_)))
    refine Exists.intro _ (Exists.intro _ (And.intro hs (And.intro (by rw [e31]; exact vp_in_nI hon (by decide)) ?_)))
    rw [e31, nI_clamp (by omega)]
    refine Exists.intro _ (Exists.intro _ (And.intro hs (And.intro (vp_in_nI hon (by decide)) ?_)))
    rw [nI_clamp (by omega)]
    refine Exists.intro _ (And.intro (by rw [uph_ne (Ne.symm n1)]; exact hv) (Exists.intro _ (And.intro f1 ?_)))
    refine Exists.intro _ (And.intro (by rw [uph_ne (Ne.symm n1)]; exact hv) (Exists.intro _ (And.intro f4 ?_)))
    refine Exists.intro 0 (Exists.intro 0 (And.intro (Nat.le_refl _) (And.intro (Nat.le_refl _) (c_wordOf hX ?_))))
    rw [wordI hon hup]
    refine Exists.intro _ (Exists.intro _ (And.intro (by rw [uph_ne n4]; exact hq) (And.intro (vp_in_nI hF2 (by decide)) ?_)))
    rw [nI_clamp (by omega)]
    refine Exists.intro _ (And.intro (by rw [uph_ne (Ne.symm n2), uph_ne (Ne.symm n1)]; exact hv) (Exists.intro _ (And.intro f2 ?_)))
    refine Exists.intro _ (And.intro (by rw [uph_ne (Ne.symm n2), uph_ne (Ne.symm n1)]; exact hv) (Exists.intro _ (And.intro f4 ?_)))
    refine Exists.intro _ (Exists.intro _ (And.intro (by rw [uph_ne hqo, uph_ne n5]; exact ho) (And.intro (vp_in_nI hF2 (by decide)) ?_)))
    rw [nI_clamp (by omega)]
    refine Exists.intro _ (And.intro (by rw [uph_ne (Ne.symm n3), uph_ne (Ne.symm n2), uph_ne (Ne.symm n1)]; exact hv) (Exists.intro _ (And.intro f4 ?_)))
    refine Exists.intro _ (And.intro (by rw [uph_ne (Ne.symm n3), uph_ne (Ne.symm n2), uph_ne (Ne.symm n1)]; exact hv) (And.intro (by omega) (And.intro rfl (And.intro rfl ?_))))
    rw [← nI_succ]
    exact hP2 hb
  · refine And.intro (fun _ => ?_) (fun cz => absurd ((bl_has _ up hup).mp (cmp_eq.mp cz)) (by rw [hb]; decide))
    exact hP1 hb
set_option maxHeartbeats 4000000 in
theorem c_isAtStop {l : Launch} {G : GG} {h : AH} {nx : Nat} {Post : Option Value → AH → Nat → Prop} {v : Nat} {a b wa ra : Int32} {fs : List Value} (hX : XC G ∧ TX l G) (hv : h v = some (.inr (7, fs))) (f5 : fs[5]? = some (.int ra)) (f6 : fs[6]? = some (.int wa)) (hP : Post (some (.int (if (a ≠ 0 ∧ 0 ≤ wa) ∨ (b ≠ 0 ∧ 0 < ra) then 1 else 0))) h nx) : Runs l G i_X7_isAtStop 0 0 [.ref v, .int a, .int b] h nx Post := by
  have s11 : ¬ (a ≠ 0 ∧ 0 ≤ wa) → Go l G 7 s_X7_isAtStop 0 0 Post 11 [(0, .ref v), (1, .int a), (2, .int b)] [] h nx 0 0 := by
    intro hn
    refine Go.of hX.2 ck_X7_isAtStop [] 40 ?_
    by_cases hb : b = 0
    · rw [if_neg (fun z => z.elim hn (fun z => z.1 hb))] at hP
      refine And.intro (fun _ => ?_) (fun cz => absurd hb cz)
      exact And.intro rfl hP
    · refine And.intro (fun cz => absurd cz hb) (fun _ => ?_)
      refine Exists.intro _ (And.intro hv (Exists.intro _ (And.intro f5 ?_)))
      by_cases hr : ra ≤ 0
      · rw [if_neg (fun z => z.elim hn (fun z => absurd z.2 (Int32.not_lt.mpr hr)))] at hP
        refine And.intro (fun _ => ?_) (fun cz => absurd hr cz)
        exact And.intro rfl hP
      · rw [if_pos (Or.inr ⟨hb, Int32.not_le.mp hr⟩)] at hP
        refine And.intro (fun cz => absurd cz hr) (fun _ => ?_)
        exact And.intro rfl hP
  refine en_X7_isAtStop hX [11] 40 rfl ?_
  by_cases ha : a = 0
  · refine And.intro (fun _ => ?_) (fun cz => absurd ha cz)
    exact go_loc (lv' := [(0, .ref v), (1, .int a), (2, .int b)]) ⟨rfl, rfl, rfl, trivial⟩ (s11 (fun z => z.1 ha))
  · refine And.intro (fun cz => absurd cz ha) (fun _ => ?_)
    refine Exists.intro _ (And.intro hv (Exists.intro _ (And.intro f6 ?_)))
    by_cases hw : 0 ≤ wa
    · rw [if_pos (Or.inl ⟨ha, hw⟩)] at hP
      refine And.intro (fun _ => ?_) (fun cz => absurd hw cz)
      exact And.intro rfl hP
    · refine And.intro (fun cz => absurd cz hw) (fun _ => ?_)
      exact go_loc (lv' := [(0, .ref v), (1, .int a), (2, .int b)]) ⟨rfl, rfl, rfl, trivial⟩ (s11 (fun z => hw z.2))
theorem c_inputCount {l : Launch} {G : GG} {h : AH} {nx : Nat} {Post : Option Value → AH → Nat → Prop} {u d : Nat} {n : Int32} {fs fd : List Value} (hX : XC G ∧ TX l G) (hu : h u = some (.inr (3, fs))) (f0 : fs[0]? = some (.ref d)) (hd : h d = some (.inr (0, fd))) (d0 : fd[0]? = some (.int n)) (hP : Post (some (.int n)) h nx) : Runs l G i_X3_inputCount 0 0 [.ref u] h nx Post := by
  refine en_X3_inputCount hX [] 20 rfl ?_
  refine Exists.intro _ (And.intro hu (Exists.intro _ (And.intro f0 ?_)))
  refine Exists.intro _ (And.intro hd (Exists.intro _ (And.intro d0 ?_)))
  exact And.intro rfl hP
/-- what must not show, by words: x keeps it so -/
def FB (h : AH) (e nIn : Nat) (fo : Nat → Nat) : Prop := ∃ (fd : List Value) (q : Nat) (g : Nat → Int32), h e = some (.inr (0, fd)) ∧ fd[16]? = some (.ref q) ∧ h q = some (.inl (2, 64 * 2 ^ nIn, .inl g)) ∧ nIn ≤ 5 ∧ (e < q ∧ q < e + 29) ∧ ∀ w, w < 64 * 2 ^ nIn → g w = nI (fo w) ∧ fo w < 32
set_option maxHeartbeats 4000000 in
theorem c_forbiddenAt {l : Launch} {G : GG} {h : AH} {nx : Nat} {Post : Option Value → AH → Nat → Prop} {e nIn w : Nat} {fo : Nat → Nat} (hX : XC G ∧ TX l G) (hF : FB h e nIn fo) (hw : w < 64 * 2 ^ nIn) (hP : Post (some (.int (nI (fo w)))) h nx) : Runs l G i_X0_forbiddenAt 0 0 [.ref e, .int (nI w)] h nx Post := by
  obtain ⟨fd, q, g, he, d16, hq, hIn, _, hg⟩ := hF
  have hp : 2 ^ nIn ≤ 32 := Nat.pow_le_pow_right (n := 2) (by decide) hIn
  refine en_X0_forbiddenAt hX [] 40 rfl ?_
  refine And.intro (fun cz => absurd cz (nI_pos (by omega))) (fun _ => ?_)
  refine Exists.intro _ (And.intro he (Exists.intro _ (And.intro d16 ?_)))
  refine Exists.intro _ (Exists.intro _ (And.intro hq (And.intro (by decide) ?_)))
  refine And.intro (fun cz => absurd cz (nI_ge hw (by omega))) (fun _ => ?_)
  refine Exists.intro _ (And.intro he (Exists.intro _ (And.intro d16 ?_)))
  refine Exists.intro 2 (Exists.intro _ (Exists.intro _ (And.intro hq (And.intro (Or.inl rfl) (And.intro (vp_in_nI hw (by omega)) ?_)))))
  rw [nI_clamp (by omega), (hg w hw).1]
  exact And.intro rfl hP
set_option maxHeartbeats 4000000 in
theorem c_isWrongX {l : Launch} {G : GG} {h : AH} {nx : Nat} {Post : Option Value → AH → Nat → Prop} {u e nIn w sv : Nat} {fo : Nat → Nat} {fs : List Value} (hX : XC G ∧ TX l G) (hu : h u = some (.inr (3, fs))) (f1 : fs[1]? = some (.ref e)) (hF : FB h e nIn fo) (hw : w < 64 * 2 ^ nIn) (hsv : sv < 2048) (hca : ∀ {Q : Option Value → AH → Nat → Prop}, Q (some (.int (nI sv))) h nx → Runs l G i_X3_circuitsAt 0 0 [.ref u, .int (nI w)] h nx Q) (hP : Post (some (.int (nI (decide (((sv >>> 6) &&& fo w) ≠ 0)).toNat))) h nx) : Runs l G i_X3_isWrong 0 0 [.ref u, .int (nI w)] h nx Post := by
  obtain ⟨fd, he⟩ : ∃ fd, h e = some (.inr (0, fd)) := by obtain ⟨fd, _, _, he, _⟩ := hF; exact ⟨fd, he⟩
  refine en_X3_isWrong hX [] 40 rfl ?_
  refine Exists.intro _ (And.intro hu (Exists.intro 0 (Exists.intro 0 (And.intro (Nat.le_refl _) (And.intro (Nat.le_refl _) (hca ?_))))))
  refine Exists.intro _ (And.intro hu (Exists.intro _ (And.intro f1 ?_)))
  refine Exists.intro _ (And.intro he (Exists.intro 0 (Exists.intro 0 (And.intro (Nat.le_refl _) (And.intro (Nat.le_refl _) (c_forbiddenAt hX hF hw ?_))))))
  have e3 : (nI sv >>> ((6 : Int32) &&& 31)) &&& nI (fo w) = nI ((sv >>> 6) &&& fo w) := by rw [show (6 : Int32) = nI 6 from rfl, nx_shr (by omega) (by decide), nx_and]
  have hlt : (sv >>> 6) &&& fo w < 2 ^ 31 := Nat.lt_of_le_of_lt Nat.and_le_left (by rw [Nat.shiftRight_eq_div_pow]; omega)
  by_cases h0 : (sv >>> 6) &&& fo w = 0
  · rw [decide_eq_false (fun z => z h0)] at hP
    refine And.intro (fun _ => ?_) (fun cz => absurd (by rw [e3, h0]; rfl) cz)
    exact And.intro rfl hP
  · rw [decide_eq_true h0] at hP
    refine And.intro (fun cz => absurd ((nI_eq hlt (by decide)).mp (show nI _ = nI 0 from e3.symm.trans cz)) h0) (fun _ => ?_)
    exact And.intro rfl hP
