/-! the model reads: what a name is of; what must come; what is wrong -/
/-- the first of n that bears name x; -1: none -/
def fdN (nm : Nat → Int64) (x : Int64) : Nat → Int32
  | 0 => -1
  | k + 1 => if fdN nm x k = -1 then (if nm k = x then nI k else -1) else fdN nm x k
theorem fdN_c {nm : Nat → Int64} {x : Int64} : ∀ n, n < 100 → (fdN nm x n = -1 ∧ ∀ k, k < n → nm k ≠ x) ∨ (∃ k, k < n ∧ nm k = x ∧ fdN nm x n = nI k ∧ ∀ j, j < k → nm j ≠ x)
  | 0, _ => Or.inl ⟨rfl, fun k hk => absurd hk (Nat.not_lt_zero k)⟩
  | n + 1, hn => by
    show ((if fdN nm x n = -1 then (if nm n = x then nI n else -1) else fdN nm x n) = -1 ∧ _) ∨ (∃ k, k < n + 1 ∧ nm k = x ∧ (if fdN nm x n = -1 then (if nm n = x then nI n else -1) else fdN nm x n) = nI k ∧ _)
    rcases fdN_c n (by omega) with ⟨a, b⟩ | ⟨k, a, b, c, d⟩
    · rw [if_pos a]
      by_cases c : nm n = x
      · rw [if_pos c]
        exact Or.inr ⟨n, Nat.lt_succ_self n, c, rfl, b⟩
      · rw [if_neg c]
        refine Or.inl ⟨rfl, fun k hk => ?_⟩
        by_cases e : k = n
        · rw [e]; exact c
        · exact b k (by omega)
    · have hne : ¬ fdN nm x n = -1 := by
        rw [c]
        have : ∀ k, k < 100 → ¬ nI k = -1 := by decide
        exact this k (by omega)
      rw [if_neg hne]
      exact Or.inr ⟨k, by omega, b, c, d⟩
set_option maxHeartbeats 8000000 in
theorem m_inputNamed {l : Launch} {G : GG} {h : AH} {nx : Nat} {Post : Option Value → AH → Nat → Prop} {o d c : Nat} {x : Int64} {nm : Nat → Int64} {gc : Nat → Int32} {gn : Nat → Int64} {fs : List Value} (hX : XC G ∧ TX l G) (hM : MA h o fs) (f20 : fs[20]? = some (.int (nI d))) (hd : d < 5) (ec : h (o + 1 + 7) = some (.inl (0, 5, .inl gc))) (en : h (o + 1 + 9) = some (.inl (1, 25, .inr (.inl gn)))) (hc : gc d = nI c) (hc5 : c ≤ 5) (hn : ∀ k, k < c → gn (5 * d + k) = nm k) (hP : Post (some (.int (fdN nm x c))) h nx) : Runs l G i_X12_inputNamed 0 0 [.ref o, .long x] h nx Post := by
  have loop : ∀ (m k : Nat), k + m = c → Go l G 12 s_X12_inputNamed 0 0 Post 5 [(4, .int (nI k)), (3, .int (fdN nm x k)), (0, .ref o), (1, .long x)] [] h nx 0 0 := by
    intro m
    induction m with
    | zero =>
      intro k hk
      have e : k = c := by omega
      subst e
      refine Go.of hX.2 ck_X12_inputNamed [] 40 ?_
      refine Exists.intro _ (And.intro hM.1 (Exists.intro _ (And.intro (hM.2.2 7 (by decide)) ?_)))
      refine Exists.intro _ (And.intro hM.1 (Exists.intro _ (And.intro f20 ?_)))
      refine Exists.intro _ (Exists.intro _ (And.intro ec (And.intro (vp_in_nI hd (by decide)) ?_)))
      rw [nI_clamp (show d < 2 ^ 31 by omega), hc]
      refine And.intro (fun _ => ?_) (fun cz => absurd (nI_le (Nat.le_refl k) (by omega)) cz)
      exact And.intro rfl (hP)
    | succ m ih =>
      intro k hk
      have hkc : k < c := by omega
      have nxt : ∀ v, v = fdN nm x (k + 1) → Go l G 12 s_X12_inputNamed 0 0 Post 46 [(4, .int (nI k)), (3, .int v), (0, .ref o), (1, .long x)] [] h nx 0 0 := by
        intro v hv
        have := ih (k + 1) (by omega)
        rw [← hv, nI_succ k] at this
        refine Go.of hX.2 ck_X12_inputNamed [5] 5 ?_
        exact go_loc (lv' := [(4, .int (nI k + 1)), (3, .int v), (0, .ref o), (1, .long x)]) ⟨rfl, rfl, rfl, rfl, trivial⟩ (this)
      have ei : (5 : Int32) * nI d + nI k = nI (5 * d + k) := by rw [show (5 : Int32) = nI 5 from rfl, nI_mul, nI_add]
      refine Go.of hX.2 ck_X12_inputNamed [46] 60 ?_
      refine Exists.intro _ (And.intro hM.1 (Exists.intro _ (And.intro (hM.2.2 7 (by decide)) ?_)))
      refine Exists.intro _ (And.intro hM.1 (Exists.intro _ (And.intro f20 ?_)))
      refine Exists.intro _ (Exists.intro _ (And.intro ec (And.intro (vp_in_nI hd (by decide)) ?_)))
      rw [nI_clamp (show d < 2 ^ 31 by omega), hc]
      refine And.intro (fun cz => absurd cz (nI_ge (a := k) (b := c) hkc (by omega))) (fun _ => ?_)
      by_cases c1 : fdN nm x k = -1
      · refine And.intro (fun cz => absurd (c1) cz) (fun _ => ?_)
        refine Exists.intro _ (And.intro hM.1 (Exists.intro _ (And.intro (hM.2.2 9 (by decide)) ?_)))
        refine Exists.intro _ (And.intro hM.1 (Exists.intro _ (And.intro f20 ?_)))
        refine Exists.intro _ (Exists.intro _ (And.intro en (And.intro (by rw [ei]; exact vp_in_nI (show 5 * d + k < 25 by omega) (by decide)) ?_)))
        rw [ei, nI_clamp (show 5 * d + k < 2 ^ 31 by omega), hn k hkc]
        by_cases c2 : nm k = x
        · refine And.intro (fun cz => absurd (cmp_eq.mpr c2) cz) (fun _ => ?_)
          refine go_loc (lv' := [(4, .int (nI k)), (3, .int (nI k)), (0, .ref o), (1, .long x)]) ⟨rfl, rfl, rfl, rfl, trivial⟩ ?_
          exact nxt (nI k) (by show _ = (if fdN nm x k = -1 then (if nm k = x then nI k else -1) else fdN nm x k); rw [if_pos c1, if_pos c2])
        · refine And.intro (fun _ => ?_) (fun cz => absurd cz (fun z => c2 (cmp_eq.mp z)))
          refine go_loc (lv' := [(4, .int (nI k)), (3, .int (fdN nm x k)), (0, .ref o), (1, .long x)]) ⟨rfl, rfl, rfl, rfl, trivial⟩ ?_
          exact nxt (fdN nm x k) (by show _ = (if fdN nm x k = -1 then (if nm k = x then nI k else -1) else fdN nm x k); rw [if_pos c1, if_neg c2, c1])
      · refine And.intro (fun _ => ?_) (fun cz => absurd cz (c1))
        refine go_loc (lv' := [(4, .int (nI k)), (3, .int (fdN nm x k)), (0, .ref o), (1, .long x)]) ⟨rfl, rfl, rfl, rfl, trivial⟩ ?_
        exact nxt (fdN nm x k) (by show _ = (if fdN nm x k = -1 then (if nm k = x then nI k else -1) else fdN nm x k); rw [if_neg c1])
  refine en_X12_inputNamed hX [5] 20 rfl ?_
  exact go_loc (lv' := [(4, .int (nI 0)), (3, .int (fdN nm x 0)), (0, .ref o), (1, .long x)]) ⟨rfl, rfl, rfl, rfl, trivial⟩ (loop c 0 (Nat.zero_add _))
set_option maxHeartbeats 8000000 in
theorem m_relayNamed {l : Launch} {G : GG} {h : AH} {nx : Nat} {Post : Option Value → AH → Nat → Prop} {o d c : Nat} {x : Int64} {nm : Nat → Int64} {gc : Nat → Int32} {gn : Nat → Int64} {fs : List Value} (hX : XC G ∧ TX l G) (hM : MA h o fs) (f20 : fs[20]? = some (.int (nI d))) (hd : d < 5) (ec : h (o + 1 + 10) = some (.inl (0, 5, .inl gc))) (en : h (o + 1 + 12) = some (.inl (1, 30, .inr (.inl gn)))) (hc : gc d = nI c) (hc5 : c ≤ 6) (hn : ∀ k, k < c → gn (6 * d + k) = nm k) (hP : Post (some (.int (fdN nm x c))) h nx) : Runs l G i_X12_relayNamed 0 0 [.ref o, .long x] h nx Post := by
  have loop : ∀ (m k : Nat), k + m = c → Go l G 12 s_X12_relayNamed 0 0 Post 5 [(4, .int (nI k)), (3, .int (fdN nm x k)), (0, .ref o), (1, .long x)] [] h nx 0 0 := by
    intro m
    induction m with
    | zero =>
      intro k hk
      have e : k = c := by omega
      subst e
      refine Go.of hX.2 ck_X12_relayNamed [] 40 ?_
      refine Exists.intro _ (And.intro hM.1 (Exists.intro _ (And.intro (hM.2.2 10 (by decide)) ?_)))
      refine Exists.intro _ (And.intro hM.1 (Exists.intro _ (And.intro f20 ?_)))
      refine Exists.intro _ (Exists.intro _ (And.intro ec (And.intro (vp_in_nI hd (by decide)) ?_)))
      rw [nI_clamp (show d < 2 ^ 31 by omega), hc]
      refine And.intro (fun _ => ?_) (fun cz => absurd (nI_le (Nat.le_refl k) (by omega)) cz)
      exact And.intro rfl (hP)
    | succ m ih =>
      intro k hk
      have hkc : k < c := by omega
      have nxt : ∀ v, v = fdN nm x (k + 1) → Go l G 12 s_X12_relayNamed 0 0 Post 47 [(4, .int (nI k)), (3, .int v), (0, .ref o), (1, .long x)] [] h nx 0 0 := by
        intro v hv
        have := ih (k + 1) (by omega)
        rw [← hv, nI_succ k] at this
        refine Go.of hX.2 ck_X12_relayNamed [5] 5 ?_
        exact go_loc (lv' := [(4, .int (nI k + 1)), (3, .int v), (0, .ref o), (1, .long x)]) ⟨rfl, rfl, rfl, rfl, trivial⟩ (this)
      have ei : (6 : Int32) * nI d + nI k = nI (6 * d + k) := by rw [show (6 : Int32) = nI 6 from rfl, nI_mul, nI_add]
      refine Go.of hX.2 ck_X12_relayNamed [47] 60 ?_
      refine Exists.intro _ (And.intro hM.1 (Exists.intro _ (And.intro (hM.2.2 10 (by decide)) ?_)))
      refine Exists.intro _ (And.intro hM.1 (Exists.intro _ (And.intro f20 ?_)))
      refine Exists.intro _ (Exists.intro _ (And.intro ec (And.intro (vp_in_nI hd (by decide)) ?_)))
      rw [nI_clamp (show d < 2 ^ 31 by omega), hc]
      refine And.intro (fun cz => absurd cz (nI_ge (a := k) (b := c) hkc (by omega))) (fun _ => ?_)
      by_cases c1 : fdN nm x k = -1
      · refine And.intro (fun cz => absurd (c1) cz) (fun _ => ?_)
        refine Exists.intro _ (And.intro hM.1 (Exists.intro _ (And.intro (hM.2.2 12 (by decide)) ?_)))
        refine Exists.intro _ (And.intro hM.1 (Exists.intro _ (And.intro f20 ?_)))
        refine Exists.intro _ (Exists.intro _ (And.intro en (And.intro (by rw [ei]; exact vp_in_nI (show 6 * d + k < 30 by omega) (by decide)) ?_)))
        rw [ei, nI_clamp (show 6 * d + k < 2 ^ 31 by omega), hn k hkc]
        by_cases c2 : nm k = x
        · refine And.intro (fun cz => absurd (cmp_eq.mpr c2) cz) (fun _ => ?_)
          refine go_loc (lv' := [(4, .int (nI k)), (3, .int (nI k)), (0, .ref o), (1, .long x)]) ⟨rfl, rfl, rfl, rfl, trivial⟩ ?_
          exact nxt (nI k) (by show _ = (if fdN nm x k = -1 then (if nm k = x then nI k else -1) else fdN nm x k); rw [if_pos c1, if_pos c2])
        · refine And.intro (fun _ => ?_) (fun cz => absurd cz (fun z => c2 (cmp_eq.mp z)))
          refine go_loc (lv' := [(4, .int (nI k)), (3, .int (fdN nm x k)), (0, .ref o), (1, .long x)]) ⟨rfl, rfl, rfl, rfl, trivial⟩ ?_
          exact nxt (fdN nm x k) (by show _ = (if fdN nm x k = -1 then (if nm k = x then nI k else -1) else fdN nm x k); rw [if_pos c1, if_neg c2, c1])
      · refine And.intro (fun _ => ?_) (fun cz => absurd cz (c1))
        refine go_loc (lv' := [(4, .int (nI k)), (3, .int (fdN nm x k)), (0, .ref o), (1, .long x)]) ⟨rfl, rfl, rfl, rfl, trivial⟩ ?_
        exact nxt (fdN nm x k) (by show _ = (if fdN nm x k = -1 then (if nm k = x then nI k else -1) else fdN nm x k); rw [if_neg c1])
  refine en_X12_relayNamed hX [5] 20 rfl ?_
  exact go_loc (lv' := [(4, .int (nI 0)), (3, .int (fdN nm x 0)), (0, .ref o), (1, .long x)]) ⟨rfl, rfl, rfl, rfl, trivial⟩ (loop c 0 (Nat.zero_add _))
set_option maxHeartbeats 8000000 in
theorem m_lampNamed {l : Launch} {G : GG} {h : AH} {nx : Nat} {Post : Option Value → AH → Nat → Prop} {o d c : Nat} {x : Int64} {nm : Nat → Int64} {gc : Nat → Int32} {gn : Nat → Int64} {fs : List Value} (hX : XC G ∧ TX l G) (hM : MA h o fs) (f20 : fs[20]? = some (.int (nI d))) (hd : d < 5) (ec : h (o + 1 + 13) = some (.inl (0, 5, .inl gc))) (en : h (o + 1 + 15) = some (.inl (1, 25, .inr (.inl gn)))) (hc : gc d = nI c) (hc5 : c ≤ 5) (hn : ∀ k, k < c → gn (5 * d + k) = nm k) (hP : Post (some (.int (fdN nm x c))) h nx) : Runs l G i_X12_lampNamed 0 0 [.ref o, .long x] h nx Post := by
  have loop : ∀ (m k : Nat), k + m = c → Go l G 12 s_X12_lampNamed 0 0 Post 5 [(4, .int (nI k)), (3, .int (fdN nm x k)), (0, .ref o), (1, .long x)] [] h nx 0 0 := by
    intro m
    induction m with
    | zero =>
      intro k hk
      have e : k = c := by omega
      subst e
      refine Go.of hX.2 ck_X12_lampNamed [] 40 ?_
      refine Exists.intro _ (And.intro hM.1 (Exists.intro _ (And.intro (hM.2.2 13 (by decide)) ?_)))
      refine Exists.intro _ (And.intro hM.1 (Exists.intro _ (And.intro f20 ?_)))
      refine Exists.intro _ (Exists.intro _ (And.intro ec (And.intro (vp_in_nI hd (by decide)) ?_)))
      rw [nI_clamp (show d < 2 ^ 31 by omega), hc]
      refine And.intro (fun _ => ?_) (fun cz => absurd (nI_le (Nat.le_refl k) (by omega)) cz)
      exact And.intro rfl (hP)
    | succ m ih =>
      intro k hk
      have hkc : k < c := by omega
      have nxt : ∀ v, v = fdN nm x (k + 1) → Go l G 12 s_X12_lampNamed 0 0 Post 46 [(4, .int (nI k)), (3, .int v), (0, .ref o), (1, .long x)] [] h nx 0 0 := by
        intro v hv
        have := ih (k + 1) (by omega)
        rw [← hv, nI_succ k] at this
        refine Go.of hX.2 ck_X12_lampNamed [5] 5 ?_
        exact go_loc (lv' := [(4, .int (nI k + 1)), (3, .int v), (0, .ref o), (1, .long x)]) ⟨rfl, rfl, rfl, rfl, trivial⟩ (this)
      have ei : (5 : Int32) * nI d + nI k = nI (5 * d + k) := by rw [show (5 : Int32) = nI 5 from rfl, nI_mul, nI_add]
      refine Go.of hX.2 ck_X12_lampNamed [46] 60 ?_
      refine Exists.intro _ (And.intro hM.1 (Exists.intro _ (And.intro (hM.2.2 13 (by decide)) ?_)))
      refine Exists.intro _ (And.intro hM.1 (Exists.intro _ (And.intro f20 ?_)))
      refine Exists.intro _ (Exists.intro _ (And.intro ec (And.intro (vp_in_nI hd (by decide)) ?_)))
      rw [nI_clamp (show d < 2 ^ 31 by omega), hc]
      refine And.intro (fun cz => absurd cz (nI_ge (a := k) (b := c) hkc (by omega))) (fun _ => ?_)
      by_cases c1 : fdN nm x k = -1
      · refine And.intro (fun cz => absurd (c1) cz) (fun _ => ?_)
        refine Exists.intro _ (And.intro hM.1 (Exists.intro _ (And.intro (hM.2.2 15 (by decide)) ?_)))
        refine Exists.intro _ (And.intro hM.1 (Exists.intro _ (And.intro f20 ?_)))
        refine Exists.intro _ (Exists.intro _ (And.intro en (And.intro (by rw [ei]; exact vp_in_nI (show 5 * d + k < 25 by omega) (by decide)) ?_)))
        rw [ei, nI_clamp (show 5 * d + k < 2 ^ 31 by omega), hn k hkc]
        by_cases c2 : nm k = x
        · refine And.intro (fun cz => absurd (cmp_eq.mpr c2) cz) (fun _ => ?_)
          refine go_loc (lv' := [(4, .int (nI k)), (3, .int (nI k)), (0, .ref o), (1, .long x)]) ⟨rfl, rfl, rfl, rfl, trivial⟩ ?_
          exact nxt (nI k) (by show _ = (if fdN nm x k = -1 then (if nm k = x then nI k else -1) else fdN nm x k); rw [if_pos c1, if_pos c2])
        · refine And.intro (fun _ => ?_) (fun cz => absurd cz (fun z => c2 (cmp_eq.mp z)))
          refine go_loc (lv' := [(4, .int (nI k)), (3, .int (fdN nm x k)), (0, .ref o), (1, .long x)]) ⟨rfl, rfl, rfl, rfl, trivial⟩ ?_
          exact nxt (fdN nm x k) (by show _ = (if fdN nm x k = -1 then (if nm k = x then nI k else -1) else fdN nm x k); rw [if_pos c1, if_neg c2, c1])
      · refine And.intro (fun _ => ?_) (fun cz => absurd cz (c1))
        refine go_loc (lv' := [(4, .int (nI k)), (3, .int (fdN nm x k)), (0, .ref o), (1, .long x)]) ⟨rfl, rfl, rfl, rfl, trivial⟩ ?_
        exact nxt (fdN nm x k) (by show _ = (if fdN nm x k = -1 then (if nm k = x then nI k else -1) else fdN nm x k); rw [if_neg c1])
  refine en_X12_lampNamed hX [5] 20 rfl ?_
  exact go_loc (lv' := [(4, .int (nI 0)), (3, .int (fdN nm x 0)), (0, .ref o), (1, .long x)]) ⟨rfl, rfl, rfl, rfl, trivial⟩ (loop c 0 (Nat.zero_add _))
set_option maxHeartbeats 8000000 in
theorem m_must {l : Launch} {G : GG} {h : AH} {nx : Nat} {Post : Option Value → AH → Nat → Prop} {o k n m t op cd sg wa wg wo : Nat} {wp : Int32} {u : Nat → Nat} {fs : List Value} (hX : XC G ∧ TX l G) (hP0 : PRs h o fs ((t, op, cd, sg), (wa, wg, wo, wp))) (hT : tokM h o u n m) (hu : ∀ i, u i < 256) (ht : t < m) (hm : m ≤ 401) (hk : k < 100) (hB : ∀ (f : Nat) (h1 : AH) (fs1 : List Value), (mkK (kdN u n t) ≠ k ∧ f = 1) ∨ (mkK (kdN u n t) = k ∧ t = 400 ∧ f = 2) → PFl h1 o fs1 f (plN u n t) → pfF fs fs1 → (∀ x, x ≠ o → h1 x = h x) → Post none h1 nx) (hP : mkK (kdN u n t) = k → t < 400 → ∀ (h1 : AH) (fs1 : List Value), PRs h1 o fs1 ((t + 1, op, cd, sg), (wa, wg, wo, wp)) → pfF fs fs1 → (∀ x, x ≠ o → h1 x = h x) → Post none h1 nx) : Runs l G i_X12_must 0 0 [.ref o, .int (nI k)] h nx Post := by
  refine en_X12_must hX [] 30 rfl ?_
  refine Exists.intro _ (And.intro hP0.1.1 (Exists.intro 0 (Exists.intro 0 (And.intro (Nat.le_refl _) (And.intro (Nat.le_refl _) (m_is hX hP0 hT hu ht hm hk ?_))))))
  by_cases c : mkK (kdN u n t) = k
  · rw [show decide (mkK (kdN u n ((t, op, cd, sg), (wa, wg, wo, wp)).1.1) = k) = true from decide_eq_true c]
    refine And.intro (fun cz => by first | exact absurd cz (by decide) | exact absurd (by decide) cz) (fun _ => ?_)
    refine Exists.intro _ (And.intro hP0.1.1 (Exists.intro 0 (Exists.intro 0 (And.intro (Nat.le_refl _) (And.intro (Nat.le_refl _) (m_goesOn hX hP0 hT ht hm (fun e h1 fs1 z1 z2 z3 => ?_) (fun e h1 fs1 z1 z2 z3 => ?_)))))))
    · exact hB 2 h1 fs1 (Or.inr ⟨c, e, rfl⟩) z1 z2 z3
    · exact hP c e h1 fs1 z1 z2 z3
  · rw [show decide (mkK (kdN u n ((t, op, cd, sg), (wa, wg, wo, wp)).1.1) = k) = false from decide_eq_false c]
    refine And.intro (fun _ => ?_) (fun cz => by first | exact absurd cz (by decide) | exact absurd (by decide) cz)
    refine Exists.intro _ (And.intro hP0.1.1 (Exists.intro 0 (Exists.intro 0 (And.intro (Nat.le_refl _) (And.intro (Nat.le_refl _) (m_fail (f := 1) hX hP0 hT ht hm (by decide) (fun h1 fs1 z1 z2 z3 => ?_)))))))
    exact hB 1 h1 fs1 (Or.inl ⟨c, rfl⟩) z1 z2 z3
set_option maxHeartbeats 8000000 in
theorem m_mustF {l : Launch} {G : GG} {h : AH} {nx : Nat} {Post : Option Value → AH → Nat → Prop} {o f q : Nat} {k : Int32} {fs : List Value} (hX : XC G ∧ TX l G) (hF : PFl h o fs f q) (hP : Post none h nx) : Runs l G i_X12_must 0 0 [.ref o, .int k] h nx Post := by
  refine en_X12_must hX [] 30 rfl ?_
  refine Exists.intro _ (And.intro hF.1.1 (Exists.intro 0 (Exists.intro 0 (And.intro (Nat.le_refl _) (And.intro (Nat.le_refl _) (m_isF hX hF ?_))))))
  refine And.intro (fun _ => ?_) (fun cz => by first | exact absurd cz (by decide) | exact absurd (by decide) cz)
  refine Exists.intro _ (And.intro hF.1.1 (Exists.intro 0 (Exists.intro 0 (And.intro (Nat.le_refl _) (And.intro (Nat.le_refl _) (m_failF hX hF ?_))))))
  exact hP
