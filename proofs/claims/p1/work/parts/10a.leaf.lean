/-! the JDK's fill, and the packing of a word -/
def packF : List Int32 → Int64 → Int64
  | [], p => p
  | c :: r, p => packF r (p * 27 + (c - 97 + 1).toInt64)
def packS (i : Nat) : Int64 := packF (byS i) 0
theorem c_packLetter {l : Launch} {G : GG} {h : AH} {nx : Nat} {p : Int64} {c : Int32} {Post : Option Value → AH → Nat → Prop} (hX : XC G ∧ TX l G) (hP : Post (some (.long (p * 27 + (c - 97 + 1).toInt64))) h nx) : Runs l G i_X8_packLetter 0 0 [.long p, .int c] h nx Post := by
  refine en_X8_packLetter hX [] 30 rfl ?_
  exact hP
set_option maxHeartbeats 2000000 in
theorem c_pack {l : Launch} {G : GG} {h : AH} {nx i : Nat} {Post : Option Value → AH → Nat → Prop} (hX : XC G ∧ TX l G) (hi : i < 9) (hP : Post (some (.long (packS i))) h nx) : Runs l G i_X8_pack 0 0 [.ref (G.2.2.2.2 i)] h nx Post := by
  have hlen : (byS i).length < 100 := by
    match i, hi with
    | 0, _ | 1, _ | 2, _ | 3, _ | 4, _ | 5, _ | 6, _ | 7, _ | 8, _ => decide
  have loop : ∀ (bs : List Int32) (k : Nat) (p : Int64), (byS i).drop k = bs → k + bs.length = (byS i).length → packF bs p = packS i → Go l G 8 s_X8_pack 0 0 Post 4 [(3, .int (nI k)), (1, .long p), (0, .ref (G.2.2.2.2 i))] [] h nx 0 0 := by
    intro bs
    induction bs with
    | nil =>
      intro k p h1 h2 h3
      refine Go.of hX.2 ck_X8_pack [4] 20 ?_
      refine Exists.intro i (And.intro rfl (And.intro hi (And.intro rfl ?_)))
      simp only [List.length_nil, Nat.add_zero] at h2
      refine And.intro (fun c1 => ?_) (fun c1 => absurd (nI_le (by omega) (by omega)) c1)
      have h4 : p = packS i := h3
      subst h4
      exact hP
    | cons c r ih =>
      intro k p h1 h2 h3
      simp only [List.length_cons] at h2
      have hk : k < (byS i).length := by omega
      have hc : (byS i).getD k 0 = c := by
        rw [List.getD_eq_getElem?_getD, ← Nat.add_zero k, ← List.getElem?_drop, h1]
        rfl
      refine Go.of hX.2 ck_X8_pack [4] 20 ?_
      refine Exists.intro i (And.intro rfl (And.intro hi (And.intro rfl ?_)))
      refine And.intro (fun c1 => absurd c1 (nI_ge (by omega) (by omega))) (fun c1 => ?_)
      refine Exists.intro i (Exists.intro k (And.intro rfl (And.intro hi (And.intro rfl (And.intro rfl (And.intro hk ?_))))))
      refine Exists.intro 0 (Exists.intro 0 (And.intro (Nat.le_refl _) (And.intro (Nat.le_refl _) ?_)))
      refine c_packLetter hX ?_
      rw [hc]
      refine go_loc (lv' := [(3, .int (nI k + 1)), (1, .long (p * 27 + (c - 97 + 1).toInt64)), (0, .ref (G.2.2.2.2 i))]) ⟨rfl, rfl, rfl, trivial⟩ ?_
      rw [← nI_succ]
      refine ih (k + 1) _ ?_ (by omega) h3
      rw [← List.drop_drop, h1]
      rfl
  refine en_X8_pack hX [4] 20 rfl ?_
  exact go_loc (lv' := [(3, .int (nI 0)), (1, .long 0), (0, .ref (G.2.2.2.2 i))]) ⟨rfl, rfl, rfl, trivial⟩ (loop (byS i) 0 0 rfl (Nat.zero_add _) rfl)
set_option maxHeartbeats 2000000 in
theorem c_fillB {l : Launch} {G : GG} {h : AH} {nx q N : Nat} {f : Nat → Int32} {v : Int32} {Post : Option Value → AH → Nat → Prop} (hX : XC G ∧ TX l G) (hq : h q = some (.inl (2, N, .inl f))) (hN : N < 2 ^ 31) (hv : vp_nar .byte v = v) (hP : ∀ g : Nat → Int32, (∀ i, i < N → g i = v) → Post none (uph h q (.inl (2, N, .inl g))) nx) : Runs l G i_J7_fill_031fb 0 0 [.ref q, .int v] h nx Post := by
  have loop : ∀ (j i : Nat) (g : Nat → Int32), i + j = N → (∀ a, a < i → g a = v) → Go l G 14 s_J7_fill_031fb 0 0 Post 5 [(2, .int (nI i)), (3, .int (nI N)), (0, .ref q), (1, .int v)] [] (uph h q (.inl (2, N, .inl g))) nx 0 0 := by
    intro j
    induction j with
    | zero =>
      intro i g h1 h2
      refine Go.of hX.2 ck_J7_fill_031fb [5] 20 ?_
      refine And.intro (fun c1 => ?_) (fun c1 => absurd (nI_le (by omega) (by omega)) c1)
      exact hP g (fun a ha => h2 a (by omega))
    | succ j ih =>
      intro i g h1 h2
      refine Go.of hX.2 ck_J7_fill_031fb [5] 20 ?_
      refine And.intro (fun c1 => absurd c1 (nI_ge (by omega) (by omega))) (fun c1 => ?_)
      refine Exists.intro 2 (Exists.intro _ (Exists.intro _ (And.intro uph_eq (And.intro (Or.inl rfl) (And.intro (vp_in_nI (by omega) (by omega)) ?_)))))
      rw [uph_uph, nI_clamp (by omega)]
      refine go_loc (lv' := [(2, .int (nI i + 1)), (3, .int (nI N)), (0, .ref q), (1, .int v)]) ⟨rfl, rfl, rfl, rfl, trivial⟩ ?_
      rw [← nI_succ]
      refine ih (i + 1) _ (by omega) (fun a ha => ?_)
      show upd g i (vp_nar (TY 2) v) a = v
      by_cases e : a = i
      · rw [e]; exact pk_us.trans hv
      · rw [pk_un e]; exact h2 a (by omega)
  refine en_J7_fill_031fb hX [5] 20 rfl ?_
  refine Exists.intro _ (Exists.intro _ (And.intro hq (And.intro (by decide) ?_)))
  rw [← uph_self hq]
  exact go_loc (lv' := [(2, .int (nI 0)), (3, .int (nI N)), (0, .ref q), (1, .int v)]) ⟨rfl, rfl, rfl, rfl, trivial⟩ (loop N 0 f (Nat.zero_add _) (fun a ha => absurd ha (Nat.not_lt_zero a)))
