/-! the model's reaches, from its entry -/
theorem cntC_all {c : Int32} {B : Nat} {g : Nat → Int32} : ∀ {n : Nat}, (∀ j, j < n → g (B + j) = c) → cntC c B g n = n
  | 0, _ => rfl
  | n + 1, h => by
    unfold cntC
    rw [cntC_all (fun j hj => h j (by omega)), if_pos (h n (Nat.lt_succ_self n))]
def S0F (s : Nat) : BS := (1, upN (fun _ => 0) 0 s, fun _ => (0, 0), 0)
def wrB (shv : Nat → Nat → Nat) (grn : Nat → Bool) (nL nV : Nat) (lp : Nat → Nat) (NV : Nat → Nat → Nat → Bool) (x : Nat) : Bool := decide ((((shv (x / 64) (x % 64) >>> 6) &&& bsum grn nL) &&& nvF lp (fun k => NV k (x / 64) (x % 64)) nV) ≠ 0)
theorem RB.pl {o : Nat} {h h1 h2 : AH} {fs fs1 : List Value} {gF gr gf gb : Nat → Int32} {Fn raced : Nat} {wa : Int32} (hR : RB o h fs h1 fs1 gF gr gf gb Fn raced wa) (hp : PL o h1 h2) : RB o h fs h2 fs1 gF gr gf gb Fn raced wa := by
  obtain ⟨hM1, a1, a2, a3, a4, a5, a6, a7, a8, a9, a10⟩ := hR
  exact ⟨hM1.keep (hp.1 _ (by omega)), a1, a2, a3, a4, (hp.1 _ (by omega)).trans a5, (hp.1 _ (by omega)).trans a6, (hp.1 _ (by omega)).trans a7, (hp.1 _ (by omega)).trans a8, hp.2, fun a x0 x1 x2 x3 x4 x5 => (hp.1 a x1).trans (a10 a x0 x1 x2 x3 x4 x5)⟩
theorem RB.wa {o : Nat} {h h1 : AH} {fs fs1 : List Value} {gF gr gf gb : Nat → Int32} {Fn raced : Nat} {wa v : Int32} (hR : RB o h fs h1 fs1 gF gr gf gb Fn raced wa) : RB o h fs (uph h1 o (.inr (12, fs1.set 74 (.int v)))) (fs1.set 74 (.int v)) gF gr gf gb Fn raced v := by
  obtain ⟨hM1, a1, a2, a3, a4, a5, a6, a7, a8, ⟨g, hg⟩, a10⟩ := hR
  exact ⟨⟨uph_eq, by rw [List.length_set]; exact hM1.2.1, fun j hj => by rw [get_set_ne (Ne.symm (rfM_no3 j hj).2.2)]; exact hM1.2.2 j hj⟩, fun q q1 q2 q3 => by rw [get_set_ne (Ne.symm q3)]; exact a1 q q1 q2 q3, (get_set_ne (by decide)).trans a2, (get_set_ne (by decide)).trans a3, get_set (by have := hM1.2.1; omega), (uph_ne (by omega)).trans a5, (uph_ne (by omega)).trans a6, (uph_ne (by omega)).trans a7, (uph_ne (by omega)).trans a8, ⟨g, (uph_ne (by omega)).trans hg⟩, fun a x0 x1 x2 x3 x4 x5 => (uph_ne x0).trans (a10 a x0 x1 x2 x3 x4 x5)⟩
set_option maxHeartbeats 8000000 in
theorem reachK {l : Launch} {G : GG} {h : AH} {nx : Nat} {Post : Option Value → AH → Nat → Prop} {o hh d e nIn nR : Nat} {nxs : Nat → Nat → Nat} {gI gse : Nat → Int32} {fs : List Value} {nL nV : Nat} {shv : Nat → Nat → Nat} {lp : Nat → Nat} {grn tr : Nat → Bool} {NV : Nat → Nat → Nat → Bool} {gL gg gsh : Nat → Int32} {s0 : Nat} (hX : XC G ∧ TX l G) (hM : MA h o fs) (hd : d < 5) (hhh : hh < 2) (h7 : h (o + 1 + 7) = some (.inl (0, 5, .inl gI))) (eI : gI d = nI nIn) (hIn : nIn ≤ 5) (hR6 : nR ≤ 6) (h42 : h (o + 1 + 42) = some (.inl (0, 4096, .inl gse))) (hnx : ∀ on u, nxs on u < 2 ^ nR) (ese : ∀ on, on < 2 ^ nIn → ∀ v, v < 2 ^ nR → gse (2048 * hh + 64 * on + v) = stF (nxs on) nR v) (hN : DN h o e nV lp tr NV) (h41 : h (o + 1 + 41) = some (.inl (0, 4096, .inl gsh))) (h13 : h (o + 1 + 13) = some (.inl (0, 5, .inl gL))) (h14 : h (o + 1 + 14) = some (.inl (3, 25, .inl gg))) (eL : gL d = nI nL) (hL5 : nL ≤ 5) (eg : ∀ k, k < nL → gg (5 * d + k) = nI (grn k).toNat) (esh : ∀ on, on < 2 ^ nIn → ∀ v, v < 2 ^ nR → gsh (2048 * hh + 64 * on + v) = nI (shv on v) ∧ shv on v < 2048) (hP : (∀ (h1 : AH) (fs1 : List Value) (gF gr gf gb : Nat → Int32) (k : Nat), (bK (nbF nR nxs) nIn k (S0F s0)).1 = k → RB o h fs h1 fs1 gF gr gf gb k (bK (nbF nR nxs) nIn k (S0F s0)).2.2.2 (wA (wrB shv grn nL nV lp NV) (bK (nbF nR nxs) nIn k (S0F s0)).2.1 k) → AR (fun x => x / 64 < 2 ^ nIn ∧ x % 64 < 2 ^ nR) (bK (nbF nR nxs) nIn k (S0F s0)) gF gr gf gb → Post none h1 nx)) : ∀ (n k : Nat) (h1 : AH) (fs1 : List Value) (gF gr gf gb : Nat → Int32), k + n = 2048 → k ≤ (bK (nbF nR nxs) nIn k (S0F s0)).1 → RB o h fs h1 fs1 gF gr gf gb (bK (nbF nR nxs) nIn k (S0F s0)).1 (bK (nbF nR nxs) nIn k (S0F s0)).2.2.2 (wA (wrB shv grn nL nV lp NV) (bK (nbF nR nxs) nIn k (S0F s0)).2.1 k) → AR (fun x => x / 64 < 2 ^ nIn ∧ x % 64 < 2 ^ nR) (bK (nbF nR nxs) nIn k (S0F s0)) gF gr gf gb → Go l G 12 s_X12_reaches 0 0 Post 71 [(5, .int (nI k)), (0, .ref o), (1, .int (nI hh)), (2, .int (nI d)), (3, .int (nI e))] [] h1 nx 0 0 := by
  have hp : 2 ^ nR ≤ 64 := Nat.pow_le_pow_right (n := 2) (by decide) hR6
  have hpi : 2 ^ nIn ≤ 32 := Nat.pow_le_pow_right (n := 2) (by decide) hIn
  intro n
  induction n with
  | zero =>
    intro k h1 fs1 gF gr gf gb hk hkF hR hA
    have e1 : (bK (nbF nR nxs) nIn k (S0F s0)).1 = k := by have := hA.2.2.2; omega
    obtain ⟨hM1, a1, a2, _⟩ := id hR
    refine Go.of hX.2 ck_X12_reaches [] 30 ?_
    refine Exists.intro _ (And.intro hM1.1 (Exists.intro _ (And.intro a2 ?_)))
    refine And.intro (fun _ => ?_) (fun cz => absurd (nI_le (by omega) (by omega)) cz)
    rw [e1] at hR
    exact hP h1 fs1 gF gr gf gb k e1 hR hA
  | succ n ih =>
    intro k h1 fs1 gF gr gf gb hk hkF hR hA
    have hF2 : (bK (nbF nR nxs) nIn k (S0F s0)).1 ≤ 2048 := by have := hA.2.2.2; omega
    obtain ⟨hM1, a1, a2, a3, a4, a5, a6, a7, a8, a9, a10⟩ := id hR
    by_cases e1 : (bK (nbF nR nxs) nIn k (S0F s0)).1 = k
    · refine Go.of hX.2 ck_X12_reaches [] 30 ?_
      refine Exists.intro _ (And.intro hM1.1 (Exists.intro _ (And.intro a2 ?_)))
      refine And.intro (fun _ => ?_) (fun cz => absurd (nI_le (by omega) (by omega)) cz)
      rw [e1] at hR
      exact hP h1 fs1 gF gr gf gb k e1 hR hA
    · have hkl : k < (bK (nbF nR nxs) nIn k (S0F s0)).1 := by omega
      obtain ⟨b1, b2, ⟨b3, b4⟩, _⟩ := hA.1 k hkl
      have hstep : bK (nbF nR nxs) nIn (k + 1) (S0F s0) = bI (nbF nR nxs) k ((bK (nbF nR nxs) nIn k (S0F s0)).2.1 k) nIn (bK (nbF nR nxs) nIn k (S0F s0)) := if_pos hkl
      have hmono := bI_mono (nbF nR nxs) k ((bK (nbF nR nxs) nIn k (S0F s0)).2.1 k) (bK (nbF nR nxs) nIn k (S0F s0)) nIn
      have ewA : wA (wrB shv grn nL nV lp NV) (bK (nbF nR nxs) nIn (k + 1) (S0F s0)).2.1 (k + 1) = (if wA (wrB shv grn nL nV lp NV) (bK (nbF nR nxs) nIn k (S0F s0)).2.1 k = -1 ∧ (wrB shv grn nL nV lp NV) ((bK (nbF nR nxs) nIn k (S0F s0)).2.1 k) = true then nI k else wA (wrB shv grn nL nV lp NV) (bK (nbF nR nxs) nIn k (S0F s0)).2.1 k) := by
        rw [hstep, wA_cg (fun j hj => (hmono.2 j (by omega)).1)]
        rfl
      have s115 : ∀ (h2 : AH) (fs2 : List Value) (wv : Int32), RB o h fs h2 fs2 gF gr gf gb (bK (nbF nR nxs) nIn k (S0F s0)).1 (bK (nbF nR nxs) nIn k (S0F s0)).2.2.2 wv → wv = (if wA (wrB shv grn nL nV lp NV) (bK (nbF nR nxs) nIn k (S0F s0)).2.1 k = -1 ∧ (wrB shv grn nL nV lp NV) ((bK (nbF nR nxs) nIn k (S0F s0)).2.1 k) = true then nI k else wA (wrB shv grn nL nV lp NV) (bK (nbF nR nxs) nIn k (S0F s0)).2.1 k) → Go l G 12 s_X12_reaches 0 0 Post 115 [(6, .int (nI ((bK (nbF nR nxs) nIn k (S0F s0)).2.1 k))), (5, .int (nI k)), (0, .ref o), (1, .int (nI hh)), (2, .int (nI d)), (3, .int (nI e))] [] h2 nx 0 0 := by
        intro h2 fs2 wv hR2 hwv
        refine Go.of hX.2 ck_X12_reaches [118] 20 ?_
        refine go_loc (lv' := [(7, .int (nI 0)), (6, .int (nI ((bK (nbF nR nxs) nIn k (S0F s0)).2.1 k))), (5, .int (nI k)), (0, .ref o), (1, .int (nI hh)), (2, .int (nI d)), (3, .int (nI e))]) ⟨rfl, rfl, rfl, rfl, rfl, rfl, rfl, trivial⟩ (reachI hX hM hd hhh h7 eI hIn hR6 h42 hnx ese b2 b3 b4 nIn 0 h2 fs2 gF gr gf gb (Nat.zero_add _) hR2 hA (by omega) (fun h3 fs3 g1 g2 g3 g4 q1 q2 => ?_))
        refine Go.of hX.2 ck_X12_reaches [71] 20 ?_
        refine go_loc (lv' := [(5, .int (nI k + 1)), (0, .ref o), (1, .int (nI hh)), (2, .int (nI d)), (3, .int (nI e))]) ⟨rfl, rfl, rfl, rfl, rfl, trivial⟩ ?_
        rw [← nI_succ]
        rw [← hstep] at q1 q2
        rw [hwv, ← ewA] at q1
        exact ih (k + 1) h3 fs3 g1 g2 g3 g4 (by omega) (by rw [hstep]; have := hmono.1; omega) q1 q2
      refine Go.of hX.2 ck_X12_reaches [115] 60 ?_
      refine Exists.intro _ (And.intro hM1.1 (Exists.intro _ (And.intro a2 ?_)))
      refine And.intro (fun cz => absurd cz (nI_ge hkl (by omega))) (fun _ => ?_)
      refine Exists.intro _ (And.intro hM1.1 (Exists.intro _ (And.intro (hM1.2.2 45 (by decide)) ?_)))
      refine Exists.intro _ (Exists.intro _ (And.intro a5 (And.intro (vp_in_nI (by omega) (by decide)) ?_)))
      rw [nI_clamp (by omega), b1]
      refine Exists.intro _ (And.intro hM1.1 (Exists.intro _ (And.intro a4 ?_)))
      by_cases hw : wA (wrB shv grn nL nV lp NV) (bK (nbF nR nxs) nIn k (S0F s0)).2.1 k = -1
      · refine And.intro (fun cz => absurd hw cz) (fun _ => ?_)
        have iw : ∀ {Q : Option Value → AH → Nat → Prop}, (∀ h2, PL o h1 h2 → Q (some (.int (nI ((wrB shv grn nL nV lp NV) ((bK (nbF nR nxs) nIn k (S0F s0)).2.1 k)).toNat))) h2 nx) → Runs l G i_X12_isWrong 0 0 [.ref o, .int (nI hh), .int (nI d), .int (nI e), .int (nI ((bK (nbF nR nxs) nIn k (S0F s0)).2.1 k))] h1 nx Q := by
          intro Q hQ
          obtain ⟨g36, hg36⟩ := a9
          have hag : ∀ j, j < 30 → h1 (o + 1 + j) = h (o + 1 + j) := fun j hj => a10 _ (by omega) (by omega) (by omega) (by omega) (by omega) (by omega)
          obtain ⟨c1, c2⟩ := esh _ b3 _ b4
          rw [show nI ((bK (nbF nR nxs) nIn k (S0F s0)).2.1 k) = nI (64 * ((bK (nbF nR nxs) nIn k (S0F s0)).2.1 k / 64) + (bK (nbF nR nxs) nIn k (S0F s0)).2.1 k % 64) from by congr 1; omega]
          exact c_isWrongM (nL := nL) (nV := nV) (lp := lp) (gr := grn) (tr := tr) (NV := NV) hX hM1 (hN.ag hag) hg36 ((a10 _ (by omega) (by omega) (by omega) (by omega) (by omega) (by omega)).trans h41) hd ((hag 13 (by decide)).trans h13) ((hag 14 (by decide)).trans h14) eL hL5 eg hhh (by omega) (by omega) c1 c2 hQ
        refine Exists.intro _ (And.intro hM1.1 (Exists.intro 0 (Exists.intro 0 (And.intro (Nat.le_refl _) (And.intro (Nat.le_refl _) (iw (fun h2 hpl => ?_)))))))
        have hR2 := hR.pl hpl
        cases hwb : (wrB shv grn nL nV lp NV) ((bK (nbF nR nxs) nIn k (S0F s0)).2.1 k)
        · refine And.intro (fun _ => ?_) (fun cz => absurd (tN0 rfl) cz)
          exact go_loc (lv' := [(6, .int (nI ((bK (nbF nR nxs) nIn k (S0F s0)).2.1 k))), (5, .int (nI k)), (0, .ref o), (1, .int (nI hh)), (2, .int (nI d)), (3, .int (nI e))]) ⟨rfl, rfl, rfl, rfl, rfl, rfl, trivial⟩ (s115 h2 fs1 _ hR2 (by rw [if_neg (fun z => by rw [hwb] at z; cases z.2)]))
        · refine And.intro (fun cz => absurd cz (tN1 rfl)) (fun _ => ?_)
          refine Exists.intro _ (And.intro hR2.1.1 (And.intro (by have := hR2.1.2.1; omega) (And.intro rfl (And.intro rfl ?_))))
          exact go_loc (lv' := [(6, .int (nI ((bK (nbF nR nxs) nIn k (S0F s0)).2.1 k))), (5, .int (nI k)), (0, .ref o), (1, .int (nI hh)), (2, .int (nI d)), (3, .int (nI e))]) ⟨rfl, rfl, rfl, rfl, rfl, rfl, trivial⟩ (s115 _ _ (nI k) hR2.wa (by rw [if_pos ⟨hw, hwb⟩]))
      · refine And.intro (fun _ => ?_) (fun cz => absurd cz hw)
        exact go_loc (lv' := [(6, .int (nI ((bK (nbF nR nxs) nIn k (S0F s0)).2.1 k))), (5, .int (nI k)), (0, .ref o), (1, .int (nI hh)), (2, .int (nI d)), (3, .int (nI e))]) ⟨rfl, rfl, rfl, rfl, rfl, rfl, trivial⟩ (s115 h1 fs1 _ hR (by rw [if_neg (fun z => hw z.1)]))
