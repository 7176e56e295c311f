/-! the model's circuits at a word -/
def rfM (j : Nat) : Nat := [1, 3, 5, 6, 7, 8, 9, 21, 22, 23, 24, 25, 26, 27, 28, 29, 30, 31, 32, 33, 34, 35, 36, 37, 38, 39, 40, 42, 44, 46, 47, 48, 52, 53, 54, 56, 57, 58, 59, 60, 63, 64, 65, 66, 67, 69, 70, 71, 72, 78, 79, 80, 83, 87, 88, 89, 90, 92, 93, 94, 95, 97, 98].getD j 0
/-- the model stands at o, its rows behind it -/
def MA (h : AH) (o : Nat) (fs : List Value) : Prop := h o = some (.inr (12, fs)) ∧ fs.length = 99 ∧ ∀ j, j < 63 → fs[rfM j]? = some (.ref (o + 1 + j))
theorem MA.keep {h h' : AH} {o : Nat} {fs : List Value} (hM : MA h o fs) (he : h' o = h o) : MA h' o fs := ⟨he.trans hM.1, hM.2⟩
/-- which circuits a drawing with so many relays and lamps has -/
def cirB (nR nL k : Nat) : Bool := if k < 6 then decide (k < nR) else decide (k < 6 + nL)
/-- page d of the model's rows: its contacts and its circuits' codes -/
def DG (h : AH) (o d K nR nL : Nat) (of : Nat → Nat) (nt tr : Nat → Bool) (CT : Nat → (Nat → Bool) → Bool) : Prop :=
  ∃ trk gm go gn gR gL gf gt gk : Nat → Int32, h (o + 1 + 8) = some (.inl (3, 25, .inl trk)) ∧ h (o + 1 + 18) = some (.inl (0, 5, .inl gm)) ∧ h (o + 1 + 20) = some (.inl (0, 200, .inl go)) ∧ h (o + 1 + 21) = some (.inl (3, 200, .inl gn)) ∧ h (o + 1 + 10) = some (.inl (0, 5, .inl gR)) ∧ h (o + 1 + 13) = some (.inl (0, 5, .inl gL)) ∧ h (o + 1 + 23) = some (.inl (0, 85, .inl gf)) ∧ h (o + 1 + 24) = some (.inl (0, 85, .inl gt)) ∧ h (o + 1 + 27) = some (.inl (0, 2100, .inl gk)) ∧
  d < 5 ∧ gm d = nI K ∧ K ≤ 40 ∧ gR d = nI nR ∧ nR ≤ 6 ∧ gL d = nI nL ∧ nL ≤ 5 ∧
  (∀ k, k < K → go (40 * d + k) = nI (of k) ∧ (of k < 5 ∨ (10 ≤ of k ∧ of k < 16)) ∧ gn (40 * d + k) = nI (nt k).toNat) ∧ (∀ i, i < 5 → trk (5 * d + i) = nI (tr i).toNat) ∧
  (∀ c, c < 11 → cirB nR nL c = true → ∃ (a : Nat) (codes : List Nat), gf (17 * d + c) = nI a ∧ gt (17 * d + c) = nI (a + codes.length) ∧ (∀ i, i < codes.length → gk (a + i) = nI (codes.getD i 0)) ∧ (∀ k ∈ codes, k < 1000) ∧ codes.length ≤ 420 ∧ a + codes.length ≤ 2100 ∧ (∀ k, k < 40 → k ∈ codes → k < K) ∧ ∀ cl, pfS (fun k => decide (k < 40)) cl codes [] = some [CT c cl])
/-- what the flaws have done -/
def WB (h : AH) (o : Nat) (wl br cr : Nat → Bool) : Prop := ∃ gw gb gc : Nat → Int32, h (o + 1 + 37) = some (.inl (3, 40, .inl gw)) ∧ h (o + 1 + 38) = some (.inl (3, 40, .inl gb)) ∧ h (o + 1 + 39) = some (.inl (3, 40, .inl gc)) ∧ (∀ k, k < 40 → gw k = nI (wl k).toNat) ∧ (∀ k, k < 40 → gb k = nI (br k).toNat) ∧ (∀ k, k < 40 → gc k = nI (cr k).toNat)
/-- the rows that huts are worked out in -/
def SX (h : AH) (o : Nat) : Prop := (∃ g : Nat → Int32, h (o + 1 + 35) = some (.inl (3, 40, .inl g))) ∧ (∃ g : Nat → Int32, h (o + 1 + 36) = some (.inl (3, 420, .inl g))) ∧ (∃ g : Nat → Int32, h (o + 1 + 40) = some (.inl (3, 40, .inl g)))
/-- two heaps that differ there alone -/
def SD (o : Nat) (h h' : AH) : Prop := ∀ a, a ≠ o + 1 + 35 → a ≠ o + 1 + 36 → a ≠ o + 1 + 40 → h' a = h a
theorem SD.tr {o : Nat} {h h1 h2 : AH} (a : SD o h h1) (b : SD o h1 h2) : SD o h h2 := fun x h1 h2 h3 => (b x h1 h2 h3).trans (a x h1 h2 h3)
theorem DG.keep {h h' : AH} {o d K nR nL : Nat} {of : Nat → Nat} {nt tr : Nat → Bool} {CT : Nat → (Nat → Bool) → Bool} (hD : DG h o d K nR nL of nt tr CT) (hs : SD o h h') : DG h' o d K nR nL of nt tr CT := by
  obtain ⟨trk, gm, go, gn, gR, gL, gf, gt, gk, a1, a2, a3, a4, a5, a6, a7, a8, a9, r⟩ := hD
  exact ⟨trk, gm, go, gn, gR, gL, gf, gt, gk, (hs _ (by omega) (by omega) (by omega)).trans a1, (hs _ (by omega) (by omega) (by omega)).trans a2, (hs _ (by omega) (by omega) (by omega)).trans a3, (hs _ (by omega) (by omega) (by omega)).trans a4, (hs _ (by omega) (by omega) (by omega)).trans a5, (hs _ (by omega) (by omega) (by omega)).trans a6, (hs _ (by omega) (by omega) (by omega)).trans a7, (hs _ (by omega) (by omega) (by omega)).trans a8, (hs _ (by omega) (by omega) (by omega)).trans a9, r⟩
theorem WB.keep {h h' : AH} {o : Nat} {wl br cr : Nat → Bool} (hW : WB h o wl br cr) (hs : SD o h h') : WB h' o wl br cr := by
  obtain ⟨gw, gb, gc, a1, a2, a3, r⟩ := hW
  exact ⟨gw, gb, gc, (hs _ (by omega) (by omega) (by omega)).trans a1, (hs _ (by omega) (by omega) (by omega)).trans a2, (hs _ (by omega) (by omega) (by omega)).trans a3, r⟩
set_option maxHeartbeats 4000000 in
theorem c_closesD {l : Launch} {G : GG} {h : AH} {nx : Nat} {Post : Option Value → AH → Nat → Prop} {o on up : Nat} {d K nR nL : Nat} {of : Nat → Nat} {nt tr : Nat → Bool} {CT : Nat → (Nat → Bool) → Bool} {wl br cr : Nat → Bool} {fs : List Value} (hX : XC G ∧ TX l G) (hM : MA h o fs) (hS : SX h o) (hD : DG h o d K nR nL of nt tr CT) (hW : WB h o wl br cr) (hon : on < 2 ^ 31) (hup : up < 2 ^ 31) (hcr : ∀ k, cr k = true → k + 1 < K) (hP : ∀ (h1 : AH) (g : Nat → Int32), SD o h h1 → SX h1 o → h1 (o + 1 + 35) = some (.inl (3, 40, .inl g)) → (∀ k, k < K → g k = nI (clB wl br cr (fun k => thv tr on up (of k) ^^ nt k) k).toNat) → Post none h1 nx) : Runs l G i_X12_closes 0 0 [.ref o, .int (nI d), .int (nI on), .int (nI up)] h nx Post := by
  obtain ⟨⟨g56, h56⟩, ⟨g57, h57⟩, ⟨g63, h63⟩⟩ := hS
  obtain ⟨trk, gm, go, gn, gR, gL, gf, gt, gk, a22, a32, a34, a35, a24, a27, a37, a38, a42, hd, em, hK, eR, hR6, eL, hL5, eo, et, ec⟩ := hD
  obtain ⟨gw, gb, gc, w1, w2, w3, e1, e2, e3⟩ := hW
  refine c_closes (q22 := o + 1 + 8) (q32 := o + 1 + 18) (q34 := o + 1 + 20) (q35 := o + 1 + 21) (q56 := o + 1 + 35) (q58 := o + 1 + 37) (q59 := o + 1 + 38) (q60 := o + 1 + 39) (q63 := o + 1 + 40) hX hM.1 (hM.2.2 8 (by decide)) (hM.2.2 18 (by decide)) (hM.2.2 20 (by decide)) (hM.2.2 21 (by decide)) (hM.2.2 35 (by decide)) (hM.2.2 37 (by decide)) (hM.2.2 38 (by decide)) (hM.2.2 39 (by decide)) (hM.2.2 40 (by decide)) a22 a32 a34 a35 h56 w1 w2 w3 h63 (by omega) (by omega) (by omega) (by omega) (by omega) (by omega) (by omega) hd em hK hon hup eo et e1 e2 e3 hcr (fun g1 g2 hg => ?_)
  refine hP _ g2 (fun a x1 x2 x3 => by rw [uph_ne x1, uph_ne x3]) ⟨⟨_, uph_eq⟩, ⟨g57, by rw [uph_ne (by omega), uph_ne (by omega)]; exact h57⟩, ⟨_, by rw [uph_ne (by omega)]; exact uph_eq⟩⟩ uph_eq hg
set_option maxHeartbeats 4000000 in
theorem c_isShutD {l : Launch} {G : GG} {h : AH} {nx : Nat} {Post : Option Value → AH → Nat → Prop} {o c : Nat} {d K nR nL : Nat} {of : Nat → Nat} {nt tr : Nat → Bool} {CT : Nat → (Nat → Bool) → Bool} {cl : Nat → Bool} {g : Nat → Int32} {fs : List Value} (hX : XC G ∧ TX l G) (hM : MA h o fs) (hS : SX h o) (hD : DG h o d K nR nL of nt tr CT) (hc : c < 11) (hci : cirB nR nL c = true) (hg : h (o + 1 + 35) = some (.inl (3, 40, .inl g))) (hcl : ∀ k, k < K → g k = nI (cl k).toNat) (hP : ∀ h1 : AH, SD o h h1 → SX h1 o → h1 (o + 1 + 35) = h (o + 1 + 35) → Post (some (.int (nI (CT c cl).toNat))) h1 nx) : Runs l G i_X12_isShut 0 0 [.ref o, .int (nI (17 * d + c))] h nx Post := by
  obtain ⟨⟨g56, h56⟩, ⟨g57, h57⟩, ⟨g63, h63⟩⟩ := hS
  obtain ⟨trk, gm, go, gn, gR, gL, gf, gt, gk, a22, a32, a34, a35, a24, a27, a37, a38, a42, hd, em, hK, eR, hR6, eL, hL5, eo, et, ec⟩ := hD
  obtain ⟨a, codes, b1, b2, b3, b4, b5, b6, b7, b8⟩ := ec c hc hci
  refine c_isShut (q37 := o + 1 + 23) (q38 := o + 1 + 24) (q42 := o + 1 + 27) (q57 := o + 1 + 36) (q56 := o + 1 + 35) (cl := cl) (len := 0) hX hM.1 (hM.2.2 23 (by decide)) (hM.2.2 24 (by decide)) (hM.2.2 27 (by decide)) (hM.2.2 36 (by decide)) a37 a38 a42 h57 (by omega) b1 b2 b3 b4 b5 b6 (b8 cl) (hM.2.2 35 (by decide)) hg (by omega) (fun k h40 hk => hcl k (b7 k h40 hk)) (fun g1 => ?_)
  exact hP _ (fun x x1 x2 x3 => uph_ne x2) ⟨⟨g56, by rw [uph_ne (by omega)]; exact h56⟩, ⟨_, uph_eq⟩, ⟨g63, by rw [uph_ne (by omega)]; exact h63⟩⟩ (uph_ne (by omega))
set_option maxHeartbeats 4000000 in
theorem c_isCircuitD {l : Launch} {G : GG} {h : AH} {nx : Nat} {Post : Option Value → AH → Nat → Prop} {o k : Nat} {d K nR nL : Nat} {of : Nat → Nat} {nt tr : Nat → Bool} {CT : Nat → (Nat → Bool) → Bool} {fs : List Value} (hX : XC G ∧ TX l G) (hM : MA h o fs) (hD : DG h o d K nR nL of nt tr CT) (hk : k < 11) (hP : Post (some (.int (nI (cirB nR nL k).toNat))) h nx) : Runs l G i_X12_isCircuit 0 0 [.ref o, .int (nI d), .int (nI k)] h nx Post := by
  obtain ⟨trk, gm, go, gn, gR, gL, gf, gt, gk, a22, a32, a34, a35, a24, a27, a37, a38, a42, hd, em, hK, eR, hR6, eL, hL5, eo, et, ec⟩ := hD
  exact c_isCircuit hX hM.1 (hM.2.2 10 (by decide)) (hM.2.2 13 (by decide)) a24 a27 hd hk eR eL hR6 hL5 hP
def shF (set nR nL : Nat) (c1 c2 : Nat → Bool) (k : Nat) : Bool := if set.testBit k = true then c2 k else (cirB nR nL k && c1 k)
set_option maxHeartbeats 4000000 in
theorem c_shutBits {l : Launch} {G : GG} {h : AH} {nx : Nat} {Post : Option Value → AH → Nat → Prop} {o on up set : Nat} {d K nR nL : Nat} {of : Nat → Nat} {nt tr : Nat → Bool} {CT : Nat → (Nat → Bool) → Bool} {e K2 nR2 nL2 : Nat} {of2 : Nat → Nat} {nt2 tr2 : Nat → Bool} {CT2 : Nat → (Nat → Bool) → Bool} {wl br cr : Nat → Bool} {fs : List Value} (hX : XC G ∧ TX l G) (hM : MA h o fs) (hS : SX h o) (hD : DG h o d K nR nL of nt tr CT) (hE : DG h o e K2 nR2 nL2 of2 nt2 tr2 CT2) (hW : WB h o wl br cr) (hon : on < 2 ^ 31) (hup : up < 2 ^ 31) (hset1 : set < 2048) (hset : ∀ k, k < 11 → set.testBit k = true → cirB nR2 nL2 k = true) (hcr : ∀ k, cr k = true → k + 1 < K ∧ k + 1 < K2) (hP : ∀ h1 : AH, SD o h h1 → SX h1 o → Post (some (.int (nI (bsum (shF set nR nL (fun k => CT k (clB wl br cr (fun k => thv tr on up (of k) ^^ nt k))) (fun k => CT2 k (clB wl br cr (fun k => thv tr2 on up (of2 k) ^^ nt2 k)))) 11)))) h1 nx) : Runs l G i_X12_shutBits 0 0 [.ref o, .int (nI d), .int (nI e), .int (nI set), .int (nI on), .int (nI up)] h nx Post := by
  have hs31 : set < 2 ^ 31 := by omega
  have hM0 := hM
  have loop2 : ∀ (n j : Nat) (h1 : AH) (g : Nat → Int32), j + n = 11 → SD o h h1 → SX h1 o → h1 (o + 1 + 35) = some (.inl (3, 40, .inl g)) → (∀ k, k < K2 → g k = nI (clB wl br cr (fun k => thv tr2 on up (of2 k) ^^ nt2 k) k).toNat) → set ≠ 0 → Go l G 12 s_X12_shutBits 0 0 Post 89 [(7, .int (nI j)), (6, .int (nI (bsum (fun k => cirB nR nL k && ((!set.testBit k) && CT k (clB wl br cr (fun k => thv tr on up (of k) ^^ nt k)))) 11 ||| bsum (fun k => set.testBit k && CT2 k (clB wl br cr (fun k => thv tr2 on up (of2 k) ^^ nt2 k))) j))), (0, .ref o), (1, .int (nI d)), (2, .int (nI e)), (3, .int (nI set)), (4, .int (nI on)), (5, .int (nI up))] [] h1 nx 0 0 := by
    intro n
    induction n with
    | zero =>
      intro j h1 g hj hsd hsx hg hgc hs0
      obtain rfl : j = 11 := by omega
      refine Go.of hX.2 ck_X12_shutBits [89] 20 ?_
      refine And.intro (fun _ => ?_) (fun cz => by first | exact absurd cz (by decide) | exact absurd (by decide) cz)
      have ef : bsum (fun k => cirB nR nL k && ((!set.testBit k) && CT k (clB wl br cr (fun k => thv tr on up (of k) ^^ nt k)))) 11 ||| bsum (fun k => set.testBit k && CT2 k (clB wl br cr (fun k => thv tr2 on up (of2 k) ^^ nt2 k))) 11 = bsum (shF set nR nL (fun k => CT k (clB wl br cr (fun k => thv tr on up (of k) ^^ nt k))) (fun k => CT2 k (clB wl br cr (fun k => thv tr2 on up (of2 k) ^^ nt2 k)))) 11 := by
        apply Nat.eq_of_testBit_eq
        intro i
        rw [Nat.testBit_or, bsum_tb, bsum_tb, bsum_tb, ← Bool.and_or_distrib_left]
        unfold shF
        cases set.testBit i <;> simp
      rw [ef]
      exact And.intro rfl (hP h1 hsd hsx)
    | succ n ih =>
      intro j h1 g hj hsd hsx hg hgc hs0
      have ho1 : h1 o = some (.inr (12, fs)) := (hsd o (by omega) (by omega) (by omega)).trans hM.1
      have hM1 : MA h1 o fs := ⟨ho1, hM.2⟩
      have next : ∀ (b : Bool) (h2 : AH), b = (set.testBit j && CT2 j (clB wl br cr (fun k => thv tr2 on up (of2 k) ^^ nt2 k))) → SD o h h2 → SX h2 o → h2 (o + 1 + 35) = some (.inl (3, 40, .inl g)) → Go l G 12 s_X12_shutBits 0 0 Post 89 [(7, .int (nI j + 1)), (6, .int (nI (bsum (fun k => cirB nR nL k && ((!set.testBit k) && CT k (clB wl br cr (fun k => thv tr on up (of k) ^^ nt k)))) 11 ||| bsum (fun k => set.testBit k && CT2 k (clB wl br cr (fun k => thv tr2 on up (of2 k) ^^ nt2 k))) j) ||| nI (if b = true then 2 ^ j else 0))), (0, .ref o), (1, .int (nI d)), (2, .int (nI e)), (3, .int (nI set)), (4, .int (nI on)), (5, .int (nI up))] [] h2 nx 0 0 := by
        intro b h2 hb q1 q2 q3
        have := ih (j + 1) h2 g (by omega) q1 q2 q3 hgc hs0
        rw [nx_or, Nat.or_assoc, ← nI_succ]
        rw [show bsum (fun k => set.testBit k && CT2 k (clB wl br cr (fun k => thv tr2 on up (of2 k) ^^ nt2 k))) (j + 1) = bsum (fun k => set.testBit k && CT2 k (clB wl br cr (fun k => thv tr2 on up (of2 k) ^^ nt2 k))) j ||| (if b = true then 2 ^ j else 0) from by rw [hb]; rfl] at this
        exact this
      refine Go.of hX.2 ck_X12_shutBits [89] 80 ?_
      refine And.intro (fun cz => absurd cz (nI_ge (b := 11) (by omega) (by decide))) (fun _ => ?_)
      have et : (nI set >>> (nI j &&& 31)) &&& 1 = nI (set.testBit j).toNat := nx_tb hs31 (by omega)
      cases hsj : set.testBit j
      · rw [hsj] at et
        refine And.intro (fun _ => ?_) (fun cz => absurd (et.symm.trans cz) (by decide))
        have hz := next false h1 (by rw [hsj]; rfl) hsd hsx hg
        rw [if_neg (by decide), nx_or, Nat.or_zero] at hz
        exact go_loc (lv' := [(7, .int (nI j + 1)), (6, .int (nI (bsum (fun k => cirB nR nL k && ((!set.testBit k) && CT k (clB wl br cr (fun k => thv tr on up (of k) ^^ nt k)))) 11 ||| bsum (fun k => set.testBit k && CT2 k (clB wl br cr (fun k => thv tr2 on up (of2 k) ^^ nt2 k))) j))), (0, .ref o), (1, .int (nI d)), (2, .int (nI e)), (3, .int (nI set)), (4, .int (nI on)), (5, .int (nI up))]) ⟨rfl, rfl, rfl, rfl, rfl, rfl, rfl, rfl, trivial⟩ hz
      · rw [hsj] at et
        refine And.intro (fun cz => absurd et cz) (fun _ => ?_)
        have ei : (17 : Int32) * nI e + nI j = nI (17 * e + j) := by rw [show (17 : Int32) = nI 17 from rfl, nI_mul, nI_add]
        refine Exists.intro _ (And.intro ho1 (Exists.intro 0 (Exists.intro 0 (And.intro (Nat.le_refl _) (And.intro (Nat.le_refl _) ?_)))))
        rw [ei]
        refine c_isShutD (cl := clB wl br cr (fun k => thv tr2 on up (of2 k) ^^ nt2 k)) hX hM1 hsx (hE.keep hsd) (by omega) (hset j (by omega) hsj) hg hgc (fun h2 q1 q2 q3 => ?_)
        cases hct : CT2 j (clB wl br cr (fun k => thv tr2 on up (of2 k) ^^ nt2 k))
        · refine And.intro (fun _ => ?_) (fun cz => absurd (tN0 rfl) cz)
          have hz := next false h2 (by rw [hsj, hct]; rfl) (hsd.tr q1) q2 (q3.trans hg)
          rw [if_neg (by decide), nx_or, Nat.or_zero] at hz
          exact go_loc (lv' := [(7, .int (nI j + 1)), (6, .int (nI (bsum (fun k => cirB nR nL k && ((!set.testBit k) && CT k (clB wl br cr (fun k => thv tr on up (of k) ^^ nt k)))) 11 ||| bsum (fun k => set.testBit k && CT2 k (clB wl br cr (fun k => thv tr2 on up (of2 k) ^^ nt2 k))) j))), (0, .ref o), (1, .int (nI d)), (2, .int (nI e)), (3, .int (nI set)), (4, .int (nI on)), (5, .int (nI up))]) ⟨rfl, rfl, rfl, rfl, rfl, rfl, rfl, rfl, trivial⟩ hz
        · refine And.intro (fun cz => absurd cz (tN1 rfl)) (fun _ => ?_)
          have hz := next true h2 (by rw [hsj, hct]; rfl) (hsd.tr q1) q2 (q3.trans hg)
          rw [if_pos rfl, ← nx_pow (by omega)] at hz
          exact go_loc (lv' := [(7, .int (nI j + 1)), (6, .int (nI (bsum (fun k => cirB nR nL k && ((!set.testBit k) && CT k (clB wl br cr (fun k => thv tr on up (of k) ^^ nt k)))) 11 ||| bsum (fun k => set.testBit k && CT2 k (clB wl br cr (fun k => thv tr2 on up (of2 k) ^^ nt2 k))) j) ||| ((1 : Int32) <<< (nI j &&& 31)))), (0, .ref o), (1, .int (nI d)), (2, .int (nI e)), (3, .int (nI set)), (4, .int (nI on)), (5, .int (nI up))]) ⟨rfl, rfl, rfl, rfl, rfl, rfl, rfl, rfl, trivial⟩ hz
  have loop1 : ∀ (n j : Nat) (h1 : AH) (g : Nat → Int32), j + n = 11 → SD o h h1 → SX h1 o → h1 (o + 1 + 35) = some (.inl (3, 40, .inl g)) → (∀ k, k < K → g k = nI (clB wl br cr (fun k => thv tr on up (of k) ^^ nt k) k).toNat) → Go l G 12 s_X12_shutBits 0 0 Post 15 [(7, .int (nI j)), (6, .int (nI (bsum (fun k => cirB nR nL k && ((!set.testBit k) && CT k (clB wl br cr (fun k => thv tr on up (of k) ^^ nt k)))) j))), (0, .ref o), (1, .int (nI d)), (2, .int (nI e)), (3, .int (nI set)), (4, .int (nI on)), (5, .int (nI up))] [] h1 nx 0 0 := by
    intro n
    induction n with
    | zero =>
      intro j h1 g hj hsd hsx hg hgc
      obtain rfl : j = 11 := by omega
      have ho1 : h1 o = some (.inr (12, fs)) := (hsd o (by omega) (by omega) (by omega)).trans hM.1
      have hM1 : MA h1 o fs := ⟨ho1, hM.2⟩
      refine Go.of hX.2 ck_X12_shutBits [89] 60 ?_
      refine And.intro (fun _ => ?_) (fun cz => by first | exact absurd cz (by decide) | exact absurd (by decide) cz)
      by_cases hs0 : set = 0
      · subst hs0
        refine And.intro (fun cz => by first | exact absurd cz (by decide) | exact absurd (by decide) cz) (fun _ => ?_)
        have ef : bsum (fun k => cirB nR nL k && ((!Nat.testBit 0 k) && CT k (clB wl br cr (fun k => thv tr on up (of k) ^^ nt k)))) 11 = bsum (shF 0 nR nL (fun k => CT k (clB wl br cr (fun k => thv tr on up (of k) ^^ nt k))) (fun k => CT2 k (clB wl br cr (fun k => thv tr2 on up (of2 k) ^^ nt2 k)))) 11 := bsum_congr (fun i _ => by unfold shF; simp [Nat.zero_testBit])
        rw [ef]
        exact And.intro rfl (hP h1 hsd hsx)
      · refine And.intro (fun _ => ?_) (fun cz => absurd cz (nI_ne0 (by omega) hs31))
        refine Exists.intro _ (And.intro ho1 (Exists.intro 0 (Exists.intro 0 (And.intro (Nat.le_refl _) (And.intro (Nat.le_refl _) (c_closesD hX hM1 hsx (hE.keep hsd) (hW.keep hsd) hon hup (fun k hk => (hcr k hk).2) (fun h2 g2 q1 q2 q3 q4 => ?_)))))))
        have hz := loop2 11 0 h2 g2 rfl (hsd.tr q1) q2 q3 q4 hs0
        rw [show bsum (fun k => set.testBit k && CT2 k (clB wl br cr (fun k => thv tr2 on up (of2 k) ^^ nt2 k))) 0 = 0 from rfl, Nat.or_zero] at hz
        exact go_loc (lv' := [(7, .int (nI 0)), (6, .int (nI (bsum (fun k => cirB nR nL k && ((!set.testBit k) && CT k (clB wl br cr (fun k => thv tr on up (of k) ^^ nt k)))) 11))), (0, .ref o), (1, .int (nI d)), (2, .int (nI e)), (3, .int (nI set)), (4, .int (nI on)), (5, .int (nI up))]) ⟨rfl, rfl, rfl, rfl, rfl, rfl, rfl, rfl, trivial⟩ hz
    | succ n ih =>
      intro j h1 g hj hsd hsx hg hgc
      have ho1 : h1 o = some (.inr (12, fs)) := (hsd o (by omega) (by omega) (by omega)).trans hM.1
      have hM1 : MA h1 o fs := ⟨ho1, hM.2⟩
      have next : ∀ (b : Bool) (h2 : AH), b = (cirB nR nL j && ((!set.testBit j) && CT j (clB wl br cr (fun k => thv tr on up (of k) ^^ nt k)))) → SD o h h2 → SX h2 o → h2 (o + 1 + 35) = some (.inl (3, 40, .inl g)) → Go l G 12 s_X12_shutBits 0 0 Post 15 [(7, .int (nI j + 1)), (6, .int (nI (bsum (fun k => cirB nR nL k && ((!set.testBit k) && CT k (clB wl br cr (fun k => thv tr on up (of k) ^^ nt k)))) j) ||| nI (if b = true then 2 ^ j else 0))), (0, .ref o), (1, .int (nI d)), (2, .int (nI e)), (3, .int (nI set)), (4, .int (nI on)), (5, .int (nI up))] [] h2 nx 0 0 := by
        intro b h2 hb q1 q2 q3
        have := ih (j + 1) h2 g (by omega) q1 q2 q3 hgc
        rw [nx_or, ← nI_succ]
        rw [show bsum (fun k => cirB nR nL k && ((!set.testBit k) && CT k (clB wl br cr (fun k => thv tr on up (of k) ^^ nt k)))) (j + 1) = bsum (fun k => cirB nR nL k && ((!set.testBit k) && CT k (clB wl br cr (fun k => thv tr on up (of k) ^^ nt k)))) j ||| (if b = true then 2 ^ j else 0) from by rw [hb]; rfl] at this
        exact this
      have no : ∀ h2 : AH, (cirB nR nL j && ((!set.testBit j) && CT j (clB wl br cr (fun k => thv tr on up (of k) ^^ nt k)))) = false → SD o h h2 → SX h2 o → h2 (o + 1 + 35) = some (.inl (3, 40, .inl g)) → Go l G 12 s_X12_shutBits 0 0 Post 15 [(7, .int (nI j + 1)), (6, .int (nI (bsum (fun k => cirB nR nL k && ((!set.testBit k) && CT k (clB wl br cr (fun k => thv tr on up (of k) ^^ nt k)))) j))), (0, .ref o), (1, .int (nI d)), (2, .int (nI e)), (3, .int (nI set)), (4, .int (nI on)), (5, .int (nI up))] [] h2 nx 0 0 := by
        intro h2 hb q1 q2 q3
        have hz := next false h2 hb.symm q1 q2 q3
        rw [if_neg (by decide), nx_or, Nat.or_zero] at hz
        exact hz
      refine Go.of hX.2 ck_X12_shutBits [15] 80 ?_
      refine And.intro (fun cz => absurd cz (nI_ge (b := 11) (by omega) (by decide))) (fun _ => ?_)
      refine Exists.intro _ (And.intro ho1 (Exists.intro 0 (Exists.intro 0 (And.intro (Nat.le_refl _) (And.intro (Nat.le_refl _) (c_isCircuitD hX hM1 (hD.keep hsd) (by omega) ?_))))))
      cases hci : cirB nR nL j
      · refine And.intro (fun _ => ?_) (fun cz => absurd (tN0 rfl) cz)
        exact go_loc (lv' := [(7, .int (nI j + 1)), (6, .int (nI (bsum (fun k => cirB nR nL k && ((!set.testBit k) && CT k (clB wl br cr (fun k => thv tr on up (of k) ^^ nt k)))) j))), (0, .ref o), (1, .int (nI d)), (2, .int (nI e)), (3, .int (nI set)), (4, .int (nI on)), (5, .int (nI up))]) ⟨rfl, rfl, rfl, rfl, rfl, rfl, rfl, rfl, trivial⟩ (no h1 (by rw [hci]; rfl) hsd hsx hg)
      · refine And.intro (fun cz => absurd cz (tN1 rfl)) (fun _ => ?_)
        have et : (nI set >>> (nI j &&& 31)) &&& 1 = nI (set.testBit j).toNat := nx_tb hs31 (by omega)
        cases hsj : set.testBit j
        · rw [hsj] at et
          refine And.intro (fun cz => absurd et cz) (fun _ => ?_)
          have ei : (17 : Int32) * nI d + nI j = nI (17 * d + j) := by rw [show (17 : Int32) = nI 17 from rfl, nI_mul, nI_add]
          refine Exists.intro _ (And.intro ho1 (Exists.intro 0 (Exists.intro 0 (And.intro (Nat.le_refl _) (And.intro (Nat.le_refl _) ?_)))))
          rw [ei]
          refine c_isShutD (cl := clB wl br cr (fun k => thv tr on up (of k) ^^ nt k)) hX hM1 hsx (hD.keep hsd) (by omega) hci hg hgc (fun h2 q1 q2 q3 => ?_)
          cases hct : CT j (clB wl br cr (fun k => thv tr on up (of k) ^^ nt k))
          · refine And.intro (fun _ => ?_) (fun cz => absurd (tN0 rfl) cz)
            exact go_loc (lv' := [(7, .int (nI j + 1)), (6, .int (nI (bsum (fun k => cirB nR nL k && ((!set.testBit k) && CT k (clB wl br cr (fun k => thv tr on up (of k) ^^ nt k)))) j))), (0, .ref o), (1, .int (nI d)), (2, .int (nI e)), (3, .int (nI set)), (4, .int (nI on)), (5, .int (nI up))]) ⟨rfl, rfl, rfl, rfl, rfl, rfl, rfl, rfl, trivial⟩ (no h2 (by rw [hct, Bool.and_false, Bool.and_false]) (hsd.tr q1) q2 (q3.trans hg))
          · refine And.intro (fun cz => absurd cz (tN1 rfl)) (fun _ => ?_)
            have hz := next true h2 (by rw [hci, hsj, hct]; rfl) (hsd.tr q1) q2 (q3.trans hg)
            rw [if_pos rfl, ← nx_pow (by omega)] at hz
            exact go_loc (lv' := [(7, .int (nI j + 1)), (6, .int (nI (bsum (fun k => cirB nR nL k && ((!set.testBit k) && CT k (clB wl br cr (fun k => thv tr on up (of k) ^^ nt k)))) j) ||| ((1 : Int32) <<< (nI j &&& 31)))), (0, .ref o), (1, .int (nI d)), (2, .int (nI e)), (3, .int (nI set)), (4, .int (nI on)), (5, .int (nI up))]) ⟨rfl, rfl, rfl, rfl, rfl, rfl, rfl, rfl, trivial⟩ hz
        · rw [hsj] at et
          refine And.intro (fun _ => ?_) (fun cz => absurd (et.symm.trans cz) (by decide))
          exact go_loc (lv' := [(7, .int (nI j + 1)), (6, .int (nI (bsum (fun k => cirB nR nL k && ((!set.testBit k) && CT k (clB wl br cr (fun k => thv tr on up (of k) ^^ nt k)))) j))), (0, .ref o), (1, .int (nI d)), (2, .int (nI e)), (3, .int (nI set)), (4, .int (nI on)), (5, .int (nI up))]) ⟨rfl, rfl, rfl, rfl, rfl, rfl, rfl, rfl, trivial⟩ (no h1 (by rw [hsj, Bool.not_true, Bool.false_and, Bool.and_false]) hsd hsx hg)
  refine en_X12_shutBits hX [15] 40 rfl ?_
  refine Exists.intro _ (And.intro hM.1 (Exists.intro 0 (Exists.intro 0 (And.intro (Nat.le_refl _) (And.intro (Nat.le_refl _) (c_closesD hX hM hS hD hW hon hup (fun k hk => (hcr k hk).1) (fun h2 g2 q1 q2 q3 q4 => ?_)))))))
  exact go_loc (lv' := [(7, .int (nI 0)), (6, .int (nI 0)), (0, .ref o), (1, .int (nI d)), (2, .int (nI e)), (3, .int (nI set)), (4, .int (nI on)), (5, .int (nI up))]) ⟨rfl, rfl, rfl, rfl, rfl, rfl, rfl, rfl, trivial⟩ (loop1 11 0 h2 g2 rfl q1 q2 q3 q4)
