/-! x: single flaws, and pairs, that are bad -/
noncomputable def aSingles (D : DD) : Int32 := nI ((flL D).countP (bd1 D))
noncomputable def aPairs (D : DD) (f : Int32) : Int32 := if vFx (dK D) (dR D) (dow D) f = true then nI ((flL D).countP (pbB D f.toNatClampNeg)) else -1
def aIx (L : List Nat) (i : Int32) : Int32 := if 0 ≤ i ∧ i < nI L.length then nI (L.getD i.toNatClampNeg 0) else -1
noncomputable def aPair (D : DD) (f i : Int32) : Int32 := if vFx (dK D) (dR D) (dow D) f = true then aIx ((flL D).filter (pbB D f.toNatClampNeg)) i else -1
set_option maxHeartbeats 8000000 in
theorem x_singles {l : Launch} {G : GG} {h : AH} {nx : Nat} {Post : Option Value → AH → Nat → Prop} {o w tl c t vb : Nat} {fp sc : Int32} {da : Nat → Nat} {dd : Nat → DD} (hX : XC G ∧ TX l G) (hA : XA h o w tl fp c (nI t) da dd) (hH : XH h w c da dd vb) (ht : t < c) (hv : vb + 200 < 2 ^ 31) (hO : FO h (da t) sc) (hF : FA h (da t) (dd t)) (hP : ∀ h1 : AH, (∀ x, (x < w + 43 ∨ w + 52 ≤ x) → x ≠ da t + 21 → h1 x = h x) → XH h1 w c da dd (vb + 132) → FA h1 (da t) (dd t) → Post (some (.int (aSingles (dd t)))) h1 nx) : Runs l G i_X11_singles 0 0 [.ref o] h nx Post := by
  obtain ⟨_, _, _, _, _, _, _, _, ⟨_, _, _, _, _, ⟨_, _, _, s0, _⟩, _⟩, _⟩ := id hH
  refine en_X11_singles hX [] 20 rfl ?_
  refine Exists.intro _ (And.intro hA.1 (Exists.intro _ (And.intro rfl ?_)))
  refine Exists.intro _ (And.intro hA.1 (Exists.intro 0 (Exists.intro 0 (And.intro (Nat.le_refl _) (And.intro (Nat.le_refl _) (x_current hX hA ht ?_))))))
  refine Exists.intro _ (And.intro s0 (Exists.intro 0 (Exists.intro 0 (And.intro (Nat.le_refl _) (And.intro (Nat.le_refl _) (x_countBad hX hA hH ht hv hO hF (fun h1 y1 y2 y3 => ?_)))))))
  obtain ⟨g, a, b⟩ := y3
  exact And.intro rfl (hP h1 y1 y2 ⟨g, a, fun i hi => Or.inr (b i hi)⟩)
set_option maxHeartbeats 8000000 in
theorem x_pairs {l : Launch} {G : GG} {h : AH} {nx : Nat} {Post : Option Value → AH → Nat → Prop} {o w tl c t vb : Nat} {fp sc f : Int32} {da : Nat → Nat} {dd : Nat → DD} (hX : XC G ∧ TX l G) (hA : XA h o w tl fp c (nI t) da dd) (hH : XH h w c da dd vb) (ht : t < c) (hv : vb + 400 < 2 ^ 31) (hO : FO h (da t) sc) (hF : FA h (da t) (dd t)) (hG : FP h (da t) (dd t)) (hP : ∀ h1 : AH, (∀ x, (x < w + 43 ∨ w + 52 ≤ x) → (x < da t + 21 ∨ da t + 24 ≤ x) → h1 x = h x) → XH h1 w c da dd (vb + 264) → FA h1 (da t) (dd t) → FP h1 (da t) (dd t) → Post (some (.int (aPairs (dd t) f))) h1 nx) : Runs l G i_X11_pairs 0 0 [.ref o, .int f] h nx Post := by
  have hdt : isDr w c da dd (da t) (dd t) := Or.inr ⟨t, ht, rfl, rfl⟩
  have hlo : w + 137 ≤ da t := (hA.2.2.2.2.1 t ht).2.2
  obtain ⟨hD, hw, _⟩ := hdt.xd hA
  have hl := flL_len hw
  obtain ⟨cc, g2, g3, g4, g5, g10, g13, g14, g16, g17, g18, g19, g27, g28, g1, g11, g12, d0, _⟩ := id hD
  obtain ⟨_, _, _, _, _, _, _, _, ⟨_, _, _, _, _, ⟨_, _, _, s0, _⟩, _⟩, _⟩ := id hH
  unfold aPairs at hP
  refine en_X11_pairs hX [] 60 rfl ?_
  refine Exists.intro _ (And.intro hA.1 (Exists.intro 0 (Exists.intro 0 (And.intro (Nat.le_refl _) (And.intro (Nat.le_refl _) (x_current hX hA ht ?_))))))
  refine Exists.intro _ (And.intro d0 (Exists.intro 0 (Exists.intro 0 (And.intro (Nat.le_refl _) (And.intro (Nat.le_refl _) (x_flawIndex hX hD hw (fun k hk e => ?_) (fun e => ?_) True.intro))))))
  · refine And.intro (fun _ => ?_) (fun cz => absurd (nI_pos' (by omega)) cz)
    refine Exists.intro _ (And.intro hA.1 (Exists.intro _ (And.intro rfl ?_)))
    refine Exists.intro _ (And.intro hA.1 (Exists.intro 0 (Exists.intro 0 (And.intro (Nat.le_refl _) (And.intro (Nat.le_refl _) (x_current hX hA ht ?_))))))
    refine Exists.intro _ (And.intro s0 (Exists.intro 0 (Exists.intro 0 (And.intro (Nat.le_refl _) (And.intro (Nat.le_refl _) (x_findPartners hX hA hH ht hv hO hF hG hk (fun h1 y1 y2 y3 y4 y5 => ?_)))))))
    have hA1 : XA h1 o w tl fp c (nI t) da dd := hA.fn ht (fun x a1 a2 => y1 x (by omega) (by omega))
    have hO1 : FO h1 (da t) sc := hO.ag (y1 _ (by omega) (by omega))
    obtain ⟨hD1, _, _⟩ := hdt.xd hA1
    obtain ⟨cc, g2, g3, g4, g5, g10, g13, g14, g16, g17, g18, g19, g27, g28, g1, g11, g12, d01, _⟩ := id hD1
    obtain ⟨p, e23, vp⟩ := y5
    refine Exists.intro _ (And.intro hA1.1 (Exists.intro 0 (Exists.intro 0 (And.intro (Nat.le_refl _) (And.intro (Nat.le_refl _) (x_current hX hA1 ht ?_))))))
    refine Exists.intro _ (And.intro d01 (Exists.intro _ (And.intro rfl ?_)))
    refine Exists.intro _ (And.intro hO1 (Exists.intro 0 (Exists.intro 0 (And.intro (Nat.le_refl _) (And.intro (Nat.le_refl _) (x_countPartners hX hO1 rfl e23 (by omega) hl vp ?_))))))
    have hP := hP h1 y1 y2 y3 y4
    have e2 := (vFx_ix hw).mpr ⟨k, hk, e⟩
    have e3 := flL_lt hw hk
    rw [if_pos e2, e, nI_clamp (by omega)] at hP
    exact And.intro rfl (hP)
  · refine And.intro (fun cz => by first | exact absurd cz (by decide) | exact absurd (by decide) cz) (fun _ => ?_)
    have hP := hP h (fun _ _ _ => rfl) (hH.le (by omega)) hF hG
    rw [if_neg (by rw [e]; decide)] at hP
    exact And.intro rfl (hP)
set_option maxHeartbeats 8000000 in
theorem x_pair {l : Launch} {G : GG} {h : AH} {nx : Nat} {Post : Option Value → AH → Nat → Prop} {o w tl c t vb : Nat} {fp sc f i : Int32} {da : Nat → Nat} {dd : Nat → DD} (hX : XC G ∧ TX l G) (hA : XA h o w tl fp c (nI t) da dd) (hH : XH h w c da dd vb) (ht : t < c) (hv : vb + 400 < 2 ^ 31) (hO : FO h (da t) sc) (hF : FA h (da t) (dd t)) (hG : FP h (da t) (dd t)) (hP : ∀ h1 : AH, (∀ x, (x < w + 43 ∨ w + 52 ≤ x) → (x < da t + 21 ∨ da t + 24 ≤ x) → h1 x = h x) → XH h1 w c da dd (vb + 264) → FA h1 (da t) (dd t) → FP h1 (da t) (dd t) → Post (some (.int (aPair (dd t) f i))) h1 nx) : Runs l G i_X11_pair 0 0 [.ref o, .int f, .int i] h nx Post := by
  have hdt : isDr w c da dd (da t) (dd t) := Or.inr ⟨t, ht, rfl, rfl⟩
  have hlo : w + 137 ≤ da t := (hA.2.2.2.2.1 t ht).2.2
  obtain ⟨hD, hw, _⟩ := hdt.xd hA
  have hl := flL_len hw
  obtain ⟨cc, g2, g3, g4, g5, g10, g13, g14, g16, g17, g18, g19, g27, g28, g1, g11, g12, d0, _⟩ := id hD
  obtain ⟨_, _, _, _, _, _, _, _, ⟨_, _, _, _, _, ⟨_, _, _, s0, _⟩, _⟩, _⟩ := id hH
  unfold aPair at hP
  refine en_X11_pair hX [] 60 rfl ?_
  refine Exists.intro _ (And.intro hA.1 (Exists.intro 0 (Exists.intro 0 (And.intro (Nat.le_refl _) (And.intro (Nat.le_refl _) (x_current hX hA ht ?_))))))
  refine Exists.intro _ (And.intro d0 (Exists.intro 0 (Exists.intro 0 (And.intro (Nat.le_refl _) (And.intro (Nat.le_refl _) (x_flawIndex hX hD hw (fun k hk e => ?_) (fun e => ?_) True.intro))))))
  · refine And.intro (fun _ => ?_) (fun cz => absurd (nI_pos' (by omega)) cz)
    refine Exists.intro _ (And.intro hA.1 (Exists.intro _ (And.intro rfl ?_)))
    refine Exists.intro _ (And.intro hA.1 (Exists.intro 0 (Exists.intro 0 (And.intro (Nat.le_refl _) (And.intro (Nat.le_refl _) (x_current hX hA ht ?_))))))
    refine Exists.intro _ (And.intro s0 (Exists.intro 0 (Exists.intro 0 (And.intro (Nat.le_refl _) (And.intro (Nat.le_refl _) (x_findPartners hX hA hH ht hv hO hF hG hk (fun h1 y1 y2 y3 y4 y5 => ?_)))))))
    have hA1 : XA h1 o w tl fp c (nI t) da dd := hA.fn ht (fun x a1 a2 => y1 x (by omega) (by omega))
    have hO1 : FO h1 (da t) sc := hO.ag (y1 _ (by omega) (by omega))
    obtain ⟨hD1, _, _⟩ := hdt.xd hA1
    obtain ⟨cc, g2, g3, g4, g5, g10, g13, g14, g16, g17, g18, g19, g27, g28, g1, g11, g12, d01, _⟩ := id hD1
    obtain ⟨p, e23, vp⟩ := y5
    have hP := hP h1 y1 y2 y3 y4
    have e2 := (vFx_ix hw).mpr ⟨k, hk, e⟩
    have e3 := flL_lt hw hk
    rw [if_pos e2, e, nI_clamp (by omega)] at hP
    have hfl : ((flL (dd t)).filter (pbB (dd t) ((flL (dd t)).getD k 0))).length ≤ 132 := Nat.le_trans (List.length_filter_le ..) hl
    refine Exists.intro _ (And.intro hA1.1 (Exists.intro 0 (Exists.intro 0 (And.intro (Nat.le_refl _) (And.intro (Nat.le_refl _) (x_current hX hA1 ht ?_))))))
    refine Exists.intro _ (And.intro hA1.1 (Exists.intro 0 (Exists.intro 0 (And.intro (Nat.le_refl _) (And.intro (Nat.le_refl _) (x_current hX hA1 ht ?_))))))
    refine Exists.intro _ (And.intro d01 (Exists.intro _ (And.intro rfl ?_)))
    refine Exists.intro _ (And.intro hO1 (Exists.intro 0 (Exists.intro 0 (And.intro (Nat.le_refl _) (And.intro (Nat.le_refl _) (x_partnerAt hX hO1 rfl e23 (by omega) hl vp (fun n k2 a1 a2 a3 a4 => ?_) (fun a1 => ?_) True.intro))))))
    · refine Exists.intro _ (And.intro d01 (Exists.intro 0 (Exists.intro 0 (And.intro (Nat.le_refl _) (And.intro (Nat.le_refl _) (x_flawAt hX hD1 hw ?_))))))
      unfold aIx at hP
      rw [a1, if_pos ⟨nI_pos' (by omega), nI_lt a2 (by omega)⟩, nI_clamp (by omega)] at hP
      rw [show aFlaw (dd t) (nI k2) = nI ((flL (dd t)).getD k2 0) from by unfold aFlaw; rw [if_pos ⟨nI_pos' (by omega), nI_lt a3 (by omega)⟩, nI_clamp (by omega)], a4]
      exact And.intro rfl (hP)
    · refine Exists.intro _ (And.intro d01 (Exists.intro 0 (Exists.intro 0 (And.intro (Nat.le_refl _) (And.intro (Nat.le_refl _) (x_flawAt hX hD1 hw ?_))))))
      unfold aIx at hP
      rw [if_neg (fun z => by
        obtain ⟨n, hn, rfl⟩ := nI_of (Int32.not_lt.mpr z.1)
        have b1 := a1 n rfl hn
        exact absurd z.2 (nI_nlt b1 hn))] at hP
      rw [show aFlaw (dd t) (-1) = -1 from by unfold aFlaw; rw [if_neg (fun z => absurd z.1 (by decide))]]
      exact And.intro rfl (hP)
  · refine And.intro (fun cz => by first | exact absurd cz (by decide) | exact absurd (by decide) cz) (fun _ => ?_)
    have hP := hP h (fun _ _ _ => rfl) (hH.le (by omega)) hF hG
    rw [if_neg (by rw [e]; decide)] at hP
    exact And.intro rfl (hP)
