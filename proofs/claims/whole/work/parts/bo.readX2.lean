/-! x reads a text -/
/-- a text's fault: its number, its place -/
def fltN (u : Nat → Nat) (n N f q : Nat) : Prop := (zFt (kdN u n) N ≠ 0 ∧ f = zFt (kdN u n) N ∧ q = plN u n N) ∨ (zFt (kdN u n) N = 0 ∧ ∃ i, i < N ∧ fX (kdN u n) (vaN u n) N i ≠ 0 ∧ (∀ j, j < i → fX (kdN u n) (vaN u n) N j = 0) ∧ f = fX (kdN u n) (vaN u n) N i ∧ q = plN u n i)
theorem fX_le (kd : Nat → Nat) (vl : Nat → Int64) (N i : Nat) : fX kd vl N i ≤ 5 := by
  unfold fX
  repeat' split
  all_goals omega
theorem zFt_le (kd : Nat → Nat) (N : Nat) : zFt kd N ≤ 2 := by
  unfold zFt
  repeat' split
  all_goals omega
theorem fltN_b {u : Nat → Nat} {n N f q : Nat} (h : fltN u n N f q) : 0 < f ∧ f ≤ 5 := by
  rcases h with ⟨a, b, _⟩ | ⟨_, i, _, a, _, b, _⟩
  · have := zFt_le (kdN u n) N; omega
  · have := fX_le (kdN u n) (vaN u n) N i; omega
theorem txt_of {u : Nat → Nat} {n N : Nat} (hu : ∀ i, u i < 256) (hE : zEnd (kdN u n) N) (h0 : zFt (kdN u n) N = 0) : TXT (kdN u n) N := by
  refine ⟨kdN_lt hu n, hE.1, ?_⟩
  unfold zFt at h0
  split at h0
  · split at h0
    · assumption
    · cases h0
  · split at h0 <;> cases h0
theorem XRd.ag {h h' : AH} {r : Nat} (H : XRd h r) (hs : ∀ x, r ≤ x → x < r + 12 → h' x = h x) : XRd h' r := by
  obtain ⟨⟨a, e0⟩, ⟨qt, n, b, kd, pl, v, e1⟩, ⟨gw, e2, p2⟩, ⟨pf, kd2, vl2, cf, hA⟩, kd3, vl3, hB⟩ := H
  exact ⟨⟨a, (hs _ (by omega) (by omega)).trans e0⟩, ⟨qt, n, b, kd, pl, v, (hs _ (by omega) (by omega)).trans e1⟩, ⟨gw, (hs _ (by omega) (by omega)).trans e2, p2⟩, ⟨pf, kd2, vl2, cf, hA.ag (fun x _ _ => hs x (by omega) (by omega))⟩, kd3, vl3, hB.ag (fun x _ _ => hs x (by omega) (by omega))⟩
set_option maxHeartbeats 8000000 in
theorem x_faultPlace {l : Launch} {G : GG} {h : AH} {nx : Nat} {Post : Option Value → AH → Nat → Prop} {r : Nat} {a : Nat → Int32} (hX : XC G ∧ TX l G) (hr : h r = some (.inr (6, rdI r a))) (hP : Post (some (.int (a 9))) h nx) : Runs l G i_X6_faultPlace 0 0 [.ref r] h nx Post := by
  refine en_X6_faultPlace hX [] 10 rfl ?_
  refine Exists.intro _ (And.intro hr (Exists.intro _ (And.intro rfl ?_)))
  exact And.intro rfl (hP)
set_option maxHeartbeats 8000000 in
theorem x_read {l : Launch} {G : GG} {h : AH} {nx : Nat} {Post : Option Value → AH → Nat → Prop} {o w tl c N a0 : Nat} {fp ah : Int32} {da : Nat → Nat} {dd : Nat → DD} {u : Nat → Nat} {g : Nat → Int32} {s0 : HWk} {st5 : Nat → Bool} (hX : XC G ∧ TX l G) (hA : XA h o w tl fp c ah da dd) (hRd : XRd h (w + 31)) (hW : XHw h w a0 s0) (ht : h w = some (.inl (2, 2000, .inl g))) (hg : ∀ i, i < tl → g i = bvN (u i)) (hu : ∀ i, u i < 256) (htl : tl ≤ 2000) (hE : zEnd (kdN u tl) N) (hnx : w + 137 ≤ nx) (hda : ∀ i, i < c → da i + 29 ≤ nx) (hP4 : 4 ≤ c → Post (some (.int (-2))) h nx) (hPb : c < 4 → ∀ (f q : Nat) (h1 : AH), fltN u tl N f q → (∀ x, x ≠ o → x < w + 31 ∨ w + 43 ≤ x → h1 x = h x) → XA h1 o w 0 (nI q) c ah da dd → XRd h1 (w + 31) → Post (some (.int (nI f))) h1 nx) (hP : c < 4 → (TXT (kdN u tl) N ∧ zFt (kdN u tl) N = 0) → (∀ i, i < N → fX (kdN u tl) (vaN u tl) N i = 0) → ∀ h1 : AH, (∀ x, x < nx → x ≠ o → x ≠ w + 30 → x < w + 31 ∨ w + 43 ≤ x → x < w + 70 ∨ w + 73 ≤ x → h1 x = h x) → XA h1 o w 0 (-1) (c + 1) (nI c) (fun i => if i = c then nx else da i) (fun i => if i = c then mkD (kdN u tl) (vaN u tl) N st5 else dd i) → XRd h1 (w + 31) → XHw h1 w nx hw0 → FD0 h1 nx → Post (some (.int 0)) h1 (nx + 41)) : Runs l G i_X11_read 60 12000 [.ref o] h nx Post := by
  have hN := zEnd_le hE
  have how := hA.2.2.2.2.2.2
  have hc4 := hA.2.2.1
  by_cases c4 : 4 ≤ c
  · refine en_X11_read hX [] 30 rfl ?_
    refine Exists.intro _ (And.intro hA.1 (Exists.intro _ (And.intro rfl ?_)))
    refine And.intro (fun cz => absurd cz (nI_nlt (a := c) (b := 4) c4 (by omega))) (fun _ => ?_)
    exact And.intro rfl ((hP4 c4))
  · have c4 : c < 4 := by omega
    have bad : ∀ (h1 : AH) (f q : Nat) (a : Nat → Int32), fltN u tl N f q → (∀ x, x < w + 31 ∨ w + 31 + 12 ≤ x → h1 x = h x) → XRd h1 (w + 31) → h1 (w + 31) = some (.inr (6, rdI (w + 31) a)) → a 9 = nI q → Go l G 11 s_X11_read 60 12000 Post 27 [(1, .int (nI f)), (0, .ref o)] [] h1 nx 0 0 := by
      intro h1 f q a hf f1 hR1 hr1 ha
      have fb := fltN_b hf
      have hA1 := hA.mid (fun x hx => f1 x (by omega))
      have hA2 := hA1.set 0 fp ah
      have hA3 := hA2.set 0 (nI q) ah
      have n0 : ¬ nI f = 0 := fun z => by
        have := (nI_eq (a := f) (b := 0) (by omega) (by omega)).mp z
        omega
      refine Go.of hX.2 ck_X11_read [] 60 ?_
      refine Exists.intro _ (And.intro hA1.1 (And.intro (Nat.le_of_ble_eq_true rfl) (And.intro rfl (And.intro rfl ?_))))
      refine And.intro (fun _ => ?_) (fun cz => absurd cz (n0))
      refine Exists.intro _ (And.intro hA2.1 (Exists.intro _ (And.intro rfl ?_)))
      refine Exists.intro _ (And.intro ((uph_ne (by omega)).trans hr1) (Exists.intro 0 (Exists.intro 0 (And.intro (by omega) (And.intro (by omega) (x_faultPlace hX ((uph_ne (by omega)).trans hr1) ?_))))))
      rw [ha]
      refine Exists.intro _ (And.intro hA2.1 (And.intro (Nat.le_of_ble_eq_true rfl) (And.intro rfl (And.intro rfl ?_))))
      refine And.intro (fun _ => ?_) (fun cz => absurd cz (n0))
      refine And.intro rfl (hPb c4 f q _ hf (fun x x1 x2 => ?_) hA3 (hR1.ag (fun x x1 x2 => ?_)))
      · exact (uph_ne x1).trans ((uph_ne x1).trans (f1 x (by omega)))
      · exact (uph_ne (by omega)).trans (uph_ne (by omega))
    refine en_X11_read hX [27] 60 rfl ?_
    refine Exists.intro _ (And.intro hA.1 (Exists.intro _ (And.intro rfl ?_)))
    refine And.intro (fun _ => ?_) (fun cz => absurd (nI_lt (a := c) (b := 4) c4 (by decide)) cz)
    refine Exists.intro _ (And.intro hA.1 (Exists.intro _ (And.intro rfl ?_)))
    refine Exists.intro _ (And.intro hA.1 (Exists.intro _ (And.intro rfl ?_)))
    refine Exists.intro _ (And.intro hA.1 (Exists.intro _ (And.intro rfl ?_)))
    have hR0 := hRd
    obtain ⟨⟨ar, er⟩, _⟩ := hR0
    refine Exists.intro _ (And.intro er (Exists.intro 0 (Exists.intro 0 (And.intro (Nat.zero_le _) (And.intro (Nat.zero_le _) ?_)))))
    refine x_judge (u := u) hX hRd ht hg hu htl (by omega) hE (fun z0 zf h1 f1 hR1 hr1 hA1 hB1 => ?_) (fun z0 i hi hf hl h1 a f1 hR1 hr1 ha => ?_) (fun z0 h1 a f1 hR1 hr1 ha => ?_)
    · have hT := txt_of hu hE z0
      have hXA1 := hA.mid (fun x hx => f1 x (by omega))
      have hA2 := hXA1.set 0 fp ah
      have hA3 := hA2.set 0 (-1) ah
      refine go_loc (lv' := [(1, .int 0), (0, .ref o)]) ⟨rfl, rfl, trivial⟩ ?_
      refine Go.of hX.2 ck_X11_read [] 90 ?_
      refine Exists.intro _ (And.intro hXA1.1 (And.intro (Nat.le_of_ble_eq_true rfl) (And.intro rfl (And.intro rfl ?_))))
      refine And.intro (fun cz => by first | exact absurd cz (by decide) | exact absurd (by decide) cz) (fun _ => ?_)
      refine Exists.intro _ (And.intro hA2.1 (And.intro (Nat.le_of_ble_eq_true rfl) (And.intro rfl (And.intro rfl ?_))))
      refine And.intro (fun cz => by first | exact absurd cz (by decide) | exact absurd (by decide) cz) (fun _ => ?_)
      refine Exists.intro _ (And.intro hA3.1 (Exists.intro _ (And.intro rfl ?_)))
      refine Exists.intro _ (And.intro hA3.1 (Exists.intro _ (And.intro rfl ?_)))
      refine Exists.intro _ (And.intro hA3.1 (Exists.intro _ (And.intro rfl ?_)))
      have f3 : ∀ x, x ≠ o → uph (uph h1 o (.inr (11, xfO w 0 fp c ah))) o (.inr (11, xfO w 0 (-1) c ah)) x = h1 x := fun x hx => (uph_ne hx).trans (uph_ne hx)
      refine Exists.intro _ (And.intro ((f3 (w + 31) (by omega)).trans hr1) (Exists.intro 41 (Exists.intro 11400 (And.intro (by decide) (And.intro (Nat.le_of_ble_eq_true rfl) ?_)))))
      refine x_draw (st5 := st5) (pf := plN u tl) (vl := vaN u tl) hX ((f3 (w + 31) (by omega)).trans hr1) (hA1.ag (fun x x1 x2 => f3 x (by omega))) (hB1.ag (fun x x1 x2 => f3 x (by omega))) hT hN zf (fun i hk => vaN_3 hk) (fun i hk => vaN_2 hk) (by omega) (fun h4 f4 hD hFD => ?_)
      have hA4 : XA h4 o w 0 (-1) c ah da dd := hA3.ag (fun x hx => f4 x (by
        rcases hx with z | z | z | ⟨i, hi, z⟩
        · omega
        · omega
        · omega
        · have := hda i hi
          omega))
      obtain ⟨b1, ⟨df, b2, b3⟩, b4, b5, b6, b7, b8⟩ := hA4
      have hDc := id hD
      obtain ⟨cc, q2, q3, q4, q5, q10, q13, q14, q16, q17, q18, q19, q27, q28, q1, q11, q12, d0, _⟩ := hDc
      refine Exists.intro _ (Exists.intro _ (Exists.intro _ (And.intro b2 (And.intro d0 (And.intro (vp_in_nI c4 (by decide)) ?_)))))
      rw [nI_clamp (by omega)]
      have fD : ∀ {h' : AH} {d : Nat} {D : DD}, XD h4 d D → (∀ x, x ≠ w + 30 → x ≠ o → h' x = h4 x) → (d = w + 1 ∨ w + 137 ≤ d) → XD h' d D := fun hd hf hh => hd.ag (fun x hx => hf x (by omega) (by omega))
      have mk : ∀ h' : AH, (∀ x, x ≠ w + 30 → x ≠ o → h' x = h4 x) → h' o = some (.inr (11, xfO w 0 (-1) (c + 1) ah)) → h' (w + 30) = some (.inl (4, 4, .inr (.inr (.inr (.inr (va_up df c (some nx))))))) → XA h' o w 0 (-1) (c + 1) ah (fun i => if i = c then nx else da i) (fun i => if i = c then mkD (kdN u tl) (vaN u tl) N st5 else dd i) := by
        intro h' hf e0 e30
        refine ⟨e0, ⟨_, e30, fun i hi => ?_⟩, by omega, fD b5 hf (Or.inl rfl), fun i hi => ?_, fun i j hij hj => ?_, b8⟩
        · by_cases e : i = c
          · subst e
            show (if i = i then some nx else df i) = some (if i = i then nx else da i)
            rw [if_pos rfl, if_pos rfl]
          · show (if i = c then some nx else df i) = some (if i = c then nx else da i)
            rw [if_neg e, if_neg e]
            exact b3 i (by omega)
        · show XD h' (if i = c then nx else da i) (if i = c then mkD (kdN u tl) (vaN u tl) N st5 else dd i) ∧ WD (if i = c then mkD (kdN u tl) (vaN u tl) N st5 else dd i) ∧ w + 137 ≤ (if i = c then nx else da i)
          by_cases e : i = c
          · rw [if_pos e, if_pos e]
            exact ⟨fD hD hf (Or.inr hnx), WD_mk hT zf (fun i hk => vaN_3 hk) (fun i hk => vaN_2 hk), hnx⟩
          · rw [if_neg e, if_neg e]
            obtain ⟨x1, x2, x3⟩ := b6 i (by omega)
            exact ⟨fD x1 hf (Or.inr x3), x2, x3⟩
        · show (if i = c then nx else da i) + 29 ≤ (if j = c then nx else da j)
          rw [if_neg (by omega)]
          by_cases e : j = c
          · rw [if_pos e]
            exact hda i (by omega)
          · rw [if_neg e]
            exact b7 i j hij (by omega)
      have e0 : uph h4 (w + 30) (.inl (4, 4, .inr (.inr (.inr (.inr (va_up df c (some nx))))))) o = some (.inr (11, xfO w 0 (-1) c ah)) := (uph_ne (by omega)).trans b1
      have hA5 := mk (uph (uph h4 (w + 30) (.inl (4, 4, .inr (.inr (.inr (.inr (va_up df c (some nx)))))))) o (.inr (11, xfO w 0 (-1) (c + 1) ah))) (fun x x1 x2 => (uph_ne x2).trans (uph_ne x1)) uph_eq ((uph_ne (by omega)).trans uph_eq)
      have hW5 : XHw (uph (uph h4 (w + 30) (.inl (4, 4, .inr (.inr (.inr (.inr (va_up df c (some nx)))))))) o (.inr (11, xfO w 0 (-1) (c + 1) ah))) w a0 s0 := hW.ag (fun x x1 x2 => (uph_ne (by omega)).trans ((uph_ne (by omega)).trans ((f4 x (by omega)).trans ((f3 x (by omega)).trans (f1 x (by omega))))))
      have s5 : (xfO w 0 (-1) c ah).set 5 (.int (nI c + 1)) = xfO w 0 (-1) (c + 1) ah := by
        unfold xfO
        rw [nI_succ c]
        rfl
      refine Exists.intro _ (And.intro e0 (Exists.intro _ (And.intro rfl ?_)))
      refine Exists.intro _ (And.intro e0 (And.intro (Nat.le_of_ble_eq_true rfl) (And.intro rfl (And.intro rfl ?_))))
      rw [s5]
      refine Exists.intro _ (And.intro hA5.1 (Exists.intro _ (And.intro rfl ?_)))
      have ec : nI (c + 1) - 1 = nI c := by rw [nI_succ, Int32.add_sub_cancel]
      refine Exists.intro _ (And.intro hA5.1 (Exists.intro 0 (Exists.intro 0 (And.intro (by omega) (And.intro (by omega) ?_)))))
      rw [ec]
      refine x_takeToHand hX hA5 (Nat.lt_succ_self c) hW5 (fun h6 f6 hA6 hW6 => ?_)
      rw [if_pos rfl] at hW6
      refine And.intro rfl (hP c4 ⟨hT, z0⟩ zf h6 (fun x x1 x2 x3 x4 x5 => ?_) hA6 (hR1.ag (fun x x1 x2 => ?_)) hW6 (hFD.ag (fun x x1 x2 => (f6 x (by omega) (by omega)).trans ((uph_ne (by omega)).trans (uph_ne (by omega))))))
      · exact (f6 x x2 x5).trans ((uph_ne x2).trans ((uph_ne x3).trans ((f4 x x1).trans ((f3 x x2).trans (f1 x (by omega))))))
      · exact (f6 x (by omega) (by omega)).trans ((uph_ne (by omega)).trans ((uph_ne (by omega)).trans ((f4 x (by omega)).trans (f3 x (by omega)))))
    · refine go_loc (lv' := [(1, .int (nI (fX (kdN u tl) (vaN u tl) N i))), (0, .ref o)]) ⟨rfl, rfl, trivial⟩ ?_
      exact bad h1 _ _ a (Or.inr ⟨z0, i, hi, hf, hl, rfl, rfl⟩) f1 hR1 hr1 ha
    · refine go_loc (lv' := [(1, .int (nI (zFt (kdN u tl) N))), (0, .ref o)]) ⟨rfl, rfl, trivial⟩ ?_
      exact bad h1 _ _ a (Or.inl ⟨z0, rfl, rfl⟩) f1 hR1 hr1 ha
