/-! x draws a text -/
theorem drI : ∀ I, I < 6 → (1 : Int32) <<< (((if (0 : Int32) < (if nI I < 5 then nI I else 5) then (if nI I < 5 then nI I else 5) else 0) + 6) &&& 31) = nI (64 * 2 ^ I) ∧ 64 * 2 ^ I ≤ 2048 := by decide +kernel
theorem iS_lt {kd : Nat → Nat} {N : Nat} (h : TXT kd N) (x : Nat) : iS kd N N x < 19 := by
  unfold iS
  by_cases c6 : x < 6
  · rw [if_pos c6]; decide
  · rw [if_neg c6]
    by_cases c11 : x < 11
    · rw [if_pos c11]
      by_cases cl : x - 6 < zL (zz kd N)
      · rw [if_pos cl]
        obtain ⟨t, y1, y2, y3, y4, y5⟩ := exL h cl
        rw [y5]
        exact (h.w (show t ≤ N by omega)).2.2.1
      · rw [if_neg cl]; decide
    · rw [if_neg c11]
      by_cases cl : x - 11 < zI (zz kd N)
      · rw [if_pos cl]
        obtain ⟨t, y1, y2, y3, y4, y5⟩ := exI h cl
        rw [y5]
        exact (h.w (show t ≤ N by omega)).2.2.1
      · rw [if_neg cl]; decide
/-- a fresh drawing's findings -/
def FD0 (h : AH) (d : Nat) : Prop := h (d + 20) = some (.inr (1, [.ref (d + 21), .ref (d + 22), .ref (d + 23), .ref (d + 24), .ref (d + 25), .ref (d + 26), .int (-1)])) ∧ h (d + 21) = some (.inl (2, 132, .inl (fun _ => 0))) ∧ h (d + 22) = some (.inl (2, 132, .inl (fun _ => 0))) ∧ h (d + 23) = some (.inl (1, 396, .inr (.inl (fun _ => 0)))) ∧ h (d + 24) = some (.inl (2, 132, .inl (fun _ => 0))) ∧ h (d + 25) = some (.inl (1, 132, .inr (.inl (fun _ => 0)))) ∧ h (d + 26) = some (.inl (1, 30, .inr (.inl (fun _ => 0))))
theorem FD0.ag {h h' : AH} {d : Nat} (H : FD0 h d) (hs : ∀ x, d + 20 ≤ x → x < d + 27 → h' x = h x) : FD0 h' d := by
  obtain ⟨a0, a1, a2, a3, a4, a5, a6⟩ := H
  exact ⟨(hs _ (by omega) (by omega)).trans a0, (hs _ (by omega) (by omega)).trans a1, (hs _ (by omega) (by omega)).trans a2, (hs _ (by omega) (by omega)).trans a3, (hs _ (by omega) (by omega)).trans a4, (hs _ (by omega) (by omega)).trans a5, (hs _ (by omega) (by omega)).trans a6⟩
/-- a fresh drawing's rows, but for its items -/
def DR0 (h : AH) (d W : Nat) : Prop := h (d + 3) = some (.inl (0, 400, .inl (fun _ => 0))) ∧ h (d + 4) = some (.inl (0, 11, .inl (fun _ => 0))) ∧ h (d + 5) = some (.inl (0, 11, .inl (fun _ => 0))) ∧ h (d + 6) = some (.inr (10, wiF (d + 7) 40)) ∧ wiR h (d + 7) 40 (fun _ => 0) (fun _ => 0) (fun _ => 0) (fun _ => 0) (fun _ => 0) (fun _ => 0) (fun _ => 0) (fun _ => 0) ∧ h (d + 10) = some (.inl (0, 11, .inl (fun _ => 0))) ∧ h (d + 11) = some (.inl (1, 32, .inr (.inl (fun _ => 0)))) ∧ h (d + 12) = some (.inl (1, 64, .inr (.inl (fun _ => 0)))) ∧ h (d + 18) = some (.inl (0, 40, .inl (fun _ => 0))) ∧ h (d + 19) = some (.inl (0, 132, .inl (fun _ => 0))) ∧ h (d + 27) = some (.inl (0, W, .inl (fun _ => 0))) ∧ h (d + 28) = some (.inl (2, W, .inl (fun _ => 0))) ∧ FD0 h d
theorem DR0.ag {h h' : AH} {d W : Nat} (H : DR0 h d W) (hs : ∀ x, d + 3 ≤ x → h' x = h x) : DR0 h' d W := by
  obtain ⟨a3, a4, a5, a6, ⟨r6, r7, r8, r9, r10, r0, r1, r2⟩, a10, a11, a12, a18, a19, a27, a28, aF⟩ := H
  exact ⟨(hs _ (by omega)).trans a3, (hs _ (by omega)).trans a4, (hs _ (by omega)).trans a5, (hs _ (by omega)).trans a6, ⟨(hs _ (by omega)).trans r6, (hs _ (by omega)).trans r7, (hs _ (by omega)).trans r8, (hs _ (by omega)).trans r9, (hs _ (by omega)).trans r10, (hs _ (by omega)).trans r0, (hs _ (by omega)).trans r1, (hs _ (by omega)).trans r2⟩, (hs _ (by omega)).trans a10, (hs _ (by omega)).trans a11, (hs _ (by omega)).trans a12, (hs _ (by omega)).trans a18, (hs _ (by omega)).trans a19, (hs _ (by omega)).trans a27, (hs _ (by omega)).trans a28, aF.ag (fun x x1 _ => hs x (by omega))⟩
set_option maxHeartbeats 8000000 in
theorem x_draw {l : Launch} {G : GG} {h : AH} {nx : Nat} {Post : Option Value → AH → Nat → Prop} {r N : Nat} {pl : Int32} {kd pf : Nat → Nat} {vl : Nat → Int64} {st5 : Nat → Bool} (hX : XC G ∧ TX l G) (hr : h r = some (.inr (6, rdO r N pl (zz kd N)))) (hA : rwA h r N kd pf vl (cfJ kd vl N N)) (hB : rwB h r kd vl (toL kd N)) (hT : TXT kd N) (hN : N ≤ 400) (hF : ∀ i, i < N → fX kd vl N i = 0) (hv3 : ∀ i, kd i = 3 → ∃ q, q < 10000 ∧ vl i = lN q) (hv2 : ∀ i, kd i = 2 → 0 < vl i) (hrn : r + 12 ≤ nx) (hP : ∀ h1 : AH, (∀ x, x < nx → h1 x = h x) → XD h1 nx (mkD kd vl N st5) → FD0 h1 nx → Post (some (.ref nx)) h1 (nx + 41)) : Runs l G i_X6_draw 41 11400 [.ref r] h nx Post := by
  obtain ⟨_, _, _, b1, b2, b3, b4, b5, _⟩ := hT.w (Nat.le_refl N)
  have hlen := to_len hT.1 (i := N) hT.2.1
  have hd0 := (drI (zI (zz kd N)) (by omega)).2
  obtain ⟨q10, q11, q9, k9, k10, k11, pb⟩ := id hB
  have loop : ∀ (m i T : Nat) (h1 : AH) (g1 : Nat → Int64) (g2 : Nat → Int32), i + m = N → T = (toL kd i).length → (∀ x, x < nx → h1 x = h x) → DR0 h1 nx (64 * 2 ^ zI (zz kd N)) → h1 nx = some (.inr (0, dwF nx (zI (zz kd i)) (zR (zz kd i)) (zL (zz kd i)) 0 0 0 0)) → h1 (nx + 1) = some (.inl (1, 16, .inr (.inl g1))) → h1 (nx + 2) = some (.inl (0, 16, .inl g2)) → (∀ x, x < 16 → g1 x = iN kd vl N i x ∧ g2 x = nI (iS kd N i x)) → Go l G 6 s_X6_draw 41 11400 Post 14 [(2, .int (nI T)), (0, .ref r), (1, .ref nx)] [] h1 (nx + 29) 29 9018 := by
    intro m
    induction m with
    | zero =>
      intro i T h1 g1 g2 hi eT f1 hD e0 e1 e2 pg
      have e : i = N := by omega
      subst e
      have hr1 := (f1 r (by omega)).trans hr
      have hA1 : rwA h1 r i kd pf vl (cfJ kd vl i i) := hA.ag (fun x x1 x2 => f1 x (by omega))
      obtain ⟨a3, a4, a5, a6, aw, a10, a11, a12, a18, a19, a27, a28, aF⟩ := hD
      have s0 : zS (zz kd i) = 0 := hT.2.2
      refine Go.of hX.2 ck_X6_draw [] 40 ?_
      refine Exists.intro _ (And.intro hr1 (Exists.intro _ (And.intro rfl ?_)))
      refine And.intro (fun _ => ?_) (fun cz => absurd (nI_le (a := zI (zz kd i) + zR (zz kd i) + zL (zz kd i)) (b := T) (by omega) (by omega)) cz)
      have hD1 : drwX h1 nx kd (vcT kd vl i) i 0 (iS kd i i) (slI kd vl) := ⟨0, g2, _, _, _, _, _, _, _, _, _, _, _, _, _, e0, Nat.zero_le _, e2, a3, a4, a5, a6, aw, a10, a18, fun x x1 x2 => ⟨(pg x x2).2, iS_lt hT x⟩, fun q hq => by
        rw [(pg q (by omega)).2]
        unfold iS
        rw [if_pos hq]
        rfl, fun j hj => absurd hj (Nat.not_lt_zero j), fun c hc _ => ⟨rfl, rfl⟩⟩
      refine Exists.intro _ (And.intro hr1 (Exists.intro 0 (Exists.intro 0 (And.intro (by omega) (And.intro (by omega) (x_drawCircuits (st := iS kd i i) hX hr1 hA1 hT hN hF hv3 hv2 hD1 (by omega) (fun h2 f2 D2 => ?_)))))))
      obtain ⟨cc, y2, y3, y4, y5, y10, y18, v1, v2, v3, v4, v5, v6, v7, v8, z0, z1, z2, z3, z4, z5, z6, z7, z10, z18, t1, t2, t3, t4⟩ := D2
      have ek : kxT kd i i = zK (zz kd i) := by unfold kxT; rw [if_neg (by omega)]
      have ec : cxT kd i i = i := by unfold cxT; rw [if_neg (by omega)]
      rw [ek] at z0
      rw [ec] at z1
      have hcon := fun {k : Nat} (hk : k < zK (zz kd i)) => con_K hT hF t3 hk
      have hvr : ∀ k, k < zK (zz kd i) → v1 k = nI (vrK kd vl i k) ∧ vrK kd vl i k < 11 ∧ v3 k = nI (ivK kd vl i k).toNat := fun k hk => by
        obtain ⟨_, u1, _, u3, _, w1, w2, w3⟩ := hcon hk
        have := (vc_e hT hF w1 w2 w3).1
        exact ⟨u1, by unfold vrK; omega, u3⟩
      refine Exists.intro _ (And.intro z0 (Exists.intro 0 (Exists.intro 0 (And.intro (by omega) (And.intro (by omega) (x_complete (ow := fun k => ownZ (zz kd (tkK kd i k))) (vr := vrK kd vl i) (iv := ivK kd vl i) hX z0 z6 z7 z10 ((f2 _ (by omega)).trans a11) ((f2 _ (by omega)).trans a12) z18 ((f2 _ (by omega)).trans a19) ((f2 _ (by omega)).trans a27) b1 b2 b3 b5 (fun k hk => ⟨(hcon hk).1, (hcon hk).2.2.2.2.1⟩) hvr (fun h3 g19' g27' gI gR f3 x0 x11 x12 x19 l19 x27 pI pR p27 => ?_)))))))
      have fr3 : ∀ x, x < nx → h3 x = h x := fun x hx => (f3 x (by omega) (by omega) (by omega) (by omega) (by omega)).trans ((f2 x (by omega)).trans (f1 x hx))
      have hr3 := (fr3 r (by omega)).trans hr
      have hA3 : rwA h3 r i kd pf vl (cfJ kd vl i i) := hA.ag (fun x x1 x2 => fr3 x (by omega))
      have hB3 : rwB h3 r kd vl (toL kd i) := hB.ag (fun x x1 x2 => fr3 x (by omega))
      have d2 : ∀ x, x ≠ nx → x ≠ nx + 11 → x ≠ nx + 12 → x ≠ nx + 19 → x ≠ nx + 27 → h3 x = h2 x := f3
      refine Exists.intro _ (And.intro hr3 (Exists.intro 12 (Exists.intro 2320 (And.intro (by decide) (And.intro (Nat.le_of_ble_eq_true rfl) ?_)))))
      refine x_drawNevers (st := stI kd i) hX hr3 hA3 hB3 (by omega) (by omega) hT hN hF x0 ((d2 _ (by omega) (by omega) (by omega) (by omega) (by omega)).trans z2) ((d2 _ (by omega) (by omega) (by omega) (by omega) (by omega)).trans ((f2 _ (by omega)).trans a28)) b1 (fun x _ => rfl) (fun k hk => t1 (11 + k) (by omega) (by omega)) (by omega) (by omega) (fun h4 g28' f4 u0 u28 p28 => ?_)
      have d3 : ∀ x, x < nx + 29 → x ≠ nx → x ≠ nx + 11 → x ≠ nx + 12 → x ≠ nx + 19 → x ≠ nx + 27 → x ≠ nx + 28 → h4 x = h2 x := fun x x1 x2 x3 x4 x5 x6 x7 => (f4 x x1 x2 x7).trans (f3 x x2 x3 x4 x5 x6)
      obtain ⟨r6, r7, r8, r9, r10, _⟩ := z7
      refine hP h4 (fun x hx => (f4 x (by omega) (by omega) (by omega)).trans (fr3 x hx)) (XD_mk (g1 := g1) hT hN hF hv2 u0 ((d3 _ (by omega) (by omega) (by omega) (by omega) (by omega) (by omega) (by omega)).trans z6) ((d3 _ (by omega) (by omega) (by omega) (by omega) (by omega) (by omega) (by omega)).trans ((f2 _ (by omega)).trans e1)) ((d3 _ (by omega) (by omega) (by omega) (by omega) (by omega) (by omega) (by omega)).trans z2) ((d3 _ (by omega) (by omega) (by omega) (by omega) (by omega) (by omega) (by omega)).trans z3) ((d3 _ (by omega) (by omega) (by omega) (by omega) (by omega) (by omega) (by omega)).trans z4) ((d3 _ (by omega) (by omega) (by omega) (by omega) (by omega) (by omega) (by omega)).trans z5) ((d3 _ (by omega) (by omega) (by omega) (by omega) (by omega) (by omega) (by omega)).trans z10) ((f4 _ (by omega) (by omega) (by omega)).trans x11) ((f4 _ (by omega) (by omega) (by omega)).trans x12) ((d3 (nx + 13) (by omega) (by omega) (by omega) (by omega) (by omega) (by omega) (by omega)).trans r6) ((d3 (nx + 14) (by omega) (by omega) (by omega) (by omega) (by omega) (by omega) (by omega)).trans r7) ((d3 (nx + 16) (by omega) (by omega) (by omega) (by omega) (by omega) (by omega) (by omega)).trans r9) ((d3 (nx + 17) (by omega) (by omega) (by omega) (by omega) (by omega) (by omega) (by omega)).trans r10) ((d3 _ (by omega) (by omega) (by omega) (by omega) (by omega) (by omega) (by omega)).trans z18) ((f4 _ (by omega) (by omega) (by omega)).trans x19) ((f4 _ (by omega) (by omega) (by omega)).trans x27) u28 z1 (fun x hx => (pg x hx).1) (fun x x1 x2 => (t1 x x1 x2).1) t2 t3 t4 l19 pI pR p27 p28) (aF.ag (fun x x1 x2 => (d3 x (by omega) (by omega) (by omega) (by omega) (by omega) (by omega) (by omega)).trans (f2 x (by omega))))
    | succ m ih =>
      intro i T h1 g1 g2 hi eT f1 hD e0 e1 e2 pg
      have hiN : i < N := by omega
      by_cases hz : zN (zS (zz kd i)) = true
      · obtain ⟨c1, c2, c3, c4, c5, c6, c7, c8, c9⟩ := it_s (vl := vl) hT hiN hz
        obtain ⟨M, eM⟩ := toL_pre kd (show i + 1 ≤ N by omega)
        have eg : (toL kd N).getD T 0 = i := by
          rw [eM, c9, List.append_assoc, eT, List.getD_eq_getElem?_getD, List.getElem?_append_right (Nat.le_refl _), Nat.sub_self]
          rfl
        have hTl : T < (toL kd N).length := by
          rw [eM, c9, List.length_append, List.length_append, eT]
          show _ < _ + 1 + _
          omega
        have hr1 := (f1 r (by omega)).trans hr
        have j9 := (f1 (r + 9) (by omega)).trans k9
        have j10 := (f1 (r + 10) (by omega)).trans k10
        have j11 := (f1 (r + 11) (by omega)).trans k11
        obtain ⟨p9, p10, p11⟩ := pb T hTl
        rw [eg] at p9 p10 p11
        have nxt : ∀ (h2 : AH) (g1' : Nat → Int64) (g2' : Nat → Int32), (∀ x, x < nx → h2 x = h x) → DR0 h2 nx (64 * 2 ^ zI (zz kd N)) → h2 nx = some (.inr (0, dwF nx (zI (zz kd (i + 1))) (zR (zz kd (i + 1))) (zL (zz kd (i + 1))) 0 0 0 0)) → h2 (nx + 1) = some (.inl (1, 16, .inr (.inl g1'))) → h2 (nx + 2) = some (.inl (0, 16, .inl g2')) → (∀ x, x < 16 → g1' x = iN kd vl N (i + 1) x ∧ g2' x = nI (iS kd N (i + 1) x)) → Go l G 6 s_X6_draw 41 11400 Post 50 [(2, .int (nI T)), (0, .ref r), (1, .ref nx)] [] h2 (nx + 29) 29 9018 := by
          intro h2 g1' g2' y1 y2 y3 y4 y5 y6
          have := ih (i + 1) (T + 1) h2 g1' g2' (by omega) (by rw [c9, List.length_append, eT]; rfl) y1 y2 y3 y4 y5 y6
          rw [nI_succ T] at this
          refine Go.of hX.2 ck_X6_draw [14] 5 ?_
          exact go_loc (lv' := [(2, .int (nI T + 1)), (0, .ref r), (1, .ref nx)]) ⟨rfl, rfl, rfl, trivial⟩ (this)
        refine Go.of hX.2 ck_X6_draw [50] 60 ?_
        refine Exists.intro _ (And.intro hr1 (Exists.intro _ (And.intro rfl ?_)))
        refine And.intro (fun cz => absurd cz (nI_ge (a := T) (b := zI (zz kd N) + zR (zz kd N) + zL (zz kd N)) (by omega) (by omega))) (fun _ => ?_)
        refine And.intro (fun cz => absurd cz (nI_ge (a := T) (b := 16) (by omega) (by decide))) (fun _ => ?_)
        refine Exists.intro _ (And.intro hr1 (Exists.intro _ (And.intro rfl ?_)))
        refine Exists.intro _ (Exists.intro _ (And.intro j10 (And.intro (vp_in_nI (show T < 16 by omega) (by decide)) ?_)))
        rw [nI_clamp (show T < 2 ^ 31 by omega), p10]
        refine Exists.intro _ (And.intro hr1 (Exists.intro _ (And.intro rfl ?_)))
        refine Exists.intro _ (Exists.intro _ (And.intro j11 (And.intro (vp_in_nI (show T < 16 by omega) (by decide)) ?_)))
        rw [nI_clamp (show T < 2 ^ 31 by omega), p11]
        refine Exists.intro _ (And.intro hr1 (Exists.intro _ (And.intro rfl ?_)))
        refine Exists.intro _ (Exists.intro _ (And.intro j9 (And.intro (vp_in_nI (show T < 16 by omega) (by decide)) ?_)))
        rw [nI_clamp (show T < 2 ^ 31 by omega), p9]
        refine Exists.intro _ (And.intro e0 (Exists.intro 0 (Exists.intro 0 (And.intro (by omega) (And.intro (by omega) (x_addTold hX e0 e1 e2 c1 c2 c3 (fun h3 z1 z2 z3 z4 => ?_)))))))
        refine go_loc (lv' := [(2, .int (nI T)), (0, .ref r), (1, .ref nx)]) ⟨rfl, rfl, rfl, trivial⟩ ?_
        refine nxt h3 _ _ (fun x hx => (z1 x (by omega) (by omega) (by omega)).trans (f1 x hx)) (hD.ag (fun x hx => z1 x (by omega) (by omega) (by omega))) (by rw [c6, c7, c8]; exact z2) z3 z4 (fun x hx => ⟨?_, ?_⟩)
        · rw [c4]
          unfold vp_updL
          by_cases c : x = itm (zT (zz kd i)) (zNo (zz kd i))
          · rw [if_pos c, if_pos c]
          · rw [if_neg c, if_neg c]
            exact (pg x hx).1
        · rw [c5]
          unfold upd
          by_cases c : x = itm (zT (zz kd i)) (zNo (zz kd i))
          · rw [if_pos c, if_pos c]
          · rw [if_neg c, if_neg c]
            exact (pg x hx).2
      · obtain ⟨c1, c2, c3, c4⟩ := it_k hT hiN (by cases hh : zN (zS (zz kd i)) with | true => exact absurd hh hz | false => rfl)
        refine ih (i + 1) T h1 g1 g2 (by omega) (by rw [c4]; exact eT) f1 hD (by rw [c1, c2, c3]; exact e0) e1 e2 (fun x hx => ?_)
        have := pg x hx
        unfold iN iS at this ⊢
        rw [c1, c2, c3]
        exact this
  refine en_X6_draw hX [14] 80 rfl ?_
  refine And.intro (by decide) (And.intro (Nat.le_of_ble_eq_true rfl) ?_)
  refine Exists.intro _ (And.intro (by rw [uph_ne (by omega)]; exact hr) (Exists.intro _ (And.intro rfl ?_)))
  refine Exists.intro 28 (Exists.intro 9000 (And.intro (by decide) (And.intro (Nat.le_of_ble_eq_true rfl) (c_Drawing_init (I := zI (zz kd N)) (W := 64 * 2 ^ zI (zz kd N)) (drI _ (by omega)).1 hd0 hX uph_eq (Nat.lt_succ_self _) (fun h2 z1 y0 y1 y2 y3 y4 y5 y6 y7 y8 y9 y10 y11 y12 y13 y14 y15 y16 y17 y18 y19 y20 y21 y22 y23 y24 y25 y26 y27 y28 => ?_)))))
  refine go_loc (lv' := [(2, .int (nI 0)), (0, .ref r), (1, .ref nx)]) ⟨rfl, rfl, rfl, trivial⟩ ?_
  exact loop N 0 0 h2 _ _ (Nat.zero_add _) rfl (fun x hx => (z1 x (by omega) (by omega)).trans (uph_ne (by omega))) ⟨y3, y4, y5, y6, ⟨y13, y14, y15, y16, y17, y7, y8, y9⟩, y10, y11, y12, y18, y19, y27, y28, ⟨y20, y21, y22, y23, y24, y25, y26⟩⟩ y0 y1 y2 (fun x hx => ⟨by
    unfold iN
    rw [if_neg (show ¬ x < zR (zz kd 0) from Nat.not_lt_zero _), if_neg (show ¬ x - 6 < zL (zz kd 0) from Nat.not_lt_zero _), if_neg (show ¬ x - 11 < zI (zz kd 0) from Nat.not_lt_zero _), ite_self, ite_self], by
    unfold iS
    rw [if_neg (show ¬ x - 6 < zL (zz kd 0) from Nat.not_lt_zero _), if_neg (show ¬ x - 11 < zI (zz kd 0) from Nat.not_lt_zero _), ite_self, ite_self]
    rfl⟩)
