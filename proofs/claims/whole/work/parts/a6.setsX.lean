/-! x's planner: its sets, and one stage -/
theorem rk7 {u c : Nat} (h : rkU u 11 ≤ 7) (hc : c ≤ 11) : 2 ^ rkU u c ≤ 128 := by
  have := rkU_mono (u := u) hc
  have e : 2 ^ rkU u c ≤ 2 ^ 7 := Nat.pow_le_pow_right (by decide) (by omega)
  exact e
set_option maxHeartbeats 8000000 in
theorem x_listSets {l : Launch} {G : GG} {h : AH} {nx : Nat} {Post : Option Value → AH → Nat → Prop} {w u : Nat} {f1 f2 : Value} {mst cnt : Int32} {g1 : Nat → Int32} (hX : XC G ∧ TX l G) (hp : h (w + 60) = some (.inr (5, PF w f1 f2 mst cnt))) (h1 : h (w + 61) = some (.inl (0, 128, .inl g1))) (hu : u < 2048) (hn : rkU u 11 ≤ 7) (hP : ∀ (h2 : AH) (g : Nat → Int32), (∀ x, x ≠ w + 60 → x ≠ w + 61 → h2 x = h x) → h2 (w + 60) = some (.inr (5, PF w f1 f2 mst (nI (2 ^ rkU u 11)))) → h2 (w + 61) = some (.inl (0, 128, .inl g)) → (∀ s, s < 2 ^ rkU u 11 → g s = nI (dep u s)) → Post none h2 nx) : Runs l G i_X5_listSets 0 0 [.ref (w + 60), .int (nI u)] h nx Post := by
  have loop : ∀ (m c : Nat) (h2 : AH) (g : Nat → Int32), c + m = 11 → (∀ x, x ≠ w + 60 → x ≠ w + 61 → h2 x = h x) → h2 (w + 60) = some (.inr (5, PF w f1 f2 mst (nI (2 ^ rkU u c)))) → h2 (w + 61) = some (.inl (0, 128, .inl g)) → (∀ s, s < 2 ^ rkU u c → g s = nI (dpc u s c)) → Go l G 5 s_X5_listSets 0 0 Post 14 [(2, .int (nI c)), (0, .ref (w + 60)), (1, .int (nI u))] [] h2 nx 0 0 := by
    intro m
    induction m with
    | zero =>
      intro c h2 g hc hs p1 p2 hg
      have e : c = 11 := by omega
      subst e
      refine Go.of hX.2 ck_X5_listSets [14] 20 ?_
      refine And.intro (fun _ => ?_) (fun cz => by first | exact absurd cz (by decide) | exact absurd (by decide) cz)
      exact hP h2 g hs p1 p2 hg
    | succ m ih =>
      intro c h2 g hc hs p1 p2 hg
      have hc11 : c < 11 := by omega
      have tb := nx_tb0 (a := u) (k := c) (by omega) (by omega)
      refine Go.of hX.2 ck_X5_listSets [14, 42] 60 ?_
      refine And.intro (fun cz => absurd cz (nI_ge (a := c) (b := 11) hc11 (by decide))) (fun _ => ?_)
      have rs := rkU_s u c
      cases hb : u.testBit c with
      | false =>
        refine And.intro (fun _ => ?_) (fun cz => absurd (tb.mpr hb) cz)
        refine go_loc (lv' := [(2, .int (nI c + 1)), (0, .ref (w + 60)), (1, .int (nI u))]) ⟨rfl, rfl, rfl, trivial⟩ ?_
        rw [← nI_succ]
        rw [hb] at rs
        refine ih (c + 1) h2 g (by omega) hs (by rw [rs]; exact p1) p2 (fun s hs2 => ?_)
        rw [rs] at hs2
        rw [hg s hs2, dpc_s, hb]
        rfl
      | true =>
        rw [hb, show (true : Bool).toNat = 1 from rfl] at rs
        have c2 := rk7 hn (show c + 1 ≤ 11 by omega)
        rw [rs, Nat.pow_succ] at c2
        have cp := Nat.two_pow_pos (rkU u c)
        refine And.intro (fun cz => absurd cz (fun z => by rw [tb.mp z] at hb; cases hb)) (fun _ => ?_)
        refine Exists.intro _ (And.intro p1 (Exists.intro _ (And.intro rfl ?_)))
        refine And.intro (fun cz => absurd cz (show ¬ (128 : Int32) < (2 : Int32) * nI (2 ^ rkU u c) from by rw [show (2 : Int32) = nI 2 from rfl, nI_mul]; exact nI_nlt (a := 128) (by omega) (by decide))) (fun _ => ?_)
        have inner : ∀ (m2 s : Nat) (h3 : AH) (g3 : Nat → Int32), s + m2 = 2 ^ rkU u c → (∀ x, x ≠ w + 60 → x ≠ w + 61 → h3 x = h x) → h3 (w + 60) = some (.inr (5, PF w f1 f2 mst (nI (2 ^ rkU u c)))) → h3 (w + 61) = some (.inl (0, 128, .inl g3)) → (∀ t, t < 2 ^ rkU u c + s → g3 t = nI (dpc u t (c + 1))) → (∀ t, t < 2 ^ rkU u c → g3 t = nI (dpc u t c)) → Go l G 5 s_X5_listSets 0 0 Post 42 [(3, .int (nI s)), (2, .int (nI c)), (0, .ref (w + 60)), (1, .int (nI u))] [] h3 nx 0 0 := by
          intro m2
          induction m2 with
          | zero =>
            intro s h3 g3 hs2 hs3 p3 p4 hg3 _
            have e : s = 2 ^ rkU u c := by omega
            refine Go.of hX.2 ck_X5_listSets [14] 40 ?_
            refine Exists.intro _ (And.intro p3 (Exists.intro _ (And.intro rfl ?_)))
            refine And.intro (fun _ => ?_) (fun cz => absurd (nI_le (a := 2 ^ rkU u c) (b := s) (by omega) (by omega)) cz)
            refine Exists.intro _ (And.intro p3 (Exists.intro _ (And.intro rfl ?_)))
            refine Exists.intro _ (And.intro p3 (And.intro (Nat.le_of_ble_eq_true rfl) (And.intro rfl (And.intro rfl ?_))))
            refine go_loc (lv' := [(2, .int (nI c + 1)), (0, .ref (w + 60)), (1, .int (nI u))]) ⟨rfl, rfl, rfl, trivial⟩ ?_
            rw [← nI_succ]
            refine ih (c + 1) _ g3 (by omega) (fun x x1 x2 => (uph_ne x1).trans (hs3 x x1 x2)) ?_ ((uph_ne (by omega)).trans p4) (fun t ht => hg3 t ?_)
            · rw [uph_eq, rs, Nat.pow_succ, ← nI_mul]
              rfl
            · rw [rs, Nat.pow_succ] at ht
              omega
          | succ m2 ih2 =>
            intro s h3 g3 hs2 hs3 p3 p4 hg3 hg4
            have hsl : s < 2 ^ rkU u c := by omega
            have es : nI (2 ^ rkU u c) + nI s = nI (2 ^ rkU u c + s) := nI_add _ _
            have db : dpc u s c < 2 ^ c := bsum_lt _ c
            have ev : nI (dpc u s c) ||| ((1 : Int32) <<< (nI c &&& 31)) = nI (dpc u (2 ^ rkU u c + s) (c + 1)) := by
              rw [nx_pow (by omega), nx_or, dpc_s, hb, Bool.true_and]
              have e1 : dpc u (2 ^ rkU u c + s) c = dpc u s c := by rw [← dpc_mod, Nat.add_mod_left, Nat.mod_eq_of_lt hsl]
              have e2 : (2 ^ rkU u c + s).testBit (rkU u c) = true := by rw [Nat.testBit_two_pow_add_eq, tb_big hsl (Nat.le_refl _)]; rfl
              rw [e1, e2]
              have e3 := or_add (a := 1) db
              rw [Nat.mul_one] at e3
              rw [Nat.or_comm, e3]
              show nI (2 ^ c + dpc u s c) = nI (dpc u s c + 2 ^ c * 1)
              rw [Nat.mul_one, Nat.add_comm]
            refine Go.of hX.2 ck_X5_listSets [42] 60 ?_
            refine Exists.intro _ (And.intro p3 (Exists.intro _ (And.intro rfl ?_)))
            refine And.intro (fun cz => absurd cz (nI_ge hsl (by omega))) (fun _ => ?_)
            refine Exists.intro _ (And.intro p3 (Exists.intro _ (And.intro rfl ?_)))
            refine Exists.intro _ (And.intro p3 (Exists.intro _ (And.intro rfl ?_)))
            refine Exists.intro _ (And.intro p3 (Exists.intro _ (And.intro rfl ?_)))
            refine Exists.intro _ (Exists.intro _ (And.intro p4 (And.intro (vp_in_nI (show s < 128 by omega) (by decide)) ?_)))
            rw [nI_clamp (show s < 2 ^ 31 by omega), hg4 s hsl]
            refine Exists.intro _ (Exists.intro _ (And.intro p4 (And.intro (by rw [es]; exact vp_in_nI (by omega) (by decide)) ?_)))
            rw [es, nI_clamp (show 2 ^ rkU u c + s < 2 ^ 31 by omega), ev]
            refine go_loc (lv' := [(3, .int (nI s + 1)), (2, .int (nI c)), (0, .ref (w + 60)), (1, .int (nI u))]) ⟨rfl, rfl, rfl, rfl, trivial⟩ ?_
            rw [← nI_succ]
            refine ih2 (s + 1) _ _ (by omega) (fun x x1 x2 => (uph_ne x2).trans (hs3 x x1 x2)) ((uph_ne (by omega)).trans p3) uph_eq (fun t ht => ?_) (fun t ht => ?_)
            · by_cases e : t = 2 ^ rkU u c + s
              · rw [e]; exact pk_us
              · rw [pk_un e]; exact hg3 t (by omega)
            · rw [pk_un (by omega)]; exact hg4 t ht
        refine go_loc (lv' := [(3, .int (nI 0)), (2, .int (nI c)), (0, .ref (w + 60)), (1, .int (nI u))]) ⟨rfl, rfl, rfl, rfl, trivial⟩ ?_
        refine inner (2 ^ rkU u c) 0 h2 g (Nat.zero_add _) hs p1 p2 (fun t ht => ?_) hg
        have htl : t < 2 ^ rkU u c := by omega
        rw [hg t htl, dpc_s, hb, tb_big htl (Nat.le_refl _)]
        rfl
  refine en_X5_listSets hX [14] 40 rfl ?_
  refine Exists.intro _ (And.intro hp (Exists.intro _ (And.intro rfl ?_)))
  refine Exists.intro _ (Exists.intro _ (And.intro h1 (And.intro (vp_in_nI (n := 0) (by decide) (by decide)) ?_)))
  refine Exists.intro _ (And.intro ((uph_ne (by omega)).trans hp) (And.intro (Nat.le_of_ble_eq_true rfl) (And.intro rfl (And.intro rfl ?_))))
  refine go_loc (lv' := [(2, .int (nI 0)), (0, .ref (w + 60)), (1, .int (nI u))]) ⟨rfl, rfl, rfl, trivial⟩ ?_
  have e0 : rkU u 0 = 0 := rfl
  have e1 : nI (2 ^ rkU u 0) = 1 := by rw [e0, Nat.pow_zero]; rfl
  refine loop 11 0 _ _ (Nat.zero_add _) (fun x x1 x2 => by rw [uph_ne x1, uph_ne x2]) (by rw [e1]; exact uph_eq) ((uph_ne (by omega)).trans uph_eq) (fun s hs => ?_)
  rw [e0, Nat.pow_zero] at hs
  have e : s = 0 := by omega
  rw [e]
  exact (show (0 : Int32) = nI 0 from rfl)
