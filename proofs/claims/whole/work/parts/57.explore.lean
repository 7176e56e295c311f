/-! x's explore -/
set_option maxHeartbeats 8000000 in
theorem c_explore {l : Launch} {G : GG} {h : AH} {nx : Nat} {Post : Option Value → AH → Nat → Prop} {II : AH → Prop} {val : Nat → Prop} {W : Nat → Bool} {v u qq qo qn nIn nR su : Nat} {nxs : Nat → Nat → Nat} {a b ver sver cm ra wa : Int32} {gq0 go0 : Nat → Int32} {gs0 : Nat → Int64} {fs0 : List Value} (hX : XC G ∧ TX l G) (hIu : ∀ h1, II h1 → ∃ fu, h1 u = some (.inr (3, fu))) (hIk : ∀ (h1 : AH) (a : Nat) (e : AE), a = v ∨ a = qq ∨ a = qo ∨ a = qn → II h1 → II (uph h1 a e)) (hic : ∀ (h1 : AH) {Q : Option Value → AH → Nat → Prop}, II h1 → Q (some (.int (nI nIn))) h1 nx → Runs l G i_X3_inputCount 0 0 [.ref u] h1 nx Q) (hset : ∀ (h1 : AH) (on x : Nat) {Q : Option Value → AH → Nat → Prop}, II h1 → on < 2 ^ nIn → val x → (∀ h2, II h2 → (∀ a, a = v ∨ a = qq ∨ a = qo ∨ a = qn → h2 a = h1 a) → Q (some (.int (stF (nxs on) nR (x % 64)))) h2 nx) → Runs l G i_X3_settle 0 0 [.ref u, .int (nI on), .int (nI x)] h1 nx Q) (hval : ∀ x, val x → x < 2048 ∧ x / 64 < 2 ^ nIn ∧ x % 64 < 2 ^ nR) (hvn : ∀ x i y, val x → i < nIn → nbF nR nxs x i = some y → val y) (hIn : nIn ≤ 5) (hR6 : nR ≤ 6) (hnx : ∀ on u, nxs on u < 2 ^ nR) (hqo : qo ≠ qq) (hwr : ∀ (h1 : AH) (x : Nat) {Q : Option Value → AH → Nat → Prop}, II h1 → val x → Q (some (.int (nI (W x).toNat))) h1 nx → Runs l G i_X3_isWrong 0 0 [.ref u, .int (nI x)] h1 nx Q) (hIf : ∀ h1 h2, II h1 → (∀ q, q ≠ v → q ≠ qq → q ≠ qo → q ≠ qn → h2 q = h1 q) → II h2) (hver : ∀ h1, II h1 → ∃ fu, h1 u = some (.inr (3, fu)) ∧ fu[5]? = some (.int ver)) (hI : II h) (hv : h v = some (.inr (7, fs0))) (hl : fs0.length = 9) (f0 : fs0[0]? = some (.ref u)) (f1 : fs0[1]? = some (.ref qq)) (f2 : fs0[2]? = some (.ref qo)) (f3 : fs0[3]? = some (.ref qn)) (f5 : fs0[5]? = some (.int ra)) (f6 : fs0[6]? = some (.int wa)) (f7 : fs0[7]? = some (.int cm)) (f8 : fs0[8]? = some (.int sver)) (hq : h qq = some (.inl (0, 2048, .inl gq0))) (ho : h qo = some (.inl (0, 2048, .inl go0))) (hn : h qn = some (.inl (1, 32, .inr (.inl gs0)))) (hsu : su < 2 ^ nR) (hset0 : ∀ {Q : Option Value → AH → Nat → Prop}, (∀ h2, II h2 → (∀ a, a = v ∨ a = qq ∨ a = qo ∨ a = qn → h2 a = h a) → Q (some (.int (stF (nxs 0) nR su))) h2 nx) → Runs l G i_X3_settle 0 0 [.ref u, .int 0, .int 0] h nx Q) (hv0 : ∀ s, s < 2 ^ nR → stF (nxs 0) nR su = nI s → val s) (hP0 : sver = ver → (cm ≠ 0 ∨ ((a ≠ 0 ∧ 0 ≤ wa) ∨ (b ≠ 0 ∧ 0 < ra))) → Post none h nx) (hPr : stF (nxs 0) nR su = -2 → ∀ (h1 : AH) (fs : List Value) (gs : Nat → Int64), II h1 → CX h1 v u fs qq qo qn SRF (-1) ver 1 gq0 go0 gs → Post none h1 nx) (hPs : ∀ s0, s0 < 2 ^ nR → stF (nxs 0) nR su = nI s0 → (∀ (h1 : AH) (fs : List Value) (gq go : Nat → Int32) (gs : Nat → Int64) (k : Nat), II h1 → k < (bK (nbF nR nxs) nIn k (S0F s0)).1 → CX h1 v u fs qq qo qn (bK (nbF nR nxs) nIn k (S0F s0)) (wA W (bK (nbF nR nxs) nIn k (S0F s0)).2.1 (k + 1)) ver 0 gq go gs → CR val (bK (nbF nR nxs) nIn k (S0F s0)) gq go gs → ((a ≠ 0 ∧ 0 ≤ wA W (bK (nbF nR nxs) nIn k (S0F s0)).2.1 (k + 1)) ∨ (b ≠ 0 ∧ 0 < nI (bK (nbF nR nxs) nIn k (S0F s0)).2.2.2)) → Post none h1 nx)) (hPe : ∀ s0, s0 < 2 ^ nR → stF (nxs 0) nR su = nI s0 → (∀ (h1 : AH) (fs : List Value) (gq go : Nat → Int32) (gs : Nat → Int64) (k : Nat), II h1 → (bK (nbF nR nxs) nIn k (S0F s0)).1 = k → CX h1 v u fs qq qo qn (bK (nbF nR nxs) nIn k (S0F s0)) (wA W (bK (nbF nR nxs) nIn k (S0F s0)).2.1 k) ver 1 gq go gs → CR val (bK (nbF nR nxs) nIn k (S0F s0)) gq go gs → Post none h1 nx)) : Runs l G i_X7_explore 0 0 [.ref v, .int a, .int b] h nx Post := by
  have hp : 2 ^ nR ≤ 64 := Nat.pow_le_pow_right (n := 2) (by decide) hR6
  obtain ⟨fu, hu, hu5⟩ := hver h hI
  have dich : (stF (nxs 0) nR su = -2) ∨ ∃ s, s < 2 ^ nR ∧ stF (nxs 0) nR su = nI s := by
    by_cases hex : ∃ s, ST (nxs 0) nR su s
    · obtain ⟨s, hst⟩ := hex
      obtain ⟨m, hm⟩ := id hst
      exact Or.inr ⟨s, ST_lt (hnx _) hsu hm, stF_some (hnx _) hst⟩
    · exact Or.inl (stF_none (fun s hst => hex ⟨s, hst⟩))
  have s31 : Go l G 7 s_X7_explore 0 0 Post 31 [(0, .ref v), (1, .int a), (2, .int b)] [] h nx 0 0 := by
    refine Go.of hX.2 ck_X7_explore [46] 60 ?_
    refine Exists.intro _ (And.intro hv (Exists.intro _ (And.intro f0 ?_)))
    refine Exists.intro _ (And.intro hu (Exists.intro 0 (Exists.intro 0 (And.intro (Nat.le_refl _) (And.intro (Nat.le_refl _) (hset0 (fun h2 hI2 hag => ?_)))))))
    obtain ⟨fu2, hu2, hu25⟩ := hver h2 hI2
    refine Exists.intro _ (And.intro ((hag v (Or.inl rfl)).trans hv) (Exists.intro 0 (Exists.intro 0 (And.intro (Nat.le_refl _) (And.intro (Nat.le_refl _) (c_startFrom (val := val) hX ((hag v (Or.inl rfl)).trans hv) hl f0 f1 f2 f3 hu2 hu25 ((hag qq (Or.inr (Or.inl rfl))).trans hq) ((hag qo (Or.inr (Or.inr (Or.inl rfl)))).trans ho) ((hag qn (Or.inr (Or.inr (Or.inr rfl)))).trans hn) hqo (fun hneg h3 fs3 gs3 hfr hC => ?_) ?_))))))
    · have hr : stF (nxs 0) nR su = -2 := by
        rcases dich with hr | ⟨s, hs, hr⟩
        · exact hr
        · rw [hr] at hneg; exact absurd hneg (nI_pos (by omega))
      refine go_loc (lv' := [(3, .int (nI 0)), (0, .ref v), (1, .int a), (2, .int b)]) ⟨rfl, rfl, rfl, rfl, trivial⟩ ?_
      have hI3 := hIf h2 h3 hI2 hfr
      obtain ⟨c0, c9, c1, c2, c3, c4, c5, _⟩ := id hC
      refine Go.of hX.2 ck_X7_explore [] 40 ?_
      refine Exists.intro _ (And.intro c0 (Exists.intro _ (And.intro c5 ?_)))
      refine And.intro (fun _ => ?_) (fun cz => absurd (nI_le (Nat.le_refl 0) (by decide)) cz)
      refine Exists.intro _ (And.intro c0 (And.intro (by omega) (And.intro rfl (And.intro rfl ?_))))
      exact hPr hr _ _ gs3 (hIk _ v _ (Or.inl rfl) hI3) hC.cm
    · rcases dich with hr | ⟨s, hs, hr⟩
      · exact Or.inl (by rw [hr]; decide)
      · refine Or.inr ⟨s, hr, by omega, hv0 s hs hr, fun h3 fs3 gq3 go3 gs3 hfr hC hR => ?_⟩
        refine go_loc (lv' := [(3, .int (nI 0)), (0, .ref v), (1, .int a), (2, .int b)]) ⟨rfl, rfl, rfl, rfl, trivial⟩ ?_
        exact exploreK (S0 := S0F s) (W := W) hX hIu hIk hic hset hval hvn hIn hR6 hnx hqo hwr (hPs s hs hr) (hPe s hs hr) 2048 0 h3 fs3 gq3 go3 gs3 (by decide) (Nat.zero_le _) (hIf h2 h3 hI2 hfr) hC hR
  refine en_X7_explore hX [31] 60 rfl ?_
  refine Exists.intro _ (And.intro hv (Exists.intro _ (And.intro f8 ?_)))
  refine Exists.intro _ (And.intro hv (Exists.intro _ (And.intro f0 ?_)))
  refine Exists.intro _ (And.intro hu (Exists.intro _ (And.intro hu5 ?_)))
  by_cases hvv : sver = ver
  · refine And.intro (fun cz => absurd hvv cz) (fun _ => ?_)
    refine Exists.intro _ (And.intro hv (Exists.intro _ (And.intro f7 ?_)))
    by_cases hcm : cm = 0
    · refine And.intro (fun cz => absurd hcm cz) (fun _ => ?_)
      refine Exists.intro _ (And.intro hv (Exists.intro 0 (Exists.intro 0 (And.intro (Nat.le_refl _) (And.intro (Nat.le_refl _) (c_isAtStop hX hv f5 f6 ?_))))))
      by_cases hs : ((a ≠ 0 ∧ 0 ≤ wa) ∨ (b ≠ 0 ∧ 0 < ra))
      · rw [if_pos hs]
        refine And.intro (fun cz => by first | exact absurd cz (by decide) | exact absurd (by decide) cz) (fun _ => ?_)
        exact hP0 hvv (Or.inr hs)
      · rw [if_neg hs]
        refine And.intro (fun _ => ?_) (fun cz => by first | exact absurd cz (by decide) | exact absurd (by decide) cz)
        exact go_loc (lv' := [(0, .ref v), (1, .int a), (2, .int b)]) ⟨rfl, rfl, rfl, trivial⟩ s31
    · refine And.intro (fun _ => ?_) (fun cz => absurd cz hcm)
      exact hP0 hvv (Or.inl hcm)
  · refine And.intro (fun _ => ?_) (fun cz => absurd cz hvv)
    exact go_loc (lv' := [(0, .ref v), (1, .int a), (2, .int b)]) ⟨rfl, rfl, rfl, trivial⟩ s31
