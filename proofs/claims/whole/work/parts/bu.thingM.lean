/-! the model reads: the thing that a name is of -/
def thF (nmI nmR : Nat → Int64) (cI cR : Nat) (x : Int64) : Int32 := if fdN nmI x cI = -1 then (if fdN nmR x cR = -1 then -1 else 10 + fdN nmR x cR) else fdN nmI x cI
set_option maxHeartbeats 8000000 in
theorem m_thingNamed {l : Launch} {G : GG} {h : AH} {nx : Nat} {Post : Option Value → AH → Nat → Prop} {o d cI cR cL j n m t op cd sg wa wg wo : Nat} {wp : Int32} {u : Nat → Nat} {nmI nmR nmL : Nat → Int64} {fs : List Value} (hX : XC G ∧ TX l G) (hP0 : PRs h o fs ((t, op, cd, sg), (wa, wg, wo, wp))) (hT : tokM h o u n m) (hj : j < m) (hk : kdN u n j = 2) (hm : m ≤ 401) (hn : n ≤ 2000) (hN : NMp h o fs d cI cR cL nmI nmR nmL) (hw : wo ≤ 5) (hC : wo = 0 ∨ ∃ q, wp = nI q ∧ q ≤ 2000 ∧ q ≠ plN u n j) (hY : thF nmI nmR cI cR (vaN u n j) ≠ -1 → Post (some (.int (thF nmI nmR cI cR (vaN u n j)))) h nx) (hA : thF nmI nmR cI cR (vaN u n j) = -1 → (wo = 0 ∨ ∃ q, wp = nI q ∧ q ≤ 2000 ∧ plN u n j < q) → ∀ (h1 : AH) (fs1 : List Value), PRs h1 o fs1 ((t, op, cd, sg), (wa, wg, 4, nI (plN u n j))) → pfF fs fs1 → (∀ x, x ≠ o → h1 x = h x) → Post (some (.int (-1))) h1 nx) (hP : thF nmI nmR cI cR (vaN u n j) = -1 → (wo ≠ 0 ∧ ∃ q, wp = nI q ∧ q ≤ 2000 ∧ q < plN u n j) → Post (some (.int (-1))) h nx) : Runs l G i_X12_thingNamed 0 0 [.ref o, .int (nI j)] h nx Post := by
  have hT0 := hT
  obtain ⟨g2, g3, g4, g5, a2, a3, a4, a5, p⟩ := hT
  have hM := hP0.1
  have e5 := (p j hj).2.2.2 hk
  have hcR : cR ≤ 6 := by
    obtain ⟨_, _, _, ⟨_, _, _, _, _, x, _⟩, _⟩ := hN
    exact x
  have fin : ∀ v, v = thF nmI nmR cI cR (vaN u n j) → Go l G 12 s_X12_thingNamed 0 0 Post 48 [(2, .int v), (0, .ref o), (1, .int (nI j))] [] h nx 0 0 := by
    intro v hv
    subst hv
    refine Go.of hX.2 ck_X12_thingNamed [] 30 ?_
    by_cases c : thF nmI nmR cI cR (vaN u n j) = -1
    · rw [c]
      refine And.intro (fun cz => by first | exact absurd cz (by decide) | exact absurd (by decide) cz) (fun _ => ?_)
      refine Exists.intro _ (And.intro hM.1 (Exists.intro 0 (Exists.intro 0 (And.intro (Nat.le_refl _) (And.intro (Nat.le_refl _) (m_wrong (k := 4) (j := j) hX hP0 hT0 hj hm hn hw hC (fun hh h2 fs2 y1 y2 y3 => ?_) (fun hh => ?_)))))))
      · exact And.intro rfl ((hA c hh h2 fs2 y1 y2 y3))
      · exact And.intro rfl ((hP c hh))
    · refine And.intro (fun _ => ?_) (fun cz => absurd cz (c))
      exact And.intro rfl ((hY c))
  refine en_X12_thingNamed hX [48] 60 rfl ?_
  refine Exists.intro _ (And.intro hM.1 (Exists.intro _ (And.intro (hM.2.2 5 (by decide)) ?_)))
  refine Exists.intro _ (Exists.intro _ (And.intro a5 (And.intro (vp_in_nI (show j < 403 by omega) (by decide)) ?_)))
  rw [nI_clamp (show j < 2 ^ 31 by omega), e5]
  refine Exists.intro _ (And.intro hM.1 (Exists.intro 0 (Exists.intro 0 (And.intro (Nat.le_refl _) (And.intro (Nat.le_refl _) (m_inNm hX hM hN ?_))))))
  by_cases c1 : fdN nmI (vaN u n j) cI = -1
  · rw [c1]
    refine And.intro (fun cz => by first | exact absurd cz (by decide) | exact absurd (by decide) cz) (fun _ => ?_)
    refine Exists.intro _ (And.intro hM.1 (Exists.intro _ (And.intro (hM.2.2 5 (by decide)) ?_)))
    refine Exists.intro _ (Exists.intro _ (And.intro a5 (And.intro (vp_in_nI (show j < 403 by omega) (by decide)) ?_)))
    rw [nI_clamp (show j < 2 ^ 31 by omega), e5]
    refine Exists.intro _ (And.intro hM.1 (Exists.intro 0 (Exists.intro 0 (And.intro (Nat.le_refl _) (And.intro (Nat.le_refl _) (m_reNm hX hM hN ?_))))))
    by_cases c2 : fdN nmR (vaN u n j) cR = -1
    · rw [c2]
      refine And.intro (fun cz => by first | exact absurd cz (by decide) | exact absurd (by decide) cz) (fun _ => ?_)
      exact go_loc (lv' := [(2, .int (-1)), (0, .ref o), (1, .int (nI j))]) ⟨rfl, rfl, rfl, trivial⟩ (fin (-1) (by unfold thF; rw [if_pos c1, if_pos c2]))
    · refine And.intro (fun _ => ?_) (fun cz => absurd cz (c2))
      refine Exists.intro _ (And.intro hM.1 (Exists.intro _ (And.intro (hM.2.2 5 (by decide)) ?_)))
      refine Exists.intro _ (Exists.intro _ (And.intro a5 (And.intro (vp_in_nI (show j < 403 by omega) (by decide)) ?_)))
      rw [nI_clamp (show j < 2 ^ 31 by omega), e5]
      refine Exists.intro _ (And.intro hM.1 (Exists.intro 0 (Exists.intro 0 (And.intro (Nat.le_refl _) (And.intro (Nat.le_refl _) (m_reNm hX hM hN ?_))))))
      exact go_loc (lv' := [(2, .int (10 + fdN nmR (vaN u n j) cR)), (0, .ref o), (1, .int (nI j))]) ⟨rfl, rfl, rfl, trivial⟩ (fin _ (by unfold thF; rw [if_pos c1, if_neg c2]))
  · refine And.intro (fun _ => ?_) (fun cz => absurd cz (c1))
    exact go_loc (lv' := [(2, .int (fdN nmI (vaN u n j) cI)), (0, .ref o), (1, .int (nI j))]) ⟨rfl, rfl, rfl, trivial⟩ (fin _ (by unfold thF; rw [if_neg c1]))
