/-! the model reads: a statement; all statements -/
theorem zB0_n {d k : Nat} (h : ¬ (k = 4 ∨ k = 5) ∧ k ≠ 6 ∧ ¬ (k = 8 ∨ k = 9) ∧ k ≠ 10) : zB 0 d k = none := by
  show (if k = 4 ∨ k = 5 then some 1 else if k = 6 then some 3 else if k = 8 ∨ k = 9 then some 7 else if k = 10 then some 8 else (none : Option Nat)) = none
  rw [if_neg h.1, if_neg h.2.1, if_neg h.2.2.1, if_neg h.2.2.2]
set_option maxHeartbeats 16000000 in
set_option maxHeartbeats 8000000 in
theorem m_tellZ {l : Launch} {G : GG} {h : AH} {nx : Nat} {Post : Option Value → AH → Nat → Prop} {o d n m N t : Nat} {u : Nat → Nat} {h0 : AH} {fs fs0 : List Value} (hX : XC G ∧ TX l G) (hS : BSt u n o d N h0 fs0 h fs t) (hT : tokM h o u n m) (hu : ∀ i, u i < 256) (ht : t < m) (hm : m ≤ 401) (hn : n ≤ 2000) (hE : tkEnd u n m) (hZ : zEnd (kdN u n) N) (hX0 : TXT (kdN u n) t) (hk0 : kdN u n t ≠ 0) (f20 : fs0[20]? = some (.int (nI d))) (hd : d < 4) (hB : ∀ (h1 : AH) (fs1 : List Value), PFl h1 o fs1 (zFt (kdN u n) N) (plN u n N) → FRM o d h0 fs0 h1 fs1 → Post none h1 nx) (hP : ∀ (t2 : Nat) (h1 : AH) (fs1 : List Value), t < t2 → t2 < m → TXT (kdN u n) t2 → BSt u n o d N h0 fs0 h1 fs1 t2 → tokM h1 o u n m → Post none h1 nx) : Runs l G i_X12_tell 0 0 [.ref o] h nx Post := by
  have hkd := kdN_lt hu n
  obtain ⟨⟨wo, wp, M, W⟩, s1, s2, s3, s4, s5⟩ := id hS
  obtain ⟨⟨wg, P⟩, F, K0, C0⟩ := id M
  obtain ⟨q2, q3, q4, q5, b2, b3, b4, b5, p⟩ := id hT
  have e20 : fs[20]? = some (.int (nI d)) := (F.1 20 (by omega)).trans f20
  have z0 : zS (zz (kdN u n) t) = 0 := hX0.2.2
  have ha := hX0.2.1
  obtain ⟨_, _, _, w4, w5, w6, w7, _⟩ := zW_all hkd ha
  have hd5 : d < 5 := by omega
  have c11 : fs[11]? = some (.int (nI t)) := P.2.2.2.1
  have hkm : ∀ k, k < 19 → nI (mkK (kdN u n t)) = nI (mkK k) → kdN u n t = k := fun k hk e => mkK_inj _ (hkd t) k hk ((nI_eq (by have := mkK_lt _ (hkd t); omega) (by have := mkK_lt k hk; omega)).mp e)
  have full : ∀ {s : Nat}, zB (zS (zz (kdN u n) t)) (zD (zz (kdN u n) t)) (kdN u n t) = some s → zO (zz (kdN u n) t) (kdN u n t) = true → ∀ {h2 : AH} {fs2 : List Value}, PFl h2 o fs2 2 (plN u n t) → pfF fs fs2 → (∀ x, x ≠ o → h2 x = h x) → Post none h2 nx := fun hb hO h2 fs2 x1 x2 x3 => by
    obtain ⟨y1, y2⟩ := stop_2 hkd hZ ha hb (Or.inr hO)
    exact hB h2 fs2 (by rw [y2, y1]; exact x1) (F.ob x2 x3)
  have at52 : kdN u n t = 4 ∨ kdN u n t = 5 → Go l G 12 s_X12_tell 0 0 Post 52 [(0, .ref o)] [] h nx 0 0 := by
    intro hk
    obtain ⟨g7, g8, k8, g9, a1, a2, a3, a4, a5, a6, a7⟩ := id s1
    have b0 : zB (zS (zz (kdN u n) t)) (zD (zz (kdN u n) t)) (kdN u n t) = some 1 := by
      rw [z0]
      rcases hk with e | e <;> rw [e] <;> rfl
    refine Go.of hX.2 ck_X12_tell [] 40 ?_
    refine Exists.intro _ (And.intro P.1.1 (Exists.intro _ (And.intro (P.1.2.2 7 (by decide)) ?_)))
    refine Exists.intro _ (And.intro P.1.1 (Exists.intro _ (And.intro e20 ?_)))
    refine Exists.intro _ (Exists.intro _ (And.intro a1 (And.intro (vp_in_nI hd5 (by decide)) ?_)))
    rw [nI_clamp (show d < 2 ^ 31 by omega), a5]
    by_cases c : zI (zz (kdN u n) t) = 5
    · refine And.intro (fun cz => absurd (show nI (zI (zz (kdN u n) t)) = 5 from by rw [c]; rfl) cz) (fun _ => ?_)
      refine Exists.intro _ (And.intro P.1.1 (Exists.intro 0 (Exists.intro 0 (And.intro (Nat.le_refl _) (And.intro (Nat.le_refl _) (m_fail (f := 2) hX P hT ht hm (by decide) (fun h2 fs2 x1 x2 x3 => ?_)))))))
      refine Exists.intro _ (And.intro x1.1.1 (Exists.intro _ (And.intro x1.2.2.1 ?_)))
      refine And.intro (fun _ => ?_) (fun cz => absurd cz ((show ¬ nI 2 = 0 from by decide)))
      refine full b0 ?_ x1 x2 x3
      have : decide (5 ≤ zI (zz (kdN u n) t)) = true := decide_eq_true (by omega)
      rcases hk with e | e <;> rw [e] <;> exact this
    · refine And.intro (fun _ => ?_) (fun cz => absurd cz (fun z => c ((nI_eq (a := zI (zz (kdN u n) t)) (b := 5) (by omega) (by omega)).mp z)))
      refine Exists.intro _ (And.intro P.1.1 (Exists.intro _ (And.intro P.2.2.1 ?_)))
      refine And.intro (fun cz => by first | exact absurd cz (by decide) | exact absurd (by decide) cz) (fun _ => ?_)
      refine Exists.intro _ (And.intro P.1.1 (Exists.intro 0 (Exists.intro 0 (And.intro (Nat.le_refl _) (And.intro (Nat.le_refl _) (m_tellInputZ hX hS hT hu ht hm hn hE hZ hX0 hk (by omega) f20 hd hB (fun t2 h1 fs1 x1 x2 x3 x4 x5 => ?_)))))))
      exact hP t2 h1 fs1 x1 x2 x3 x4 x5
  have at117 : kdN u n t = 8 ∨ kdN u n t = 9 → Go l G 12 s_X12_tell 0 0 Post 117 [(0, .ref o)] [] h nx 0 0 := by
    intro hk
    obtain ⟨g13, g14, g15, a1, a2, a3, a5, _⟩ := id s3
    have b0 : zB (zS (zz (kdN u n) t)) (zD (zz (kdN u n) t)) (kdN u n t) = some 7 := by
      rw [z0]
      rcases hk with e | e <;> rw [e] <;> rfl
    refine Go.of hX.2 ck_X12_tell [] 40 ?_
    refine Exists.intro _ (And.intro P.1.1 (Exists.intro _ (And.intro (P.1.2.2 13 (by decide)) ?_)))
    refine Exists.intro _ (And.intro P.1.1 (Exists.intro _ (And.intro e20 ?_)))
    refine Exists.intro _ (Exists.intro _ (And.intro a1 (And.intro (vp_in_nI hd5 (by decide)) ?_)))
    rw [nI_clamp (show d < 2 ^ 31 by omega), a5]
    by_cases c : zL (zz (kdN u n) t) = 5
    · refine And.intro (fun cz => absurd (show nI (zL (zz (kdN u n) t)) = 5 from by rw [c]; rfl) cz) (fun _ => ?_)
      refine Exists.intro _ (And.intro P.1.1 (Exists.intro 0 (Exists.intro 0 (And.intro (Nat.le_refl _) (And.intro (Nat.le_refl _) (m_fail (f := 2) hX P hT ht hm (by decide) (fun h2 fs2 x1 x2 x3 => ?_)))))))
      refine Exists.intro _ (And.intro x1.1.1 (Exists.intro _ (And.intro x1.2.2.1 ?_)))
      refine And.intro (fun _ => ?_) (fun cz => absurd cz ((show ¬ nI 2 = 0 from by decide)))
      refine full b0 ?_ x1 x2 x3
      have : decide (5 ≤ zL (zz (kdN u n) t)) = true := decide_eq_true (by omega)
      rcases hk with e | e <;> rw [e] <;> exact this
    · refine And.intro (fun _ => ?_) (fun cz => absurd cz (fun z => c ((nI_eq (a := zL (zz (kdN u n) t)) (b := 5) (by omega) (by omega)).mp z)))
      refine Exists.intro _ (And.intro P.1.1 (Exists.intro _ (And.intro P.2.2.1 ?_)))
      refine And.intro (fun cz => by first | exact absurd cz (by decide) | exact absurd (by decide) cz) (fun _ => ?_)
      refine Exists.intro _ (And.intro P.1.1 (Exists.intro 0 (Exists.intro 0 (And.intro (Nat.le_refl _) (And.intro (Nat.le_refl _) (m_tellLampZ hX hS hT hu ht hm hn hE hZ hX0 hk (by omega) f20 hd hB (fun t2 h1 fs1 x1 x2 x3 x4 x5 => ?_)))))))
      exact hP t2 h1 fs1 x1 x2 x3 x4 x5
  refine en_X12_tell hX [52, 117] 60 rfl ?_
  refine Exists.intro _ (And.intro P.1.1 (Exists.intro _ (And.intro (P.1.2.2 2 (by decide)) ?_)))
  refine Exists.intro _ (And.intro P.1.1 (Exists.intro _ (And.intro c11 ?_)))
  refine Exists.intro _ (Exists.intro _ (And.intro b2 (And.intro (vp_in_nI (show t < 403 by omega) (by decide)) ?_)))
  rw [nI_clamp (show t < 2 ^ 31 by omega), (p t ht).1]
  refine And.intro (fun hdd => ?_) (And.intro (fun q0 => ?_) (And.intro (fun q0 => ?_) (And.intro (fun q0 => ?_) (And.intro (fun q0 => ?_) (And.intro (fun q0 => ?_) (And.intro (fun q0 => ?_) (And.intro (fun q0 => ?_) trivial)))))))
  · rw [nI_toInt (by have := mkK_lt _ (hkd t); omega)] at hdd
    have hno : ¬ (kdN u n t = 4 ∨ kdN u n t = 5) ∧ kdN u n t ≠ 6 ∧ ¬ (kdN u n t = 8 ∨ kdN u n t = 9) ∧ kdN u n t ≠ 10 := by
      have e4 : mkK 4 = 20 := rfl
      have e5 : mkK 5 = 21 := rfl
      have e6 : mkK 6 = 22 := rfl
      have e8 : mkK 8 = 24 := rfl
      have e9 : mkK 9 = 25 := rfl
      have e10 : mkK 10 = 26 := rfl
      refine ⟨fun z => ?_, fun z => ?_, fun z => ?_, fun z => ?_⟩
      · rcases z with z | z <;> rw [z] at hdd <;> omega
      · rw [z] at hdd; omega
      · rcases z with z | z <;> rw [z] at hdd <;> omega
      · rw [z] at hdd; omega
    obtain ⟨y1, y2⟩ := stop_1 hkd hZ ha (by rw [z0]; exact zB0_n hno) (fun z => absurd z hk0)
    refine Exists.intro _ (And.intro P.1.1 (Exists.intro 0 (Exists.intro 0 (And.intro (Nat.le_refl _) (And.intro (Nat.le_refl _) (m_fail (f := 1) hX P hT ht hm (by decide) (fun h2 fs2 x1 x2 x3 => ?_)))))))
    exact hB h2 fs2 (by rw [y2, y1]; exact x1) (F.ob x2 x3)
  · exact go_loc (lv' := [(0, .ref o)]) ⟨rfl, trivial⟩ (at52 (Or.inl (hkm 4 (by decide) (q0.trans (by decide)))))
  · exact go_loc (lv' := [(0, .ref o)]) ⟨rfl, trivial⟩ (at52 (Or.inr (hkm 5 (by decide) (q0.trans (by decide)))))
  · have hk := hkm 6 (by decide) (q0.trans (by decide))
    obtain ⟨g10, g11, g12, a1, a2, a3, a5, _⟩ := id s2
    have b0 : zB (zS (zz (kdN u n) t)) (zD (zz (kdN u n) t)) (kdN u n t) = some 3 := by rw [z0, hk]; rfl
    refine Exists.intro _ (And.intro P.1.1 (Exists.intro _ (And.intro (P.1.2.2 10 (by decide)) ?_)))
    refine Exists.intro _ (And.intro P.1.1 (Exists.intro _ (And.intro e20 ?_)))
    refine Exists.intro _ (Exists.intro _ (And.intro a1 (And.intro (vp_in_nI hd5 (by decide)) ?_)))
    rw [nI_clamp (show d < 2 ^ 31 by omega), a5]
    by_cases c : zR (zz (kdN u n) t) = 6
    · refine And.intro (fun cz => absurd (show nI (zR (zz (kdN u n) t)) = 6 from by rw [c]; rfl) cz) (fun _ => ?_)
      refine Exists.intro _ (And.intro P.1.1 (Exists.intro 0 (Exists.intro 0 (And.intro (Nat.le_refl _) (And.intro (Nat.le_refl _) (m_fail (f := 2) hX P hT ht hm (by decide) (fun h2 fs2 x1 x2 x3 => ?_)))))))
      refine Exists.intro _ (And.intro x1.1.1 (Exists.intro _ (And.intro x1.2.2.1 ?_)))
      refine And.intro (fun _ => ?_) (fun cz => absurd cz ((show ¬ nI 2 = 0 from by decide)))
      refine full b0 ?_ x1 x2 x3
      rw [hk]
      exact decide_eq_true (p := 6 ≤ zR (zz (kdN u n) t)) (by omega)
    · refine And.intro (fun _ => ?_) (fun cz => absurd cz (fun z => c ((nI_eq (a := zR (zz (kdN u n) t)) (b := 6) (by omega) (by omega)).mp z)))
      refine Exists.intro _ (And.intro P.1.1 (Exists.intro _ (And.intro P.2.2.1 ?_)))
      refine And.intro (fun cz => by first | exact absurd cz (by decide) | exact absurd (by decide) cz) (fun _ => ?_)
      refine Exists.intro _ (And.intro P.1.1 (Exists.intro 0 (Exists.intro 0 (And.intro (Nat.le_refl _) (And.intro (Nat.le_refl _) (m_tellRelayZ hX hS hT hu ht hm hn hE hZ hX0 hk (by omega) f20 hd hB (fun t2 h1 fs1 x1 x2 x3 x4 x5 => ?_)))))))
      exact hP t2 h1 fs1 x1 x2 x3 x4 x5
  · have hk := hkm 7 (by decide) (q0.trans (by decide))
    obtain ⟨y1, y2⟩ := stop_1 hkd hZ ha (by rw [z0]; exact zB0_n (by omega)) (fun z => absurd z hk0)
    refine Exists.intro _ (And.intro P.1.1 (Exists.intro 0 (Exists.intro 0 (And.intro (Nat.le_refl _) (And.intro (Nat.le_refl _) (m_fail (f := 1) hX P hT ht hm (by decide) (fun h2 fs2 x1 x2 x3 => ?_)))))))
    exact hB h2 fs2 (by rw [y2, y1]; exact x1) (F.ob x2 x3)
  · exact go_loc (lv' := [(0, .ref o)]) ⟨rfl, trivial⟩ (at117 (Or.inl (hkm 8 (by decide) (q0.trans (by decide)))))
  · exact go_loc (lv' := [(0, .ref o)]) ⟨rfl, trivial⟩ (at117 (Or.inr (hkm 9 (by decide) (q0.trans (by decide)))))
  · have hk := hkm 10 (by decide) (q0.trans (by decide))
    obtain ⟨g16, g17, a1, a2, a5, _⟩ := id s4
    have b0 : zB (zS (zz (kdN u n) t)) (zD (zz (kdN u n) t)) (kdN u n t) = some 8 := by rw [z0, hk]; rfl
    refine Exists.intro _ (And.intro P.1.1 (Exists.intro _ (And.intro (P.1.2.2 16 (by decide)) ?_)))
    refine Exists.intro _ (And.intro P.1.1 (Exists.intro _ (And.intro e20 ?_)))
    refine Exists.intro _ (Exists.intro _ (And.intro a1 (And.intro (vp_in_nI hd5 (by decide)) ?_)))
    rw [nI_clamp (show d < 2 ^ 31 by omega), a5]
    by_cases c : zV (zz (kdN u n) t) = 6
    · refine And.intro (fun cz => absurd (show nI (zV (zz (kdN u n) t)) = 6 from by rw [c]; rfl) cz) (fun _ => ?_)
      refine Exists.intro _ (And.intro P.1.1 (Exists.intro 0 (Exists.intro 0 (And.intro (Nat.le_refl _) (And.intro (Nat.le_refl _) (m_fail (f := 2) hX P hT ht hm (by decide) (fun h2 fs2 x1 x2 x3 => ?_)))))))
      refine Exists.intro _ (And.intro x1.1.1 (Exists.intro _ (And.intro x1.2.2.1 ?_)))
      refine And.intro (fun _ => ?_) (fun cz => absurd cz ((show ¬ nI 2 = 0 from by decide)))
      refine full b0 ?_ x1 x2 x3
      rw [hk]
      exact decide_eq_true (p := 6 ≤ zV (zz (kdN u n) t)) (by omega)
    · refine And.intro (fun _ => ?_) (fun cz => absurd cz (fun z => c ((nI_eq (a := zV (zz (kdN u n) t)) (b := 6) (by omega) (by omega)).mp z)))
      refine Exists.intro _ (And.intro P.1.1 (Exists.intro _ (And.intro P.2.2.1 ?_)))
      refine And.intro (fun cz => by first | exact absurd cz (by decide) | exact absurd (by decide) cz) (fun _ => ?_)
      refine Exists.intro _ (And.intro P.1.1 (Exists.intro 0 (Exists.intro 0 (And.intro (Nat.le_refl _) (And.intro (Nat.le_refl _) (m_tellNeverZ hX hS hT hu ht hm hn hE hZ hX0 hk (by omega) f20 hd hB (fun t2 h1 fs1 x1 x2 x3 x4 x5 => ?_)))))))
      exact hP t2 h1 fs1 x1 x2 x3 x4 x5
