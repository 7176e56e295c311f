/-! the model reads: a unit of a circuit, by the machine that reads -/
def jsU : List Nat := [18, 19, 21, 22, 27, 29, 30]
theorem getD_last {L : List Nat} {x : Nat} : (L ++ [x]).getD L.length 0 = x := by
  rw [getD_app, if_neg (by omega), if_pos rfl]
theorem rwC.app {h1 : AH} {o b x v : Nat} {cv : Nat → Nat} {L : List Nat} {g : Nat → Int32} (hg : ∀ p, p < L.length → g (b + p) = nI (cv (L.getD p 0))) (h1e : h1 (o + 1 + 27) = some (.inl (0, 2100, .inl (upd g (b + L.length) (nI v))))) (hv : v = cv x) : rwC h1 o b cv (L ++ [x]) := by
  refine ⟨_, h1e, fun p hp => ?_⟩
  rw [List.length_append] at hp
  have hp : p < L.length + 1 := hp
  rw [getD_app]
  by_cases e : p = L.length
  · rw [e, pk_us, if_neg (by omega), if_pos rfl, hv]
  · rw [pk_un (by omega), if_pos (by omega)]
    exact hg p (by omega)
theorem cvB_k {kd : Nat → Nat} {j : Nat} (hT : zT (zz kd j) ≠ 10) : cvB kd (1000 + j) = zK (zz kd j) := by
  unfold cvB
  rw [if_neg (by omega), Nat.add_sub_cancel_left, if_neg hT]
theorem cvB_w {kd : Nat → Nat} {j : Nat} (hT : zT (zz kd j) = 10) : cvB kd (1000 + j) = 60 + (decide (zS (zz kd j) = 11)).toNat := by
  unfold cvB
  rw [if_neg (by omega), Nat.add_sub_cancel_left, if_pos hT]
theorem zK_lt {kd : Nat → Nat} (hkd : ∀ i, kd i < 19) {i j : Nat} (ha : ∀ q, q < j → zok kd q) (hi : i < j) (hc : zC (zz kd i) = true) (hk : kd i = 2) : zK (zz kd i) < zK (zz kd j) := by
  obtain ⟨s, hb, hs, hz, ho⟩ := zst hkd ha hi
  have h1 : zK (zz kd (i + 1)) = zK (zz kd i) + 1 := by rw [hz, zA_K, if_pos ⟨hc, hk⟩]
  have h2 := (z_mono hkd ha (show i + 1 ≤ j from hi) (Nat.le_refl j)).2.2.2.2
  omega
theorem wN_lt {kd : Nat → Nat} {i : Nat} (hw : wQ kd i = true) : ∀ {j : Nat}, i < j → wN kd i < wN kd j := fun {j} hij => by
  obtain ⟨m, rfl⟩ := Nat.exists_eq_add_of_lt hij
  induction m with
  | zero =>
    show wN kd i < wN kd i + (if wQ kd i = true then 1 else 0)
    rw [if_pos hw]
    exact Nat.lt_succ_self _
  | succ m ih =>
    have := ih (by omega)
    show wN kd i < wN kd (i + m + 1) + _
    omega
theorem wN_le1 (kd : Nat → Nat) : ∀ i, wN kd (i + 1) ≤ i
  | 0 => by
    show 0 + (if wQ kd 0 = true then 1 else 0) ≤ 0
    have e : wQ kd 0 = false := by
      unfold wQ zQ
      rw [show zS (zz kd 0) = 0 from rfl, decide_eq_false (show ¬ (0 : Nat) = 10 by decide), decide_eq_false (show ¬ (0 : Nat) = 11 by decide), Bool.or_false, Bool.and_false, Bool.false_and]
    rw [e, if_neg (by decide)]
    exact Nat.le_refl 0
  | i + 1 => by
    have := wN_le1 kd i
    show wN kd (i + 1) + _ ≤ i + 1
    split <;> omega
set_option maxHeartbeats 8000000 in
set_option maxHeartbeats 8000000 in
theorem m_unitZ {l : Launch} {G : GG} {h : AH} {nx : Nat} {Post : Option Value → AH → Nat → Prop} {o d n m N t sg wo : Nat} {wp ow : Int32} {u : Nat → Nat} {h0 : AH} {fs fs0 : List Value} (hX : XC G ∧ TX l G) (hS : MRs (kdN u n) o d h0 fs0 h fs t sg wo wp (cG (kdN u n) t).1 (cG (kdN u n) t).2) (hT : tokM h o u n m) (hu : ∀ i, u i < 256) (ht : t < m) (hm : m ≤ 401) (hE : tkEnd u n m) (hZ : zEnd (kdN u n) N) (ha : ∀ j, j < t → zok (kdN u n) j) (hs : zS (zz (kdN u n) t) = 10) (n17 : kdN u n t ≠ 17) (f20 : fs[20]? = some (.int (nI d))) (hd : d < 4) (how : (zT (zz (kdN u n) t) = 10 ∧ ow = -1) ∨ (zT (zz (kdN u n) t) ≠ 10 ∧ ow = nI (mOw (zz (kdN u n) t)) ∧ mOw (zz (kdN u n) t) < 16)) (hB : ∀ (h1 : AH) (fs1 : List Value), PFl h1 o fs1 (zFt (kdN u n) N) (plN u n N) → FRM o d h0 fs0 h1 fs1 → pfF fs fs1 → (∀ x, x ≠ o → (∀ j ∈ jsU, x ≠ o + 1 + j) → h1 x = h x) → Post none h1 nx) (hP : ∀ (t' : Nat) (h1 : AH) (fs1 : List Value), t < t' → t' < m → (∀ j, j < t' → zok (kdN u n) j) → inC (kdN u n) t t' → zS (zz (kdN u n) t') = 12 → MRs (kdN u n) o d h0 fs0 h1 fs1 t' sg wo wp (cG (kdN u n) t').1 (cG (kdN u n) t').2 → pfF fs fs1 → (∀ x, x ≠ o → (∀ j ∈ jsU, x ≠ o + 1 + j) → h1 x = h x) → Post none h1 nx) : Runs l G i_X12_unit 0 0 [.ref o, .int ow] h nx Post := by
  have hkd := kdN_lt hu n
  obtain ⟨P, F, K0, ⟨g31, r31, q31⟩, ⟨g27, r27, q27⟩⟩ := hS
  obtain ⟨g18, g19, g21, g22, g29, g30, r18, r19, r21, r22, r29, r30, k1, k2, k3⟩ := id K0
  have w := cG_w hkd ha
  have w4 := w.2.2.2
  have hz := zW_all hkd ha
  have hK40 : zK (zz (kdN u n) t) ≤ 40 := hz.2.2.2.2.2.2.2.1
  have hcd : 420 * d + (cG (kdN u n) t).2.length < 2100 := by omega
  -- behind the name at token j
  have fin : ∀ (b : Bool) (j : Nat), unA (kdN u n) t j b → kdN u n j = 2 → j < 400 → (zC (zz (kdN u n) j) = true → zK (zz (kdN u n) j) < 40) → j < m → (∀ i, i < j + 1 → zok (kdN u n) i) ∧ inC (kdN u n) t (j + 1) ∧ zS (zz (kdN u n) (j + 1)) = 12 ∧ j + 1 < m ∧ t ≤ j ∧ b = decide (zS (zz (kdN u n) j) = 11) ∧ cG (kdN u n) j = cG (kdN u n) t ∧ cG (kdN u n) (j + 1) = ((cG (kdN u n) t).1, (cG (kdN u n) t).2 ++ [1000 + j]) ∧ zT (zz (kdN u n) j) = zT (zz (kdN u n) t) ∧ mOw (zz (kdN u n) j) = mOw (zz (kdN u n) t) ∧ wN (kdN u n) j = wN (kdN u n) t ∧ zK (zz (kdN u n) j) = zK (zz (kdN u n) t) ∧ zK (zz (kdN u n) (j + 1)) = (if zC (zz (kdN u n) j) = true then zK (zz (kdN u n) j) + 1 else zK (zz (kdN u n) j)) ∧ wN (kdN u n) (j + 1) = wN (kdN u n) j + (if zT (zz (kdN u n) j) = 10 then 1 else 0) ∧ (∀ i, t ≤ i → i < j → wQ (kdN u n) i = false ∧ ¬ (zC (zz (kdN u n) i) = true ∧ kdN u n i = 2)) ∧ (zS (zz (kdN u n) j) = 10 ∨ zS (zz (kdN u n) j) = 11) := by
    intro b j hA hk h4 hK hj
    obtain ⟨a1, a2, a3, a4, a5, a6, a7, a8, a9⟩ := un_at hkd hZ ha hs hA
    obtain ⟨_, b0⟩ := un_go hkd hZ a1 a3 hk
    obtain ⟨b1, b2, b3, b4, b5, b6, b7, b8⟩ := b0 h4 hK
    obtain ⟨c1, c2, c3, c4, c5⟩ := a5.z hkd a1 a2 (Nat.le_refl j)
    refine ⟨b2, a5.app b5, b3, hE.s hj (by omega) h4, a2, a4, a7, by rw [b6, a7], c1, ?_, a8, a9, b7, b8, fun i h1 h2 => ?_, a3⟩
    · unfold mOw
      rw [c1, c3, c4]
    · have e2 : kdN u n i ≠ 2 := by
        rcases hA with ⟨_, x1, x2, x3⟩ | ⟨_, x1, x2⟩
        · have : i = t := by omega
          rw [this]; omega
        · omega
      refine ⟨?_, fun z => e2 z.2⟩
      unfold wQ zQ
      rw [decide_eq_false e2, Bool.false_and, Bool.false_and]
  have flt : ∀ {j f : Nat} {h1 : AH} {fs1 : List Value}, (unF (kdN u n) t j f ∨ ∃ b, unA (kdN u n) t j b ∧ kdN u n j = 2 ∧ (j = 400 ∨ (zC (zz (kdN u n) j) = true ∧ 40 ≤ zK (zz (kdN u n) j))) ∧ f = 2) → PFl h1 o fs1 f (plN u n j) → PFl h1 o fs1 (zFt (kdN u n) N) (plN u n N) := by
    intro j f h1 fs1 hh hp
    have : N = j ∧ zFt (kdN u n) N = f := by
      rcases hh with x | ⟨b, x1, x2, x3, x4⟩
      · exact un_tie hkd hZ ha hs n17 x
      · obtain ⟨a1, a2, a3, _⟩ := un_at hkd hZ ha hs x1
        obtain ⟨c1, c2⟩ := (un_go hkd hZ a1 a3 x2).1 x3
        exact ⟨c1, c2.trans x4.symm⟩
    rw [this.2, this.1]
    exact hp
  rcases how with ⟨hT10, rfl⟩ | ⟨hT10, rfl, how⟩
  · have zc0 : ∀ {j b}, unA (kdN u n) t j b → zC (zz (kdN u n) j) = false := fun {j b} hA => by
      obtain ⟨a1, a2, a3, a4, a5, _⟩ := un_at hkd hZ ha hs hA
      have e := (a5.z hkd a1 a2 (Nat.le_refl j)).1
      unfold zC
      rw [decide_eq_false (p := zT (zz (kdN u n) j) ≠ 10) (fun z => z (e.trans hT10)), Bool.and_false]
    have wl : wN (kdN u n) t < 400 := by
      have t0 : t ≠ 0 := fun e => by
        rw [e] at hs
        exact absurd (show zS z0 = 10 from hs) (by decide)
      have := wN_le1 (kdN u n) (t - 1)
      rw [show t - 1 + 1 = t by omega] at this
      omega
    refine m_unitW hX P hT hu ht hm hE r29 r30 r27 (by omega) hcd (fun j f h1 fs1 x1 x2 x3 x4 => ?_) (fun b j h1 fs1 x1 x2 x3 x4 x5 x6 x7 x8 x9 => ?_)
    · refine hB h1 fs1 (flt (x1.imp id (fun ⟨b, y1, y2, y3, y4⟩ => ⟨b, y1, y2, Or.inl y3, y4⟩)) x2) ?_ x3 ?_
      · rcases x4 with x4 | ⟨x4, v, x5⟩
        · exact F.ob x3 x4
        · refine F.up [27, 29, 30] x3 (fun x y1 y2 => x4 x y1 (y2 27 (by decide)) (y2 29 (by decide)) (y2 30 (by decide))) ⟨⟨by decide, by decide, fun _ => rowZ.u r27 x5 (show 420 * d ≤ _ by omega)⟩, ⟨by decide, by decide, fun z => absurd z (by decide)⟩, ⟨by decide, by decide, fun z => absurd z (by decide)⟩, True.intro⟩
      · intro x y1 y2
        rcases x4 with x4 | ⟨x4, _⟩
        · exact x4 x y1
        · exact x4 x y1 (y2 27 (by decide)) (y2 29 (by decide)) (y2 30 (by decide))
    · have zc := zc0 x1
      have hjm : j < m := by
        rcases hE with e | ⟨e, e1, e2⟩
        · omega
        · rcases x1 with ⟨_, y1, y2, y3⟩ | ⟨_, y1, y2⟩
          · have : t ≠ e := fun z => by rw [← z] at e2; omega
            omega
          · omega
      obtain ⟨a1, a2, a3, a4, a5, a6, a7, a8, a9, a10, a11, a12, a13, a14, a15, a16⟩ := fin b j x1 x2 x3 (fun z => by rw [zc] at z; cases z) hjm
      have wQj : wQ (kdN u n) j = true := by
        unfold wQ zQ
        rw [decide_eq_true x2, Bool.true_and, decide_eq_true (a9.trans hT10), Bool.and_true]
        rcases a16 with z | z
        · rw [decide_eq_true z]; rfl
        · rw [decide_eq_true z, Bool.or_true]
      rw [if_pos (a9.trans hT10), a11] at a14
      rw [zc, if_neg (by decide), a12] at a13
      refine hP (j + 1) h1 fs1 (by omega) a4 a1 a2 a3 ⟨?_, ?_, ?_, ⟨g31, (x6 _ (by omega) (by omega) (by omega) (by omega)).trans r31, ?_⟩, ?_⟩ x5 (fun x y1 y2 => x6 x y1 (y2 27 (by decide)) (y2 29 (by decide)) (y2 30 (by decide)))
      · rw [a8, a14]
        show PRs h1 o fs1 ((j + 1, opC (cG (kdN u n) t).1, 420 * d + ((cG (kdN u n) t).2 ++ [1000 + j]).length, 420 * d + sg), (wN (kdN u n) t + 1, (cG (kdN u n) t).1.length, wo, wp))
        rw [List.length_append]
        exact x4
      · refine F.up [27, 29, 30] x5 (fun x y1 y2 => x6 x y1 (y2 27 (by decide)) (y2 29 (by decide)) (y2 30 (by decide))) ⟨⟨by decide, by decide, fun _ => rowZ.u r27 x7 (show 420 * d ≤ _ by omega)⟩, ⟨by decide, by decide, fun z => absurd z (by decide)⟩, ⟨by decide, by decide, fun z => absurd z (by decide)⟩, True.intro⟩
      · refine ⟨g18, g19, g21, g22, _, _, (x6 _ (by omega) (by omega) (by omega) (by omega)).trans r18, (x6 _ (by omega) (by omega) (by omega) (by omega)).trans r19, (x6 _ (by omega) (by omega) (by omega) (by omega)).trans r21, (x6 _ (by omega) (by omega) (by omega) (by omega)).trans r22, x8, x9, by rw [a13]; exact k1, fun i hi hc hk => ?_, fun i hi hw => ?_⟩
        · rcases Nat.lt_or_ge i t with z | z
          · exact k2 i z hc hk
          · by_cases e : i = j
            · rw [e, zc] at hc; cases hc
            · exact absurd ⟨hc, hk⟩ (a15 i z (by omega)).2
        · by_cases e : i = j
          · rw [e, a11, pk_us, pk_us, a7]
            exact ⟨rfl, rfl⟩
          · have hit : i < t := by
              rcases Nat.lt_or_ge i t with z | z
              · exact z
              · have := (a15 i z (by omega)).1
                rw [this] at hw; cases hw
            have hl := wN_lt hw hit
            rw [pk_un (by omega), pk_un (by omega)]
            exact k3 i hit hw
      · rw [a8]; exact q31
      · rw [a8]
        exact rwC.app q27 x7 (by rw [cvB_w (a9.trans hT10), a6])
  · have zc1 : ∀ {j b}, unA (kdN u n) t j b → zC (zz (kdN u n) j) = true ∧ zK (zz (kdN u n) j) = zK (zz (kdN u n) t) := fun {j b} hA => by
      obtain ⟨a1, a2, a3, a4, a5, a6, a7, a8, a9⟩ := un_at hkd hZ ha hs hA
      have e := (a5.z hkd a1 a2 (Nat.le_refl j)).1
      exact ⟨zC_of a3 (by rw [e]; exact hT10), a9⟩
    refine m_unitC hX P hT hu ht hm hE how f20 (by omega) r18 k1 hK40 r19 r21 r22 r27 hcd (fun j f h1 fs1 x1 x2 x3 x4 => ?_) (fun b j h1 fs1 x1 x2 x3 x4 x5 x6 x7 x8 x9 x10 x11 x12 => ?_)
    · refine hB h1 fs1 (flt (x1.imp id (fun ⟨b, y1, y2, y3, y4⟩ => ⟨b, y1, y2, y3.symm.imp id (fun z => ⟨(zc1 y1).1, by rw [(zc1 y1).2]; omega⟩), y4⟩)) x2) ?_ x3 ?_
      · rcases x4 with x4 | ⟨x0, x4, b, x5, x6, x7, x8, x9⟩
        · exact F.ob x3 x4
        · refine F.up [18, 19, 21, 22, 27] x3 (fun x y1 y2 => x4 x y1 (y2 18 (by decide)) (y2 19 (by decide)) (y2 21 (by decide)) (y2 22 (by decide)) (y2 27 (by decide))) ⟨⟨by decide, by decide, fun _ => rowZ.u r18 x5 (show 1 * d ≤ d by omega)⟩, ⟨by decide, by decide, fun _ => rowZ.u r19 x6 (show 40 * d ≤ _ by omega)⟩, ⟨by decide, by decide, fun _ => rowZ.u r21 x7 (show 40 * d ≤ _ by omega)⟩, ⟨by decide, by decide, fun _ => rowZ.u r22 x8 (show 40 * d ≤ _ by omega)⟩, ⟨by decide, by decide, fun _ => rowZ.u r27 x9 (show 420 * d ≤ _ by omega)⟩, True.intro⟩
      · intro x y1 y2
        rcases x4 with x4 | ⟨_, x4, _⟩
        · exact x4 x y1
        · exact x4 x y1 (y2 18 (by decide)) (y2 19 (by decide)) (y2 21 (by decide)) (y2 22 (by decide)) (y2 27 (by decide))
    · obtain ⟨zc, zk⟩ := zc1 x1
      have hjm : j < m := by
        rcases hE with e | ⟨e, e1, e2⟩
        · omega
        · rcases x1 with ⟨_, y1, y2, y3⟩ | ⟨_, y1, y2⟩
          · have : t ≠ e := fun z => by rw [← z] at e2; omega
            omega
          · omega
      obtain ⟨a1, a2, a3, a4, a5, a6, a7, a8, a9, a10, a11, a12, a13, a14, a15, a16⟩ := fin b j x1 x2 x4 (fun _ => by rw [zk]; exact x3) hjm
      have nT : zT (zz (kdN u n) j) ≠ 10 := by rw [a9]; exact hT10
      have wQj : wQ (kdN u n) j = false := by
        unfold wQ
        rw [decide_eq_false nT, Bool.and_false]
      rw [if_neg nT, a11] at a14
      rw [if_pos zc, a12] at a13
      have fr : ∀ x, x ≠ o → (∀ k ∈ [18, 19, 21, 22, 27], x ≠ o + 1 + k) → h1 x = h x := fun x y1 y2 => x7 x y1 (y2 18 (by decide)) (y2 19 (by decide)) (y2 21 (by decide)) (y2 22 (by decide)) (y2 27 (by decide))
      refine hP (j + 1) h1 fs1 (by omega) a4 a1 a2 a3 ⟨?_, ?_, ?_, ⟨g31, (x7 _ (by omega) (by omega) (by omega) (by omega) (by omega) (by omega)).trans r31, ?_⟩, ?_⟩ x6 (fun x y1 y2 => x7 x y1 (y2 18 (by decide)) (y2 19 (by decide)) (y2 21 (by decide)) (y2 22 (by decide)) (y2 27 (by decide)))
      · rw [a8, a14]
        show PRs h1 o fs1 ((j + 1, opC (cG (kdN u n) t).1, 420 * d + ((cG (kdN u n) t).2 ++ [1000 + j]).length, 420 * d + sg), (wN (kdN u n) t + 0, (cG (kdN u n) t).1.length, wo, wp))
        rw [List.length_append]
        exact x5
      · refine F.up [18, 19, 21, 22, 27] x6 fr ⟨⟨by decide, by decide, fun _ => rowZ.u r18 x8 (show 1 * d ≤ d by omega)⟩, ⟨by decide, by decide, fun _ => rowZ.u r19 x9 (show 40 * d ≤ _ by omega)⟩, ⟨by decide, by decide, fun _ => rowZ.u r21 x10 (show 40 * d ≤ _ by omega)⟩, ⟨by decide, by decide, fun _ => rowZ.u r22 x11 (show 40 * d ≤ _ by omega)⟩, ⟨by decide, by decide, fun _ => rowZ.u r27 x12 (show 420 * d ≤ _ by omega)⟩, True.intro⟩
      · refine ⟨_, _, _, _, g29, g30, x8, x9, x10, x11, (x7 _ (by omega) (by omega) (by omega) (by omega) (by omega) (by omega)).trans r29, (x7 _ (by omega) (by omega) (by omega) (by omega) (by omega) (by omega)).trans r30, by rw [a13]; exact pk_us, fun i hi hc hk => ?_, fun i hi hw => ?_⟩
        · by_cases e : i = j
          · rw [e, zk, pk_us, pk_us, pk_us, a10, a6]
            exact ⟨rfl, rfl, rfl⟩
          · have hit : i < t := by
              rcases Nat.lt_or_ge i t with z | z
              · exact z
              · exact absurd ⟨hc, hk⟩ (a15 i z (by omega)).2
            have hl := zK_lt hkd ha hit hc hk
            rw [pk_un (by omega), pk_un (by omega), pk_un (by omega)]
            exact k2 i hit hc hk
        · by_cases e : i = j
          · rw [e, wQj] at hw; cases hw
          · have hit : i < t := by
              rcases Nat.lt_or_ge i t with z | z
              · exact z
              · have := (a15 i z (by omega)).1
                rw [this] at hw; cases hw
            exact k3 i hit hw
      · rw [a8]; exact q31
      · rw [a8]
        exact rwC.app q27 x12 (by rw [cvB_k nT, zk])
