/-! the law from its entry -/
set_option maxRecDepth 16000 in
/-- the law's end at its loop's head, the script through -/
theorem hd_end {l : Launch} {G : GG} {p : Program} {e : Env} {s : State} {m : MethodId} {b L : Nat} {xs : Nat → Int32} {below : List Frame} {meth : Method} {c : Code} (hT : TX l G) (C : Cx G p room_1 s m #[Value.ref b] meth c 13 s_law 330716 8110100) (hA : ∀ q, G.2.2.1 q → s.heap.size ≤ q) (hXs : va_X b L xs s s.heap) (hbl : b < s.heap.size) (hbA : ¬ G.2.2.1 b) {ox om h nx k n} {i : Int32} (hi : ¬ i ≤ nI L - 6) (hk : k ≤ 330716) (hn : n ≤ 8110100) : HD l G p e s m b below meth c ox om i h nx k n := by
  unfold HD
  refine GoS.of hT C hA hXs hbl hbA [] 40 ?_
  refine And.intro rfl ?_
  refine And.intro (fun _ => ?_) (fun cz => absurd (Int32.not_le.mp hi) cz)
  exact ⟨rfl, rfl⟩
theorem WLD.stay {h : AH} {nx o w om j k n : Nat} (hW : WLD h nx o w om j k n) : WLD h nx o w om (j + 1) k n := by
  obtain ⟨tl, c, vb, sb, q, fp, ah, da, dd, u, L, s, kn, sc, fs, hC, hx, hm, v1, v2, v3, v4⟩ := hW
  exact ⟨tl, c, vb, sb, q, fp, ah, da, dd, u, L, s, kn, sc, fs, hC, hx, hm, by omega, by omega, by omega, by omega⟩
theorem WLD.rm {h : AH} {nx o w om j k n : Nat} (hW : WLD h nx o w om j k n) (hj : j ≤ 512) : k ≤ 330716 ∧ n ≤ 8110100 := by
  obtain ⟨tl, c, vb, sb, q, fp, ah, da, dd, u, L, s, kn, sc, fs, hC, hx, hm, v1, v2, v3, v4⟩ := hW
  obtain ⟨gb1, gb2⟩ := gS_b hx.nxw.2.1
  exact ⟨by omega, by omega⟩
theorem pw_setI {l : Launch} {G : GG} {h : AH} {nx o w om j k n : Nat} {Q : AH → Nat → Nat → Nat → Prop} {a1 a2 : Int32} (hX : XC G ∧ TX l G) (hW : WLD h nx o w om j k n) (hj : j < 512) (hQ : ∀ (h2 : AH) (nx2 k2 n2 : Nat), WLD h2 nx2 o w om (j + 1) k2 n2 → Q h2 nx2 k2 n2) : PR l G o om i_X11_set i_X12_set [.int a1, .int (if a2 = 0 then 0 else 1)] h nx k n Q := by
  by_cases e : a2 = 0
  · rw [if_pos e]
    exact pw_set (b := false) hX hW hj hQ
  · rw [if_neg e]
    exact pw_set (b := true) hX hW hj hQ
theorem pw_strapI {l : Launch} {G : GG} {h : AH} {nx o w om j k n : Nat} {Q : AH → Nat → Nat → Nat → Prop} {a1 a2 : Int32} (hX : XC G ∧ TX l G) (hW : WLD h nx o w om j k n) (hj : j < 512) (hQ : ∀ (h2 : AH) (nx2 k2 n2 : Nat), WLD h2 nx2 o w om (j + 1) k2 n2 → Q h2 nx2 k2 n2) : PR l G o om i_X11_strap i_X12_strap [.int a1, .int (if a2 = 0 then 0 else 1)] h nx k n Q := by
  by_cases e : a2 = 0
  · rw [if_pos e]
    exact pw_strap (b := false) hX hW hj hQ
  · rw [if_neg e]
    exact pw_strap (b := true) hX hW hj hQ
theorem head_le {L a : Nat} (hL : L ≤ 3072) (ha : a ≤ 3072) : nI a ≤ nI L - 6 ↔ a + 6 ≤ L := by
  rcases Nat.lt_or_ge L 6 with z | z
  · constructor
    · intro h
      have h1 : ∀ x, x < 6 → nI x - 6 < 0 := by decide
      exact absurd (Int32.lt_of_le_of_lt h (h1 L z)) (Int32.not_lt.mpr (nI_pos' (by omega)))
    · intro h
      omega
  · rw [show nI L - 6 = nI (L - 6) from nI_sub z]
    constructor
    · intro h
      rcases Nat.lt_or_ge (L - 6) a with y | y
      · exact absurd h (Int32.not_le.mpr (nI_lt y (by omega)))
      · omega
    · intro h
      exact nI_le (by omega) (by omega)
set_option maxHeartbeats 8000000 in
set_option maxRecDepth 8000 in
theorem hd_all {l : Launch} {G : GG} {p : Program} {e : Env} {s : State} {m : MethodId} {b L : Nat} {xs : Nat → Int32} {below : List Frame} {meth : Method} {c : Code} (hT : TX l G) (C : Cx G p room_1 s m #[Value.ref b] meth c 13 s_law 330716 8110100) (hA : ∀ q, G.2.2.1 q → s.heap.size ≤ q) (hXs : va_X b L xs s s.heap) (hbl : b < s.heap.size) (hbA : ¬ G.2.2.1 b) {ox om w : Nat} (hL : L ≤ 3072) (hX : XC G ∧ TX l G) : ∀ (d j : Nat) (h : AH) (nx k n : Nat), j + d = 512 → WLD h nx ox w om j k n → HD l G p e s m b below meth c ox om (nI (6 * j)) h nx k n := by
  intro d
  induction d with
  | zero =>
    intro j h nx k n hjd hW
    obtain ⟨hk, hn⟩ := hW.rm (by omega)
    exact hd_end hT C hA hXs hbl hbA (fun z => by have := (head_le hL (by omega)).mp z; omega) hk hn
  | succ d ih =>
    intro j h nx k n hjd hW
    obtain ⟨hk, hn⟩ := hW.rm (by omega)
    by_cases hj : 6 * j + 6 ≤ L
    · have hj5 : j < 512 := by omega
      have hL4 : L ≤ 4000 := by omega
      have e6 : nI (6 * j) + 6 = nI (6 * (j + 1)) := (Int32.ofNat_add (6 * j) 6).symm
      have hQ : ∀ (h2 : AH) (nx2 k2 n2 : Nat), WLD h2 nx2 ox w om (j + 1) k2 n2 → HD l G p e s m b below meth c ox om (nI (6 * j) + 6) h2 nx2 k2 n2 := fun h2 nx2 k2 n2 hW2 => by
        rw [e6]
        exact ih (j + 1) h2 nx2 k2 n2 (by omega) hW2
      unfold HD
      refine GoS.of hT C hA hXs hbl hbA [204, 267, 290, 303, 316, 339, 372, 395, 448, 501, 534, 567, 600, 633, 676, 689, 712, 745, 768, 801, 814, 827, 860, 873, 906, 949, 992, 1045, 1088, 1111, 1144, 1167, 1190, 1239, 1288, 1321, 1334, 1347, 1370, 1393] 40 ?_
      refine And.intro rfl ?_
      refine And.intro (fun cz => absurd cz (Int32.not_lt.mpr ((head_le hL (by omega)).mpr hj))) (fun _ => ?_)
      refine And.intro rfl (And.intro (vp_in_nI (by omega) (by omega)) ?_)
      refine And.intro (fun _ => ?_) ?_
      · refine GoS.of hT C hA hXs hbl hbA [18] 20 ?_
        exact gol_loc (lv' := [(0, .ref b), (1, .ref ox), (2, .ref om), (3, .int (nI (6 * j) + 6))]) ⟨rfl, rfl, rfl, rfl, trivial⟩ (hQ h nx k n hW.stay)
      refine And.intro (fun _ => ?_) ?_
      · exact gol_loc (lv' := [(0, .ref b), (1, .ref ox), (2, .ref om), (3, .int (nI (6 * j)))]) ⟨rfl, rfl, rfl, rfl, trivial⟩ (op_feed hT C hA hXs hbl hbA hj hL4 (pw_feed hX hW hj5 hQ))
      refine And.intro (fun _ => ?_) ?_
      · exact gol_loc (lv' := [(0, .ref b), (1, .ref ox), (2, .ref om), (3, .int (nI (6 * j)))]) ⟨rfl, rfl, rfl, rfl, trivial⟩ (op_back hT C hA hXs hbl hbA hj hL4 (pw_back hX hW hj5 hQ))
      refine And.intro (fun _ => ?_) ?_
      · exact gol_loc (lv' := [(0, .ref b), (1, .ref ox), (2, .ref om), (3, .int (nI (6 * j)))]) ⟨rfl, rfl, rfl, rfl, trivial⟩ (op_read hT C hA hXs hbl hbA hj hL4 (pw_read hX hW hj5 hQ))
      refine And.intro (fun _ => ?_) ?_
      · exact gol_loc (lv' := [(0, .ref b), (1, .ref ox), (2, .ref om), (3, .int (nI (6 * j)))]) ⟨rfl, rfl, rfl, rfl, trivial⟩ (op_place hT C hA hXs hbl hbA hj hL4 (pw_place hX hW hj5 hQ))
      refine And.intro (fun _ => ?_) ?_
      · exact gol_loc (lv' := [(0, .ref b), (1, .ref ox), (2, .ref om), (3, .int (nI (6 * j)))]) ⟨rfl, rfl, rfl, rfl, trivial⟩ (op_use hT C hA hXs hbl hbA hj hL4 (pw_use hX hW hj5 hQ))
      refine And.intro (fun _ => ?_) ?_
      · exact gol_loc (lv' := [(0, .ref b), (1, .ref ox), (2, .ref om), (3, .int (nI (6 * j)))]) ⟨rfl, rfl, rfl, rfl, trivial⟩ (op_contact hT C hA hXs hbl hbA hj hL4 (pw_contact hX hW hj5 hQ))
      refine And.intro (fun _ => ?_) ?_
      · exact gol_loc (lv' := [(0, .ref b), (1, .ref ox), (2, .ref om), (3, .int (nI (6 * j)))]) ⟨rfl, rfl, rfl, rfl, trivial⟩ (op_flaw hT C hA hXs hbl hbA hj hL4 (pw_flaw hX hW hj5 hQ))
      refine And.intro (fun _ => ?_) ?_
      · exact gol_loc (lv' := [(0, .ref b), (1, .ref ox), (2, .ref om), (3, .int (nI (6 * j)))]) ⟨rfl, rfl, rfl, rfl, trivial⟩ (op_settles hT C hA hXs hbl hbA hj hL4 (pw_settles hX hW hj5 hQ))
      refine And.intro (fun _ => ?_) ?_
      · exact gol_loc (lv' := [(0, .ref b), (1, .ref ox), (2, .ref om), (3, .int (nI (6 * j)))]) ⟨rfl, rfl, rfl, rfl, trivial⟩ (op_shows hT C hA hXs hbl hbA hj hL4 (pw_shows hX hW hj5 hQ))
      refine And.intro (fun _ => ?_) ?_
      · exact gol_loc (lv' := [(0, .ref b), (1, .ref ox), (2, .ref om), (3, .int (nI (6 * j)))]) ⟨rfl, rfl, rfl, rfl, trivial⟩ (op_start hT C hA hXs hbl hbA hj hL4 (pw_start hX hW hj5 hQ))
      refine And.intro (fun _ => ?_) ?_
      · exact gol_loc (lv' := [(0, .ref b), (1, .ref ox), (2, .ref om), (3, .int (nI (6 * j)))]) ⟨rfl, rfl, rfl, rfl, trivial⟩ (op_reached hT C hA hXs hbl hbA hj hL4 (pw_reached hX hW hj5 hQ))
      refine And.intro (fun _ => ?_) ?_
      · exact gol_loc (lv' := [(0, .ref b), (1, .ref ox), (2, .ref om), (3, .int (nI (6 * j)))]) ⟨rfl, rfl, rfl, rfl, trivial⟩ (op_races hT C hA hXs hbl hbA hj hL4 (pw_races hX hW hj5 hQ))
      refine And.intro (fun _ => ?_) ?_
      · exact gol_loc (lv' := [(0, .ref b), (1, .ref ox), (2, .ref om), (3, .int (nI (6 * j)))]) ⟨rfl, rfl, rfl, rfl, trivial⟩ (op_bad hT C hA hXs hbl hbA hj hL4 (pw_bad hX hW hj5 hQ))
      refine And.intro (fun _ => ?_) ?_
      · exact gol_loc (lv' := [(0, .ref b), (1, .ref ox), (2, .ref om), (3, .int (nI (6 * j)))]) ⟨rfl, rfl, rfl, rfl, trivial⟩ (op_badAct hT C hA hXs hbl hbA hj hL4 (pw_badAct hX hW hj5 hQ))
      refine And.intro (fun _ => ?_) ?_
      · exact gol_loc (lv' := [(0, .ref b), (1, .ref ox), (2, .ref om), (3, .int (nI (6 * j)))]) ⟨rfl, rfl, rfl, rfl, trivial⟩ (op_singles hT C hA hXs hbl hbA hj hL4 (pw_singles hX hW hj5 hQ))
      refine And.intro (fun _ => ?_) ?_
      · exact gol_loc (lv' := [(0, .ref b), (1, .ref ox), (2, .ref om), (3, .int (nI (6 * j)))]) ⟨rfl, rfl, rfl, rfl, trivial⟩ (op_pairs hT C hA hXs hbl hbA hj hL4 (pw_pairs hX hW hj5 hQ))
      refine And.intro (fun _ => ?_) ?_
      · exact gol_loc (lv' := [(0, .ref b), (1, .ref ox), (2, .ref om), (3, .int (nI (6 * j)))]) ⟨rfl, rfl, rfl, rfl, trivial⟩ (op_pair hT C hA hXs hbl hbA hj hL4 (pw_pair hX hW hj5 hQ))
      refine And.intro (fun _ => ?_) ?_
      · exact gol_loc (lv' := [(0, .ref b), (1, .ref ox), (2, .ref om), (3, .int (nI (6 * j)))]) ⟨rfl, rfl, rfl, rfl, trivial⟩ (op_least hT C hA hXs hbl hbA hj hL4 (pw_least hX hW hj5 hQ))
      refine And.intro (fun _ => ?_) ?_
      · exact gol_loc (lv' := [(0, .ref b), (1, .ref ox), (2, .ref om), (3, .int (nI (6 * j)))]) ⟨rfl, rfl, rfl, rfl, trivial⟩ (op_leastAct hT C hA hXs hbl hbA hj hL4 (pw_leastAct hX hW hj5 hQ))
      refine And.intro (fun _ => ?_) ?_
      · exact gol_loc (lv' := [(0, .ref b), (1, .ref ox), (2, .ref om), (3, .int (nI (6 * j)))]) ⟨rfl, rfl, rfl, rfl, trivial⟩ (op_hidden hT C hA hXs hbl hbA hj hL4 (pw_hidden hX hW hj5 hQ))
      refine And.intro (fun _ => ?_) ?_
      · exact gol_loc (lv' := [(0, .ref b), (1, .ref ox), (2, .ref om), (3, .int (nI (6 * j)))]) ⟨rfl, rfl, rfl, rfl, trivial⟩ (op_suite hT C hA hXs hbl hbA hj hL4 (pw_suite hX hW hj5 hQ))
      refine And.intro (fun _ => ?_) ?_
      · exact gol_loc (lv' := [(0, .ref b), (1, .ref ox), (2, .ref om), (3, .int (nI (6 * j)))]) ⟨rfl, rfl, rfl, rfl, trivial⟩ (op_suiteAct hT C hA hXs hbl hbA hj hL4 (pw_suiteAct hX hW hj5 hQ))
      refine And.intro (fun _ => ?_) ?_
      · exact gol_loc (lv' := [(0, .ref b), (1, .ref ox), (2, .ref om), (3, .int (nI (6 * j)))]) ⟨rfl, rfl, rfl, rfl, trivial⟩ (op_suiteActs hT C hA hXs hbl hbA hj hL4 (pw_suiteActs hX hW hj5 hQ))
      refine And.intro (fun _ => ?_) ?_
      · exact gol_loc (lv' := [(0, .ref b), (1, .ref ox), (2, .ref om), (3, .int (nI (6 * j)))]) ⟨rfl, rfl, rfl, rfl, trivial⟩ (op_unlike hT C hA hXs hbl hbA hj hL4 (pw_unlike hX hW hj5 hQ))
      refine And.intro (fun _ => ?_) ?_
      · exact gol_loc (lv' := [(0, .ref b), (1, .ref ox), (2, .ref om), (3, .int (nI (6 * j)))]) ⟨rfl, rfl, rfl, rfl, trivial⟩ (op_safe hT C hA hXs hbl hbA hj hL4 (pw_safe hX hW hj5 hQ))
      refine And.intro (fun _ => ?_) ?_
      · exact gol_loc (lv' := [(0, .ref b), (1, .ref ox), (2, .ref om), (3, .int (nI (6 * j)))]) ⟨rfl, rfl, rfl, rfl, trivial⟩ (op_plan hT C hA hXs hbl hbA hj hL4 (pw_plan hX hW hj5 hQ))
      refine And.intro (fun _ => ?_) ?_
      · exact gol_loc (lv' := [(0, .ref b), (1, .ref ox), (2, .ref om), (3, .int (nI (6 * j)))]) ⟨rfl, rfl, rfl, rfl, trivial⟩ (op_stage hT C hA hXs hbl hbA hj hL4 (pw_stage hX hW hj5 hQ))
      refine And.intro (fun _ => ?_) ?_
      · exact gol_loc (lv' := [(0, .ref b), (1, .ref ox), (2, .ref om), (3, .int (nI (6 * j)))]) ⟨rfl, rfl, rfl, rfl, trivial⟩ (op_log hT C hA hXs hbl hbA hj hL4 (pw_log hX hW hj5 hQ))
      refine And.intro (fun _ => ?_) ?_
      · exact gol_loc (lv' := [(0, .ref b), (1, .ref ox), (2, .ref om), (3, .int (nI (6 * j)))]) ⟨rfl, rfl, rfl, rfl, trivial⟩ (op_annul hT C hA hXs hbl hbA hj hL4 (pw_annul hX hW hj5 hQ))
      refine And.intro (fun _ => ?_) ?_
      · exact gol_loc (lv' := [(0, .ref b), (1, .ref ox), (2, .ref om), (3, .int (nI (6 * j)))]) ⟨rfl, rfl, rfl, rfl, trivial⟩ (op_fits hT C hA hXs hbl hbA hj hL4 (pw_fits hX hW hj5 hQ))
      refine And.intro (fun _ => ?_) ?_
      · exact gol_loc (lv' := [(0, .ref b), (1, .ref ox), (2, .ref om), (3, .int (nI (6 * j)))]) ⟨rfl, rfl, rfl, rfl, trivial⟩ (op_suspects hT C hA hXs hbl hbA hj hL4 (pw_suspects hX hW hj5 hQ))
      refine And.intro (fun _ => ?_) ?_
      · exact gol_loc (lv' := [(0, .ref b), (1, .ref ox), (2, .ref om), (3, .int (nI (6 * j)))]) ⟨rfl, rfl, rfl, rfl, trivial⟩ (op_next hT C hA hXs hbl hbA hj hL4 (pw_next hX hW hj5 hQ))
      refine And.intro (fun _ => ?_) ?_
      · exact gol_loc (lv' := [(0, .ref b), (1, .ref ox), (2, .ref om), (3, .int (nI (6 * j)))]) ⟨rfl, rfl, rfl, rfl, trivial⟩ (op_set hT C hA hXs hbl hbA hj hL4 (pw_setI hX hW hj5 hQ))
      refine And.intro (fun _ => ?_) ?_
      · exact gol_loc (lv' := [(0, .ref b), (1, .ref ox), (2, .ref om), (3, .int (nI (6 * j)))]) ⟨rfl, rfl, rfl, rfl, trivial⟩ (op_strap hT C hA hXs hbl hbA hj hL4 (pw_strapI hX hW hj5 hQ))
      refine And.intro (fun _ => ?_) ?_
      · exact gol_loc (lv' := [(0, .ref b), (1, .ref ox), (2, .ref om), (3, .int (nI (6 * j)))]) ⟨rfl, rfl, rfl, rfl, trivial⟩ (op_age hT C hA hXs hbl hbA hj hL4 (pw_age hX hW hj5 hQ))
      refine And.intro (fun _ => ?_) ?_
      · exact gol_loc (lv' := [(0, .ref b), (1, .ref ox), (2, .ref om), (3, .int (nI (6 * j)))]) ⟨rfl, rfl, rfl, rfl, trivial⟩ (op_round hT C hA hXs hbl hbA hj hL4 (pw_round hX hW hj5 hQ))
      refine And.intro (fun _ => ?_) ?_
      · exact gol_loc (lv' := [(0, .ref b), (1, .ref ox), (2, .ref om), (3, .int (nI (6 * j)))]) ⟨rfl, rfl, rfl, rfl, trivial⟩ (op_clash hT C hA hXs hbl hbA hj hL4 (pw_clash hX hW hj5 hQ))
      refine And.intro (fun _ => ?_) ?_
      · exact gol_loc (lv' := [(0, .ref b), (1, .ref ox), (2, .ref om), (3, .int (nI (6 * j)))]) ⟨rfl, rfl, rfl, rfl, trivial⟩ (op_hand hT C hA hXs hbl hbA hj hL4 (pw_hand hX hW hj5 hQ))
      refine And.intro (fun _ => ?_) ?_
      · exact gol_loc (lv' := [(0, .ref b), (1, .ref ox), (2, .ref om), (3, .int (nI (6 * j)))]) ⟨rfl, rfl, rfl, rfl, trivial⟩ (op_count hT C hA hXs hbl hbA hj hL4 (pw_count hX hW hj5 hQ))
      trivial
    · exact hd_end hT C hA hXs hbl hbA (fun z => hj ((head_le hL (by omega)).mp z)) hk hn
set_option maxHeartbeats 4000000 in
set_option maxRecDepth 8000 in
/-- YOUR PART: from the entry, for every script of at most 3072 ints, the law comes to its end with true ('hflags': the launch's flags, for a law that throws: no stack traces) -/
theorem whole_start {p : Program} {e : Env} {s : State} {m : MethodId} {below : List Frame} {meth : Method} {c : Code} (l : Launch) (hflags : l.flags = flags0) {b L : Nat} {xs : Nat → Int32} (hL : L ≤ 3072) (C0 : lw_At p s m meth c b L xs) : W p l e room_1 s m #[Value.ref b] below meth c s.heap [] 0 0 (lw_Z below #[Value.ref b] s) (entryFrame m ([Value.ref b] : List Value).toArray 4) := by
  obtain ⟨G, hGA, hX, C⟩ := law_G l C0
  obtain ⟨hx, hb, hr, hml, hown, hts, hXs, hbl, hlocks, hgv⟩ := C0
  have hA : ∀ q, G.2.2.1 q → s.heap.size ≤ q := fun q hq => by rw [hGA] at hq; exact hq
  have hbA : ¬ G.2.2.1 b := fun z => by rw [hGA] at z; exact Nat.not_le.mpr hbl z
  have hR : Rep G (fun _ => none) s.heap.size s.heap := ⟨rfl, fun a e he => by cases he⟩
  have hgo : GoL l G p e s m b below meth c 0 [(0, .ref b)] [] (fun _ => none) s.heap.size 0 0 := by
    refine GoS.of hX.2 C hA hXs hbl hbA [18] 40 ?_
    refine And.intro (by decide) (And.intro (by decide) ?_)
    refine Exists.intro 73 (Exists.intro 25865 (And.intro (by decide) (And.intro (by decide) (c_RelayHut_init hX uph_eq (Nat.lt_succ_self _) (fun g3 g5 h1 e3 e5 z1 x0 x1 x2 x3 x4 x5 x6 x7 x8 x9 x10 x11 x12 x13 x14 x15 x16 x17 x18 x19 x20 x21 x22 x23 x24 x25 x26 x27 x28 x29 x30 x31 x32 x33 x34 x35 x36 x37 x38 x39 x40 x41 x42 x43 x44 x45 x46 x47 x48 x49 x50 x51 x52 x53 x54 x55 x56 x57 x58 x59 x60 x61 x62 x63 x64 x65 x66 x67 x68 x69 x70 x71 x72 x73 => ?_)))))
    refine And.intro (by decide) (And.intro (by decide) ?_)
    refine Exists.intro 63 (Exists.intro 428383 (And.intro (by decide) (And.intro (by decide) (c_Model_init hX (Nat.lt_succ_self _) (fun h2 hM => ?_) uph_eq))))
    have hF : FX h2 s.heap.size (s.heap.size + 1) g3 g5 := by
      have zz : ∀ a, a < s.heap.size + 1 + 73 → h2 a = h1 a := fun a ha => (hM.1 a (by omega) (by omega)).trans (uph_ne (by omega))
      exact ⟨(zz _ (by omega)).trans x0, (zz _ (by omega)).trans x1, (zz _ (by omega)).trans x2, (zz _ (by omega)).trans x3, (zz _ (by omega)).trans x4, (zz _ (by omega)).trans x5, (zz _ (by omega)).trans x6, (zz _ (by omega)).trans x7, (zz _ (by omega)).trans x8, (zz _ (by omega)).trans x9, (zz _ (by omega)).trans x10, (zz _ (by omega)).trans x11, (zz _ (by omega)).trans x12, (zz _ (by omega)).trans x13, (zz _ (by omega)).trans x14, (zz _ (by omega)).trans x15, (zz _ (by omega)).trans x16, (zz _ (by omega)).trans x17, (zz _ (by omega)).trans x18, (zz _ (by omega)).trans x19, (zz _ (by omega)).trans x20, (zz _ (by omega)).trans x21, (zz _ (by omega)).trans x22, (zz _ (by omega)).trans x23, (zz _ (by omega)).trans x24, (zz _ (by omega)).trans x25, (zz _ (by omega)).trans x26, (zz _ (by omega)).trans x27, (zz _ (by omega)).trans x28, (zz _ (by omega)).trans x29, (zz _ (by omega)).trans x30, (zz _ (by omega)).trans x31, (zz _ (by omega)).trans x32, (zz _ (by omega)).trans x33, (zz _ (by omega)).trans x34, (zz _ (by omega)).trans x35, (zz _ (by omega)).trans x36, (zz _ (by omega)).trans x37, (zz _ (by omega)).trans x38, (zz _ (by omega)).trans x39, (zz _ (by omega)).trans x40, (zz _ (by omega)).trans x41, (zz _ (by omega)).trans x42, (zz _ (by omega)).trans x43, (zz _ (by omega)).trans x44, (zz _ (by omega)).trans x45, (zz _ (by omega)).trans x46, (zz _ (by omega)).trans x47, (zz _ (by omega)).trans x48, (zz _ (by omega)).trans x49, (zz _ (by omega)).trans x50, (zz _ (by omega)).trans x51, (zz _ (by omega)).trans x52, (zz _ (by omega)).trans x53, (zz _ (by omega)).trans x54, (zz _ (by omega)).trans x55, (zz _ (by omega)).trans x56, (zz _ (by omega)).trans x57, (zz _ (by omega)).trans x58, (zz _ (by omega)).trans x59, (zz _ (by omega)).trans x60, (zz _ (by omega)).trans x61, (zz _ (by omega)).trans x62, (zz _ (by omega)).trans x63, (zz _ (by omega)).trans x64, (zz _ (by omega)).trans x65, (zz _ (by omega)).trans x66, (zz _ (by omega)).trans x67, (zz _ (by omega)).trans x68, (zz _ (by omega)).trans x69, (zz _ (by omega)).trans x70, (zz _ (by omega)).trans x71, (zz _ (by omega)).trans x72, (zz _ (by omega)).trans x73⟩
    have hW0 : WLD h2 (s.heap.size + 1 + 73 + 1 + 63) s.heap.size (s.heap.size + 1) (s.heap.size + 1 + 73) 0 (0 + 1 + 73 + 1 + 63) (0 + (dfl 11).length + 25865 + (dfl 12).length + 428383) := by
      rw [show 0 + (dfl 11).length + 25865 + (dfl 12).length + 428383 = 454361 from by rw [show (dfl 11).length = 14 from rfl, show (dfl 12).length = 99 from rfl]]
      exact WLD_0 hF e3 e5 (Nat.lt_succ_self _) rfl (by omega) hM
    exact gol_loc (lv' := [(0, .ref b), (1, .ref s.heap.size), (2, .ref (s.heap.size + 1 + 73)), (3, .int (nI 0))]) ⟨rfl, rfl, rfl, rfl, trivial⟩ (hd_all hX.2 C hA hXs hbl hbA hL hX 512 0 h2 _ _ _ rfl hW0)
  rw [lg_entry_eq]
  exact hgo s.heap [] _ hR va_S.rf (lv_entry (n := 4) [Value.ref b] (Nat.le_of_ble_eq_true rfl)) (Nat.zero_le _) (Nat.zero_le _)
set_option maxHeartbeats 4000000 in
theorem lw_walk (l : Launch) (hflags : l.flags = flags0) (b : Addr) (xs : List Int32) : MetFree l x (headSpec (Jvm.Cond.code x code maxLocals ret :: tables_1) room_1) (lw_P b xs) (fun _ _ _ _ _ => True) lw_Q := by
  refine MetFree.of_bodyS (code := code) (maxLocals := maxLocals) (ret := ret) (by decide) ?_ ?_
  · intro args s m h hn
    obtain ⟨meth, c, h1, h2, h3, h4, h5, h6, -, -⟩ := Cond.code_spec hn (atoms_spec (ws := Jvm.Cond.code x code maxLocals ret :: tables_1) h _ List.mem_cons_self)
    exact ⟨meth, c, h1, h2, h3, h4, h5, h6⟩
  · intro p e s m args below meth c s₁ B hml0 hP _
    obtain ⟨rfl, hx, hbd, hgv⟩ := hP
    obtain ⟨scr, harrAt, hlist, hof, hsmall⟩ := hx
    obtain ⟨hcb, hkn, -, -⟩ := State.arrayAt?_spec harrAt
    have hown : s.vm.findClass R_law = some m.cls := findClass_of_methodNamed B.named
    have hts0 : ∀ c ∈ (Jvm.Cond.code x code maxLocals ret :: tables_1), c.before #[Value.ref b] s = true := atoms_spec (ws := Jvm.Cond.code x code maxLocals ret :: tables_1) B.pre
    have hts : ∀ w ∈ lw_tbl, w.before #[Value.ref b] s = true := k2_hts_sels lw_privs (fun w hw => hts0 w (List.mem_cons_of_mem _ hw)) lw_privs_ok
    have hml : c.maxLocals = 4 := B.maxLocals_eq (hts0 _ List.mem_cons_self)
    have X₀ : Stand p l e room_1 s m #[Value.ref b] below meth c s₁ [] 0 0 := Stand.of_body B
    have hh0 : s₁.heap = s.heap := by rw [B.state]; rfl
    have hsz : scr.slots.size = xs.length := by rw [← Array.length_toList, hlist, List.length_map]
    have hval : ∀ j : Nat, j < xs.length → scr.slots[j]? = some (.int (xs.getD j 0)) := fun j hj => by
      rw [← Array.getElem?_toList, hlist]
      simp [hj]
    have hbl : b < s.heap.size := (Array.getElem?_eq_some_iff.mp hcb).1
    have hX : va_X b xs.length (fun j => xs.getD j 0) s s.heap := ⟨scr, hcb, hof, hkn, hsz, hval⟩
    have K : W p l e room_1 s m #[Value.ref b] below meth c s₁.heap [] 0 0 (lw_Z below #[Value.ref b] s) (entryFrame m ([Value.ref b] : List Value).toArray 4) := by
      rw [hh0]
      exact whole_start l hflags hbd ⟨B.exec, B.bytes, B.returns, hml, hown, hts, hX, hbl, B.notSynchronized, hgv⟩
    obtain ⟨t, a1, o, b1, b2, b3⟩ := K s₁ rfl X₀
    exact ⟨t, o, a1, b1, b2, b3⟩
theorem lw_pre_spec {args : Array Value} {s : State} (h : (Jvm.Cond.and given_1 narrow_1).before args s = true) (hr : rest_1_c.before args s = true) : ∃ (b : Addr) (xs : List Int32), lw_P b xs args s := by
  have hs := flat_of_before _ h
  have hq := flat_of_before _ hr
  have hc : (Cond.count 1).before args s = true := hs _ (by decide +kernel)
  have harr : (Cond.arrayOf (.arg 0) .int).before args s = true := hs _ (by decide +kernel)
  have hle : (Cond.le (.length (.arg 0)) (.int 3072)).before args s = true := hs _ (by decide +kernel)
  have hlen : (Cond.isInt (.length (.arg 0))).before args s = true := hq _ (by decide +kernel)
  have hall : (Cond.all (.arg 0) (.isInt (.elem (.arg 0) (.index 0)))).before args s = true := hq _ (by decide +kernel)
  obtain ⟨b, xs, hb, hx⟩ := State.ints_of_pre rfl harr hlen hall
  have hsm : xs.length < 2 ^ 31 := hx.choose_spec.2.2.2
  have hev : (Term.length (.arg 0)).eval args s none [] s = some (.int xs.length.toInt32) := hx.length_eval hb
  have hv := Cond.le_ints hev (show (Term.int 3072).eval args s none [] s = some (.int 3072) from rfl)
  have hd : xs.length.toInt32 ≤ 3072 := by
    simpa [Cond.before, Cond.holds, hv] using hle
  have hN : xs.length ≤ 3072 := (Int32.ofNat_le_ofNat hsm (by decide)).mp (show Int32.ofNat xs.length ≤ Int32.ofNat 3072 from hd)
  exact ⟨b, xs, Cond.one_arg hc (show args[0]? = some (.ref b) from hb), hx, hN, h⟩
theorem lw_comes (l : Launch) (hflags : l.flags = flags0) : Comes l x (Jvm.Cond.code x code maxLocals ret :: tables_1) room_1 (fun tb e args s => Calls_1 tb e args s ∧ rest_1 tb e args s ∧ Pre_1 tb e args s)
    (fun _ _ args s o t => lw_Q args s o t) := by
  intro p e ha hc hk s m args below hf hfit hheap happ hpre
  obtain ⟨b, xs, hP⟩ := lw_pre_spec hpre.2.2 hpre.2.1
  obtain ⟨k, o, h1, h2, h3, hQ⟩ := lw_walk l hflags b xs p e ha hc hk s m args below hf ((Spec.applies_iff_loose hf).mp happ).1 hP trivial
  exact ⟨k, o, h1, h2, h3, hQ⟩
theorem lw_frame {s t : State} {o : Outcome} {args : Array Value} (h : Framed s o t [] 330716 8110100) :
    Framed s o t (fieldLocs frame_1_writes args s ++ arrayLocs frame_1_arrays args s ++ staticLocs frame_1_statics s) 330716 8110100 := h
theorem lw_limb (L : Cond) (hL : ∀ (args : Array Value) (s t : State), L.after args s (.returned (some (.int 1))) t = true) :
    ArmFor flags0 classFile x code maxLocals ret World_1 tables_1 room_1 Calls_1 rest_1 Pre_1
      (fun tb e a s o t => postC L tb e a s o t ∧ Framed s o t (fieldLocs frame_1_writes a s ++ arrayLocs frame_1_arrays a s ++ staticLocs frame_1_statics s) 330716 8110100) := by
  intro l hflags _ _ p e ha hc hk s m args below hf hfit hheap happ hpre
  obtain ⟨k, o, h1, h2, h3, rfl, hF⟩ := lw_comes l hflags p e ha hc hk s m args below hf hfit hheap happ hpre
  exact ⟨k, _, h1, h2, h3, hL args s _, lw_frame hF⟩
theorem i_vc : Claimed_1_1 ∧ Claimed_1_2 := ⟨lw_limb limb_1_1 (fun args s t => by simp [limb_1_1, Cond.after, Cond.holds, Cond.value]), lw_limb limb_1_2 (fun args s t => Cond.after_iff.mpr (by
  first | (rw [show limb_1_2 = Cond.eq .result (.int 1) from rfl, Cond.eq_ints (x := 1) (y := 1) rfl rfl]; simp; done) | (simp [limb_1_2, Cond.value, Term.eval]; done)))⟩
