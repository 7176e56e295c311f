/-! the law, op by op -/
set_option maxRecDepth 4000 in
set_option maxHeartbeats 2000000 in
theorem op_feed {l : Launch} {G : GG} {p : Program} {e : Env} {s : State} {m : MethodId} {b L : Nat} {xs : Nat → Int32} {below : List Frame} {meth : Method} {c : Code} (hT : TX l G) (C : Cx G p room_1 s m #[Value.ref b] meth c 13 s_law 330716 8110100) (hA : ∀ q, G.2.2.1 q → s.heap.size ≤ q) (hXs : va_X b L xs s s.heap) (hbl : b < s.heap.size) (hbA : ¬ G.2.2.1 b) {ox om j nx k n : Nat} {h : AH} (hj : j + 6 ≤ L) (hL : L ≤ 4000) (hpr : PR l G ox om i_X11_feed i_X12_feed [.int (xs (nI j + 1).toNatClampNeg), .int (xs (nI j + 2).toNatClampNeg), .int (xs (nI j + 3).toNatClampNeg), .int (xs (nI j + 4).toNatClampNeg), .int (xs (nI j + 5).toNatClampNeg)] h nx k n (fun h2 nx2 k2 n2 => HD l G p e s m b below meth c ox om (nI j + 6) h2 nx2 k2 n2)) : GoL l G p e s m b below meth c 204 [(0, .ref b), (1, .ref ox), (2, .ref om), (3, .int (nI j))] [] h nx k n := by
  obtain ⟨fx, c1, s1, hx, k1, n1, hr⟩ := hpr
  refine GoS.of hT C hA hXs hbl hbA [18] 60 ?_
  refine And.intro rfl (And.intro (vin_at (t := 1) (by decide) hj hL) ?_)
  refine And.intro rfl (And.intro (vin_at (t := 2) (by decide) hj hL) ?_)
  refine And.intro rfl (And.intro (vin_at (t := 3) (by decide) hj hL) ?_)
  refine And.intro rfl (And.intro (vin_at (t := 4) (by decide) hj hL) ?_)
  refine And.intro rfl (And.intro (vin_at (t := 5) (by decide) hj hL) ?_)
  refine Exists.intro _ (And.intro hx (Exists.intro c1 (Exists.intro s1 (And.intro k1 (And.intro n1 ?_)))))
  refine Runs.mono (fun u h1 nx1 hu => ?_) hr
  obtain ⟨v, fm, c2, s2, rfl, hm, k2, n2, hr2⟩ := hu
  refine And.intro rfl (And.intro (vin_at (t := 1) (by decide) hj hL) ?_)
  refine And.intro rfl (And.intro (vin_at (t := 2) (by decide) hj hL) ?_)
  refine And.intro rfl (And.intro (vin_at (t := 3) (by decide) hj hL) ?_)
  refine And.intro rfl (And.intro (vin_at (t := 4) (by decide) hj hL) ?_)
  refine And.intro rfl (And.intro (vin_at (t := 5) (by decide) hj hL) ?_)
  refine Exists.intro _ (And.intro hm (Exists.intro c2 (Exists.intro s2 (And.intro k2 (And.intro n2 ?_)))))
  refine Runs.mono (fun u2 h2 nx2 hu2 => ?_) hr2
  obtain ⟨rfl, hg⟩ := hu2
  refine And.intro (fun _ => ?_) (fun cz => absurd rfl cz)
  exact gol_loc (lv' := [(0, .ref b), (1, .ref ox), (2, .ref om), (3, .int (nI j + 6))]) ⟨rfl, rfl, rfl, rfl, trivial⟩ hg
set_option maxRecDepth 4000 in
set_option maxHeartbeats 2000000 in
theorem op_back {l : Launch} {G : GG} {p : Program} {e : Env} {s : State} {m : MethodId} {b L : Nat} {xs : Nat → Int32} {below : List Frame} {meth : Method} {c : Code} (hT : TX l G) (C : Cx G p room_1 s m #[Value.ref b] meth c 13 s_law 330716 8110100) (hA : ∀ q, G.2.2.1 q → s.heap.size ≤ q) (hXs : va_X b L xs s s.heap) (hbl : b < s.heap.size) (hbA : ¬ G.2.2.1 b) {ox om j nx k n : Nat} {h : AH} (hj : j + 6 ≤ L) (hL : L ≤ 4000) (hpr : PR l G ox om i_X11_back i_X12_back [.int (xs (nI j + 1).toNatClampNeg)] h nx k n (fun h2 nx2 k2 n2 => HD l G p e s m b below meth c ox om (nI j + 6) h2 nx2 k2 n2)) : GoL l G p e s m b below meth c 267 [(0, .ref b), (1, .ref ox), (2, .ref om), (3, .int (nI j))] [] h nx k n := by
  obtain ⟨fx, c1, s1, hx, k1, n1, hr⟩ := hpr
  refine GoS.of hT C hA hXs hbl hbA [18] 60 ?_
  refine And.intro rfl (And.intro (vin_at (t := 1) (by decide) hj hL) ?_)
  refine Exists.intro _ (And.intro hx (Exists.intro c1 (Exists.intro s1 (And.intro k1 (And.intro n1 ?_)))))
  refine Runs.mono (fun u h1 nx1 hu => ?_) hr
  obtain ⟨v, fm, c2, s2, rfl, hm, k2, n2, hr2⟩ := hu
  refine And.intro rfl (And.intro (vin_at (t := 1) (by decide) hj hL) ?_)
  refine Exists.intro _ (And.intro hm (Exists.intro c2 (Exists.intro s2 (And.intro k2 (And.intro n2 ?_)))))
  refine Runs.mono (fun u2 h2 nx2 hu2 => ?_) hr2
  obtain ⟨rfl, hg⟩ := hu2
  refine And.intro (fun _ => ?_) (fun cz => absurd rfl cz)
  exact gol_loc (lv' := [(0, .ref b), (1, .ref ox), (2, .ref om), (3, .int (nI j + 6))]) ⟨rfl, rfl, rfl, rfl, trivial⟩ hg
set_option maxRecDepth 4000 in
set_option maxHeartbeats 2000000 in
theorem op_read {l : Launch} {G : GG} {p : Program} {e : Env} {s : State} {m : MethodId} {b L : Nat} {xs : Nat → Int32} {below : List Frame} {meth : Method} {c : Code} (hT : TX l G) (C : Cx G p room_1 s m #[Value.ref b] meth c 13 s_law 330716 8110100) (hA : ∀ q, G.2.2.1 q → s.heap.size ≤ q) (hXs : va_X b L xs s s.heap) (hbl : b < s.heap.size) (hbA : ¬ G.2.2.1 b) {ox om j nx k n : Nat} {h : AH} (hj : j + 6 ≤ L) (hL : L ≤ 4000) (hpr : PR l G ox om i_X11_read i_X12_read [] h nx k n (fun h2 nx2 k2 n2 => HD l G p e s m b below meth c ox om (nI j + 6) h2 nx2 k2 n2)) : GoL l G p e s m b below meth c 290 [(0, .ref b), (1, .ref ox), (2, .ref om), (3, .int (nI j))] [] h nx k n := by
  obtain ⟨fx, c1, s1, hx, k1, n1, hr⟩ := hpr
  refine GoS.of hT C hA hXs hbl hbA [18] 60 ?_
  refine Exists.intro _ (And.intro hx (Exists.intro c1 (Exists.intro s1 (And.intro k1 (And.intro n1 ?_)))))
  refine Runs.mono (fun u h1 nx1 hu => ?_) hr
  obtain ⟨v, fm, c2, s2, rfl, hm, k2, n2, hr2⟩ := hu
  refine Exists.intro _ (And.intro hm (Exists.intro c2 (Exists.intro s2 (And.intro k2 (And.intro n2 ?_)))))
  refine Runs.mono (fun u2 h2 nx2 hu2 => ?_) hr2
  obtain ⟨rfl, hg⟩ := hu2
  refine And.intro (fun _ => ?_) (fun cz => absurd rfl cz)
  exact gol_loc (lv' := [(0, .ref b), (1, .ref ox), (2, .ref om), (3, .int (nI j + 6))]) ⟨rfl, rfl, rfl, rfl, trivial⟩ hg
set_option maxRecDepth 4000 in
set_option maxHeartbeats 2000000 in
theorem op_place {l : Launch} {G : GG} {p : Program} {e : Env} {s : State} {m : MethodId} {b L : Nat} {xs : Nat → Int32} {below : List Frame} {meth : Method} {c : Code} (hT : TX l G) (C : Cx G p room_1 s m #[Value.ref b] meth c 13 s_law 330716 8110100) (hA : ∀ q, G.2.2.1 q → s.heap.size ≤ q) (hXs : va_X b L xs s s.heap) (hbl : b < s.heap.size) (hbA : ¬ G.2.2.1 b) {ox om j nx k n : Nat} {h : AH} (hj : j + 6 ≤ L) (hL : L ≤ 4000) (hpr : PR l G ox om i_X11_place i_X12_place [] h nx k n (fun h2 nx2 k2 n2 => HD l G p e s m b below meth c ox om (nI j + 6) h2 nx2 k2 n2)) : GoL l G p e s m b below meth c 303 [(0, .ref b), (1, .ref ox), (2, .ref om), (3, .int (nI j))] [] h nx k n := by
  obtain ⟨fx, c1, s1, hx, k1, n1, hr⟩ := hpr
  refine GoS.of hT C hA hXs hbl hbA [18] 60 ?_
  refine Exists.intro _ (And.intro hx (Exists.intro c1 (Exists.intro s1 (And.intro k1 (And.intro n1 ?_)))))
  refine Runs.mono (fun u h1 nx1 hu => ?_) hr
  obtain ⟨v, fm, c2, s2, rfl, hm, k2, n2, hr2⟩ := hu
  refine Exists.intro _ (And.intro hm (Exists.intro c2 (Exists.intro s2 (And.intro k2 (And.intro n2 ?_)))))
  refine Runs.mono (fun u2 h2 nx2 hu2 => ?_) hr2
  obtain ⟨rfl, hg⟩ := hu2
  refine And.intro (fun _ => ?_) (fun cz => absurd rfl cz)
  exact gol_loc (lv' := [(0, .ref b), (1, .ref ox), (2, .ref om), (3, .int (nI j + 6))]) ⟨rfl, rfl, rfl, rfl, trivial⟩ hg
set_option maxRecDepth 4000 in
set_option maxHeartbeats 2000000 in
theorem op_use {l : Launch} {G : GG} {p : Program} {e : Env} {s : State} {m : MethodId} {b L : Nat} {xs : Nat → Int32} {below : List Frame} {meth : Method} {c : Code} (hT : TX l G) (C : Cx G p room_1 s m #[Value.ref b] meth c 13 s_law 330716 8110100) (hA : ∀ q, G.2.2.1 q → s.heap.size ≤ q) (hXs : va_X b L xs s s.heap) (hbl : b < s.heap.size) (hbA : ¬ G.2.2.1 b) {ox om j nx k n : Nat} {h : AH} (hj : j + 6 ≤ L) (hL : L ≤ 4000) (hpr : PR l G ox om i_X11_use i_X12_use [.int (xs (nI j + 1).toNatClampNeg)] h nx k n (fun h2 nx2 k2 n2 => HD l G p e s m b below meth c ox om (nI j + 6) h2 nx2 k2 n2)) : GoL l G p e s m b below meth c 316 [(0, .ref b), (1, .ref ox), (2, .ref om), (3, .int (nI j))] [] h nx k n := by
  obtain ⟨fx, c1, s1, hx, k1, n1, hr⟩ := hpr
  refine GoS.of hT C hA hXs hbl hbA [18] 60 ?_
  refine And.intro rfl (And.intro (vin_at (t := 1) (by decide) hj hL) ?_)
  refine Exists.intro _ (And.intro hx (Exists.intro c1 (Exists.intro s1 (And.intro k1 (And.intro n1 ?_)))))
  refine Runs.mono (fun u h1 nx1 hu => ?_) hr
  obtain ⟨v, fm, c2, s2, rfl, hm, k2, n2, hr2⟩ := hu
  refine And.intro rfl (And.intro (vin_at (t := 1) (by decide) hj hL) ?_)
  refine Exists.intro _ (And.intro hm (Exists.intro c2 (Exists.intro s2 (And.intro k2 (And.intro n2 ?_)))))
  refine Runs.mono (fun u2 h2 nx2 hu2 => ?_) hr2
  obtain ⟨rfl, hg⟩ := hu2
  refine And.intro (fun _ => ?_) (fun cz => absurd rfl cz)
  exact gol_loc (lv' := [(0, .ref b), (1, .ref ox), (2, .ref om), (3, .int (nI j + 6))]) ⟨rfl, rfl, rfl, rfl, trivial⟩ hg
set_option maxRecDepth 4000 in
set_option maxHeartbeats 2000000 in
theorem op_contact {l : Launch} {G : GG} {p : Program} {e : Env} {s : State} {m : MethodId} {b L : Nat} {xs : Nat → Int32} {below : List Frame} {meth : Method} {c : Code} (hT : TX l G) (C : Cx G p room_1 s m #[Value.ref b] meth c 13 s_law 330716 8110100) (hA : ∀ q, G.2.2.1 q → s.heap.size ≤ q) (hXs : va_X b L xs s s.heap) (hbl : b < s.heap.size) (hbA : ¬ G.2.2.1 b) {ox om j nx k n : Nat} {h : AH} (hj : j + 6 ≤ L) (hL : L ≤ 4000) (hpr : PR l G ox om i_X11_contact i_X12_contact [.int (xs (nI j + 1).toNatClampNeg), .int (xs (nI j + 2).toNatClampNeg)] h nx k n (fun h2 nx2 k2 n2 => HD l G p e s m b below meth c ox om (nI j + 6) h2 nx2 k2 n2)) : GoL l G p e s m b below meth c 339 [(0, .ref b), (1, .ref ox), (2, .ref om), (3, .int (nI j))] [] h nx k n := by
  obtain ⟨fx, c1, s1, hx, k1, n1, hr⟩ := hpr
  refine GoS.of hT C hA hXs hbl hbA [18] 60 ?_
  refine And.intro rfl (And.intro (vin_at (t := 1) (by decide) hj hL) ?_)
  refine And.intro rfl (And.intro (vin_at (t := 2) (by decide) hj hL) ?_)
  refine Exists.intro _ (And.intro hx (Exists.intro c1 (Exists.intro s1 (And.intro k1 (And.intro n1 ?_)))))
  refine Runs.mono (fun u h1 nx1 hu => ?_) hr
  obtain ⟨v, fm, c2, s2, rfl, hm, k2, n2, hr2⟩ := hu
  refine And.intro rfl (And.intro (vin_at (t := 1) (by decide) hj hL) ?_)
  refine And.intro rfl (And.intro (vin_at (t := 2) (by decide) hj hL) ?_)
  refine Exists.intro _ (And.intro hm (Exists.intro c2 (Exists.intro s2 (And.intro k2 (And.intro n2 ?_)))))
  refine Runs.mono (fun u2 h2 nx2 hu2 => ?_) hr2
  obtain ⟨rfl, hg⟩ := hu2
  refine And.intro (fun _ => ?_) (fun cz => absurd rfl cz)
  exact gol_loc (lv' := [(0, .ref b), (1, .ref ox), (2, .ref om), (3, .int (nI j + 6))]) ⟨rfl, rfl, rfl, rfl, trivial⟩ hg
set_option maxRecDepth 4000 in
set_option maxHeartbeats 2000000 in
theorem op_flaw {l : Launch} {G : GG} {p : Program} {e : Env} {s : State} {m : MethodId} {b L : Nat} {xs : Nat → Int32} {below : List Frame} {meth : Method} {c : Code} (hT : TX l G) (C : Cx G p room_1 s m #[Value.ref b] meth c 13 s_law 330716 8110100) (hA : ∀ q, G.2.2.1 q → s.heap.size ≤ q) (hXs : va_X b L xs s s.heap) (hbl : b < s.heap.size) (hbA : ¬ G.2.2.1 b) {ox om j nx k n : Nat} {h : AH} (hj : j + 6 ≤ L) (hL : L ≤ 4000) (hpr : PR l G ox om i_X11_flaw i_X12_flaw [.int (xs (nI j + 1).toNatClampNeg)] h nx k n (fun h2 nx2 k2 n2 => HD l G p e s m b below meth c ox om (nI j + 6) h2 nx2 k2 n2)) : GoL l G p e s m b below meth c 372 [(0, .ref b), (1, .ref ox), (2, .ref om), (3, .int (nI j))] [] h nx k n := by
  obtain ⟨fx, c1, s1, hx, k1, n1, hr⟩ := hpr
  refine GoS.of hT C hA hXs hbl hbA [18] 60 ?_
  refine And.intro rfl (And.intro (vin_at (t := 1) (by decide) hj hL) ?_)
  refine Exists.intro _ (And.intro hx (Exists.intro c1 (Exists.intro s1 (And.intro k1 (And.intro n1 ?_)))))
  refine Runs.mono (fun u h1 nx1 hu => ?_) hr
  obtain ⟨v, fm, c2, s2, rfl, hm, k2, n2, hr2⟩ := hu
  refine And.intro rfl (And.intro (vin_at (t := 1) (by decide) hj hL) ?_)
  refine Exists.intro _ (And.intro hm (Exists.intro c2 (Exists.intro s2 (And.intro k2 (And.intro n2 ?_)))))
  refine Runs.mono (fun u2 h2 nx2 hu2 => ?_) hr2
  obtain ⟨rfl, hg⟩ := hu2
  refine And.intro (fun _ => ?_) (fun cz => absurd rfl cz)
  exact gol_loc (lv' := [(0, .ref b), (1, .ref ox), (2, .ref om), (3, .int (nI j + 6))]) ⟨rfl, rfl, rfl, rfl, trivial⟩ hg
set_option maxRecDepth 4000 in
set_option maxHeartbeats 2000000 in
theorem op_settles {l : Launch} {G : GG} {p : Program} {e : Env} {s : State} {m : MethodId} {b L : Nat} {xs : Nat → Int32} {below : List Frame} {meth : Method} {c : Code} (hT : TX l G) (C : Cx G p room_1 s m #[Value.ref b] meth c 13 s_law 330716 8110100) (hA : ∀ q, G.2.2.1 q → s.heap.size ≤ q) (hXs : va_X b L xs s s.heap) (hbl : b < s.heap.size) (hbA : ¬ G.2.2.1 b) {ox om j nx k n : Nat} {h : AH} (hj : j + 6 ≤ L) (hL : L ≤ 4000) (hpr : PR l G ox om i_X11_settles i_X12_settles [.int (xs (nI j + 1).toNatClampNeg), .int (xs (nI j + 2).toNatClampNeg), .int (xs (nI j + 3).toNatClampNeg), .int (xs (nI j + 4).toNatClampNeg)] h nx k n (fun h2 nx2 k2 n2 => HD l G p e s m b below meth c ox om (nI j + 6) h2 nx2 k2 n2)) : GoL l G p e s m b below meth c 395 [(0, .ref b), (1, .ref ox), (2, .ref om), (3, .int (nI j))] [] h nx k n := by
  obtain ⟨fx, c1, s1, hx, k1, n1, hr⟩ := hpr
  refine GoS.of hT C hA hXs hbl hbA [18] 60 ?_
  refine And.intro rfl (And.intro (vin_at (t := 1) (by decide) hj hL) ?_)
  refine And.intro rfl (And.intro (vin_at (t := 2) (by decide) hj hL) ?_)
  refine And.intro rfl (And.intro (vin_at (t := 3) (by decide) hj hL) ?_)
  refine And.intro rfl (And.intro (vin_at (t := 4) (by decide) hj hL) ?_)
  refine Exists.intro _ (And.intro hx (Exists.intro c1 (Exists.intro s1 (And.intro k1 (And.intro n1 ?_)))))
  refine Runs.mono (fun u h1 nx1 hu => ?_) hr
  obtain ⟨v, fm, c2, s2, rfl, hm, k2, n2, hr2⟩ := hu
  refine And.intro rfl (And.intro (vin_at (t := 1) (by decide) hj hL) ?_)
  refine And.intro rfl (And.intro (vin_at (t := 2) (by decide) hj hL) ?_)
  refine And.intro rfl (And.intro (vin_at (t := 3) (by decide) hj hL) ?_)
  refine And.intro rfl (And.intro (vin_at (t := 4) (by decide) hj hL) ?_)
  refine Exists.intro _ (And.intro hm (Exists.intro c2 (Exists.intro s2 (And.intro k2 (And.intro n2 ?_)))))
  refine Runs.mono (fun u2 h2 nx2 hu2 => ?_) hr2
  obtain ⟨rfl, hg⟩ := hu2
  refine And.intro (fun _ => ?_) (fun cz => absurd rfl cz)
  exact gol_loc (lv' := [(0, .ref b), (1, .ref ox), (2, .ref om), (3, .int (nI j + 6))]) ⟨rfl, rfl, rfl, rfl, trivial⟩ hg
set_option maxRecDepth 4000 in
set_option maxHeartbeats 2000000 in
theorem op_shows {l : Launch} {G : GG} {p : Program} {e : Env} {s : State} {m : MethodId} {b L : Nat} {xs : Nat → Int32} {below : List Frame} {meth : Method} {c : Code} (hT : TX l G) (C : Cx G p room_1 s m #[Value.ref b] meth c 13 s_law 330716 8110100) (hA : ∀ q, G.2.2.1 q → s.heap.size ≤ q) (hXs : va_X b L xs s s.heap) (hbl : b < s.heap.size) (hbA : ¬ G.2.2.1 b) {ox om j nx k n : Nat} {h : AH} (hj : j + 6 ≤ L) (hL : L ≤ 4000) (hpr : PR l G ox om i_X11_shows i_X12_shows [.int (xs (nI j + 1).toNatClampNeg), .int (xs (nI j + 2).toNatClampNeg), .int (xs (nI j + 3).toNatClampNeg), .int (xs (nI j + 4).toNatClampNeg)] h nx k n (fun h2 nx2 k2 n2 => HD l G p e s m b below meth c ox om (nI j + 6) h2 nx2 k2 n2)) : GoL l G p e s m b below meth c 448 [(0, .ref b), (1, .ref ox), (2, .ref om), (3, .int (nI j))] [] h nx k n := by
  obtain ⟨fx, c1, s1, hx, k1, n1, hr⟩ := hpr
  refine GoS.of hT C hA hXs hbl hbA [18] 60 ?_
  refine And.intro rfl (And.intro (vin_at (t := 1) (by decide) hj hL) ?_)
  refine And.intro rfl (And.intro (vin_at (t := 2) (by decide) hj hL) ?_)
  refine And.intro rfl (And.intro (vin_at (t := 3) (by decide) hj hL) ?_)
  refine And.intro rfl (And.intro (vin_at (t := 4) (by decide) hj hL) ?_)
  refine Exists.intro _ (And.intro hx (Exists.intro c1 (Exists.intro s1 (And.intro k1 (And.intro n1 ?_)))))
  refine Runs.mono (fun u h1 nx1 hu => ?_) hr
  obtain ⟨v, fm, c2, s2, rfl, hm, k2, n2, hr2⟩ := hu
  refine And.intro rfl (And.intro (vin_at (t := 1) (by decide) hj hL) ?_)
  refine And.intro rfl (And.intro (vin_at (t := 2) (by decide) hj hL) ?_)
  refine And.intro rfl (And.intro (vin_at (t := 3) (by decide) hj hL) ?_)
  refine And.intro rfl (And.intro (vin_at (t := 4) (by decide) hj hL) ?_)
  refine Exists.intro _ (And.intro hm (Exists.intro c2 (Exists.intro s2 (And.intro k2 (And.intro n2 ?_)))))
  refine Runs.mono (fun u2 h2 nx2 hu2 => ?_) hr2
  obtain ⟨rfl, hg⟩ := hu2
  refine And.intro (fun _ => ?_) (fun cz => absurd rfl cz)
  exact gol_loc (lv' := [(0, .ref b), (1, .ref ox), (2, .ref om), (3, .int (nI j + 6))]) ⟨rfl, rfl, rfl, rfl, trivial⟩ hg
set_option maxRecDepth 4000 in
set_option maxHeartbeats 2000000 in
theorem op_start {l : Launch} {G : GG} {p : Program} {e : Env} {s : State} {m : MethodId} {b L : Nat} {xs : Nat → Int32} {below : List Frame} {meth : Method} {c : Code} (hT : TX l G) (C : Cx G p room_1 s m #[Value.ref b] meth c 13 s_law 330716 8110100) (hA : ∀ q, G.2.2.1 q → s.heap.size ≤ q) (hXs : va_X b L xs s s.heap) (hbl : b < s.heap.size) (hbA : ¬ G.2.2.1 b) {ox om j nx k n : Nat} {h : AH} (hj : j + 6 ≤ L) (hL : L ≤ 4000) (hpr : PR l G ox om i_X11_start i_X12_start [.int (xs (nI j + 1).toNatClampNeg), .int (xs (nI j + 2).toNatClampNeg)] h nx k n (fun h2 nx2 k2 n2 => HD l G p e s m b below meth c ox om (nI j + 6) h2 nx2 k2 n2)) : GoL l G p e s m b below meth c 501 [(0, .ref b), (1, .ref ox), (2, .ref om), (3, .int (nI j))] [] h nx k n := by
  obtain ⟨fx, c1, s1, hx, k1, n1, hr⟩ := hpr
  refine GoS.of hT C hA hXs hbl hbA [18] 60 ?_
  refine And.intro rfl (And.intro (vin_at (t := 1) (by decide) hj hL) ?_)
  refine And.intro rfl (And.intro (vin_at (t := 2) (by decide) hj hL) ?_)
  refine Exists.intro _ (And.intro hx (Exists.intro c1 (Exists.intro s1 (And.intro k1 (And.intro n1 ?_)))))
  refine Runs.mono (fun u h1 nx1 hu => ?_) hr
  obtain ⟨v, fm, c2, s2, rfl, hm, k2, n2, hr2⟩ := hu
  refine And.intro rfl (And.intro (vin_at (t := 1) (by decide) hj hL) ?_)
  refine And.intro rfl (And.intro (vin_at (t := 2) (by decide) hj hL) ?_)
  refine Exists.intro _ (And.intro hm (Exists.intro c2 (Exists.intro s2 (And.intro k2 (And.intro n2 ?_)))))
  refine Runs.mono (fun u2 h2 nx2 hu2 => ?_) hr2
  obtain ⟨rfl, hg⟩ := hu2
  refine And.intro (fun _ => ?_) (fun cz => absurd rfl cz)
  exact gol_loc (lv' := [(0, .ref b), (1, .ref ox), (2, .ref om), (3, .int (nI j + 6))]) ⟨rfl, rfl, rfl, rfl, trivial⟩ hg
set_option maxRecDepth 4000 in
set_option maxHeartbeats 2000000 in
theorem op_reached {l : Launch} {G : GG} {p : Program} {e : Env} {s : State} {m : MethodId} {b L : Nat} {xs : Nat → Int32} {below : List Frame} {meth : Method} {c : Code} (hT : TX l G) (C : Cx G p room_1 s m #[Value.ref b] meth c 13 s_law 330716 8110100) (hA : ∀ q, G.2.2.1 q → s.heap.size ≤ q) (hXs : va_X b L xs s s.heap) (hbl : b < s.heap.size) (hbA : ¬ G.2.2.1 b) {ox om j nx k n : Nat} {h : AH} (hj : j + 6 ≤ L) (hL : L ≤ 4000) (hpr : PR l G ox om i_X11_reached i_X12_reached [.int (xs (nI j + 1).toNatClampNeg), .int (xs (nI j + 2).toNatClampNeg)] h nx k n (fun h2 nx2 k2 n2 => HD l G p e s m b below meth c ox om (nI j + 6) h2 nx2 k2 n2)) : GoL l G p e s m b below meth c 534 [(0, .ref b), (1, .ref ox), (2, .ref om), (3, .int (nI j))] [] h nx k n := by
  obtain ⟨fx, c1, s1, hx, k1, n1, hr⟩ := hpr
  refine GoS.of hT C hA hXs hbl hbA [18] 60 ?_
  refine And.intro rfl (And.intro (vin_at (t := 1) (by decide) hj hL) ?_)
  refine And.intro rfl (And.intro (vin_at (t := 2) (by decide) hj hL) ?_)
  refine Exists.intro _ (And.intro hx (Exists.intro c1 (Exists.intro s1 (And.intro k1 (And.intro n1 ?_)))))
  refine Runs.mono (fun u h1 nx1 hu => ?_) hr
  obtain ⟨v, fm, c2, s2, rfl, hm, k2, n2, hr2⟩ := hu
  refine And.intro rfl (And.intro (vin_at (t := 1) (by decide) hj hL) ?_)
  refine And.intro rfl (And.intro (vin_at (t := 2) (by decide) hj hL) ?_)
  refine Exists.intro _ (And.intro hm (Exists.intro c2 (Exists.intro s2 (And.intro k2 (And.intro n2 ?_)))))
  refine Runs.mono (fun u2 h2 nx2 hu2 => ?_) hr2
  obtain ⟨rfl, hg⟩ := hu2
  refine And.intro (fun _ => ?_) (fun cz => absurd rfl cz)
  exact gol_loc (lv' := [(0, .ref b), (1, .ref ox), (2, .ref om), (3, .int (nI j + 6))]) ⟨rfl, rfl, rfl, rfl, trivial⟩ hg
set_option maxRecDepth 4000 in
set_option maxHeartbeats 2000000 in
theorem op_races {l : Launch} {G : GG} {p : Program} {e : Env} {s : State} {m : MethodId} {b L : Nat} {xs : Nat → Int32} {below : List Frame} {meth : Method} {c : Code} (hT : TX l G) (C : Cx G p room_1 s m #[Value.ref b] meth c 13 s_law 330716 8110100) (hA : ∀ q, G.2.2.1 q → s.heap.size ≤ q) (hXs : va_X b L xs s s.heap) (hbl : b < s.heap.size) (hbA : ¬ G.2.2.1 b) {ox om j nx k n : Nat} {h : AH} (hj : j + 6 ≤ L) (hL : L ≤ 4000) (hpr : PR l G ox om i_X11_races i_X12_races [.int (xs (nI j + 1).toNatClampNeg), .int (xs (nI j + 2).toNatClampNeg)] h nx k n (fun h2 nx2 k2 n2 => HD l G p e s m b below meth c ox om (nI j + 6) h2 nx2 k2 n2)) : GoL l G p e s m b below meth c 567 [(0, .ref b), (1, .ref ox), (2, .ref om), (3, .int (nI j))] [] h nx k n := by
  obtain ⟨fx, c1, s1, hx, k1, n1, hr⟩ := hpr
  refine GoS.of hT C hA hXs hbl hbA [18] 60 ?_
  refine And.intro rfl (And.intro (vin_at (t := 1) (by decide) hj hL) ?_)
  refine And.intro rfl (And.intro (vin_at (t := 2) (by decide) hj hL) ?_)
  refine Exists.intro _ (And.intro hx (Exists.intro c1 (Exists.intro s1 (And.intro k1 (And.intro n1 ?_)))))
  refine Runs.mono (fun u h1 nx1 hu => ?_) hr
  obtain ⟨v, fm, c2, s2, rfl, hm, k2, n2, hr2⟩ := hu
  refine And.intro rfl (And.intro (vin_at (t := 1) (by decide) hj hL) ?_)
  refine And.intro rfl (And.intro (vin_at (t := 2) (by decide) hj hL) ?_)
  refine Exists.intro _ (And.intro hm (Exists.intro c2 (Exists.intro s2 (And.intro k2 (And.intro n2 ?_)))))
  refine Runs.mono (fun u2 h2 nx2 hu2 => ?_) hr2
  obtain ⟨rfl, hg⟩ := hu2
  refine And.intro (fun _ => ?_) (fun cz => absurd rfl cz)
  exact gol_loc (lv' := [(0, .ref b), (1, .ref ox), (2, .ref om), (3, .int (nI j + 6))]) ⟨rfl, rfl, rfl, rfl, trivial⟩ hg
set_option maxRecDepth 4000 in
set_option maxHeartbeats 2000000 in
theorem op_bad {l : Launch} {G : GG} {p : Program} {e : Env} {s : State} {m : MethodId} {b L : Nat} {xs : Nat → Int32} {below : List Frame} {meth : Method} {c : Code} (hT : TX l G) (C : Cx G p room_1 s m #[Value.ref b] meth c 13 s_law 330716 8110100) (hA : ∀ q, G.2.2.1 q → s.heap.size ≤ q) (hXs : va_X b L xs s s.heap) (hbl : b < s.heap.size) (hbA : ¬ G.2.2.1 b) {ox om j nx k n : Nat} {h : AH} (hj : j + 6 ≤ L) (hL : L ≤ 4000) (hpr : PR l G ox om i_X11_bad i_X12_bad [.int (xs (nI j + 1).toNatClampNeg), .int (xs (nI j + 2).toNatClampNeg)] h nx k n (fun h2 nx2 k2 n2 => HD l G p e s m b below meth c ox om (nI j + 6) h2 nx2 k2 n2)) : GoL l G p e s m b below meth c 600 [(0, .ref b), (1, .ref ox), (2, .ref om), (3, .int (nI j))] [] h nx k n := by
  obtain ⟨fx, c1, s1, hx, k1, n1, hr⟩ := hpr
  refine GoS.of hT C hA hXs hbl hbA [18] 60 ?_
  refine And.intro rfl (And.intro (vin_at (t := 1) (by decide) hj hL) ?_)
  refine And.intro rfl (And.intro (vin_at (t := 2) (by decide) hj hL) ?_)
  refine Exists.intro _ (And.intro hx (Exists.intro c1 (Exists.intro s1 (And.intro k1 (And.intro n1 ?_)))))
  refine Runs.mono (fun u h1 nx1 hu => ?_) hr
  obtain ⟨v, fm, c2, s2, rfl, hm, k2, n2, hr2⟩ := hu
  refine And.intro rfl (And.intro (vin_at (t := 1) (by decide) hj hL) ?_)
  refine And.intro rfl (And.intro (vin_at (t := 2) (by decide) hj hL) ?_)
  refine Exists.intro _ (And.intro hm (Exists.intro c2 (Exists.intro s2 (And.intro k2 (And.intro n2 ?_)))))
  refine Runs.mono (fun u2 h2 nx2 hu2 => ?_) hr2
  obtain ⟨rfl, hg⟩ := hu2
  refine And.intro (fun _ => ?_) (fun cz => absurd rfl cz)
  exact gol_loc (lv' := [(0, .ref b), (1, .ref ox), (2, .ref om), (3, .int (nI j + 6))]) ⟨rfl, rfl, rfl, rfl, trivial⟩ hg
set_option maxRecDepth 4000 in
set_option maxHeartbeats 2000000 in
theorem op_badAct {l : Launch} {G : GG} {p : Program} {e : Env} {s : State} {m : MethodId} {b L : Nat} {xs : Nat → Int32} {below : List Frame} {meth : Method} {c : Code} (hT : TX l G) (C : Cx G p room_1 s m #[Value.ref b] meth c 13 s_law 330716 8110100) (hA : ∀ q, G.2.2.1 q → s.heap.size ≤ q) (hXs : va_X b L xs s s.heap) (hbl : b < s.heap.size) (hbA : ¬ G.2.2.1 b) {ox om j nx k n : Nat} {h : AH} (hj : j + 6 ≤ L) (hL : L ≤ 4000) (hpr : PR l G ox om i_X11_badAct i_X12_badAct [.int (xs (nI j + 1).toNatClampNeg), .int (xs (nI j + 2).toNatClampNeg), .int (xs (nI j + 3).toNatClampNeg)] h nx k n (fun h2 nx2 k2 n2 => HD l G p e s m b below meth c ox om (nI j + 6) h2 nx2 k2 n2)) : GoL l G p e s m b below meth c 633 [(0, .ref b), (1, .ref ox), (2, .ref om), (3, .int (nI j))] [] h nx k n := by
  obtain ⟨fx, c1, s1, hx, k1, n1, hr⟩ := hpr
  refine GoS.of hT C hA hXs hbl hbA [18] 60 ?_
  refine And.intro rfl (And.intro (vin_at (t := 1) (by decide) hj hL) ?_)
  refine And.intro rfl (And.intro (vin_at (t := 2) (by decide) hj hL) ?_)
  refine And.intro rfl (And.intro (vin_at (t := 3) (by decide) hj hL) ?_)
  refine Exists.intro _ (And.intro hx (Exists.intro c1 (Exists.intro s1 (And.intro k1 (And.intro n1 ?_)))))
  refine Runs.mono (fun u h1 nx1 hu => ?_) hr
  obtain ⟨v, fm, c2, s2, rfl, hm, k2, n2, hr2⟩ := hu
  refine And.intro rfl (And.intro (vin_at (t := 1) (by decide) hj hL) ?_)
  refine And.intro rfl (And.intro (vin_at (t := 2) (by decide) hj hL) ?_)
  refine And.intro rfl (And.intro (vin_at (t := 3) (by decide) hj hL) ?_)
  refine Exists.intro _ (And.intro hm (Exists.intro c2 (Exists.intro s2 (And.intro k2 (And.intro n2 ?_)))))
  refine Runs.mono (fun u2 h2 nx2 hu2 => ?_) hr2
  obtain ⟨rfl, hg⟩ := hu2
  refine And.intro (fun _ => ?_) (fun cz => absurd rfl cz)
  exact gol_loc (lv' := [(0, .ref b), (1, .ref ox), (2, .ref om), (3, .int (nI j + 6))]) ⟨rfl, rfl, rfl, rfl, trivial⟩ hg
set_option maxRecDepth 4000 in
set_option maxHeartbeats 2000000 in
theorem op_singles {l : Launch} {G : GG} {p : Program} {e : Env} {s : State} {m : MethodId} {b L : Nat} {xs : Nat → Int32} {below : List Frame} {meth : Method} {c : Code} (hT : TX l G) (C : Cx G p room_1 s m #[Value.ref b] meth c 13 s_law 330716 8110100) (hA : ∀ q, G.2.2.1 q → s.heap.size ≤ q) (hXs : va_X b L xs s s.heap) (hbl : b < s.heap.size) (hbA : ¬ G.2.2.1 b) {ox om j nx k n : Nat} {h : AH} (hj : j + 6 ≤ L) (hL : L ≤ 4000) (hpr : PR l G ox om i_X11_singles i_X12_singles [] h nx k n (fun h2 nx2 k2 n2 => HD l G p e s m b below meth c ox om (nI j + 6) h2 nx2 k2 n2)) : GoL l G p e s m b below meth c 676 [(0, .ref b), (1, .ref ox), (2, .ref om), (3, .int (nI j))] [] h nx k n := by
  obtain ⟨fx, c1, s1, hx, k1, n1, hr⟩ := hpr
  refine GoS.of hT C hA hXs hbl hbA [18] 60 ?_
  refine Exists.intro _ (And.intro hx (Exists.intro c1 (Exists.intro s1 (And.intro k1 (And.intro n1 ?_)))))
  refine Runs.mono (fun u h1 nx1 hu => ?_) hr
  obtain ⟨v, fm, c2, s2, rfl, hm, k2, n2, hr2⟩ := hu
  refine Exists.intro _ (And.intro hm (Exists.intro c2 (Exists.intro s2 (And.intro k2 (And.intro n2 ?_)))))
  refine Runs.mono (fun u2 h2 nx2 hu2 => ?_) hr2
  obtain ⟨rfl, hg⟩ := hu2
  refine And.intro (fun _ => ?_) (fun cz => absurd rfl cz)
  exact gol_loc (lv' := [(0, .ref b), (1, .ref ox), (2, .ref om), (3, .int (nI j + 6))]) ⟨rfl, rfl, rfl, rfl, trivial⟩ hg
set_option maxRecDepth 4000 in
set_option maxHeartbeats 2000000 in
theorem op_pairs {l : Launch} {G : GG} {p : Program} {e : Env} {s : State} {m : MethodId} {b L : Nat} {xs : Nat → Int32} {below : List Frame} {meth : Method} {c : Code} (hT : TX l G) (C : Cx G p room_1 s m #[Value.ref b] meth c 13 s_law 330716 8110100) (hA : ∀ q, G.2.2.1 q → s.heap.size ≤ q) (hXs : va_X b L xs s s.heap) (hbl : b < s.heap.size) (hbA : ¬ G.2.2.1 b) {ox om j nx k n : Nat} {h : AH} (hj : j + 6 ≤ L) (hL : L ≤ 4000) (hpr : PR l G ox om i_X11_pairs i_X12_pairs [.int (xs (nI j + 1).toNatClampNeg)] h nx k n (fun h2 nx2 k2 n2 => HD l G p e s m b below meth c ox om (nI j + 6) h2 nx2 k2 n2)) : GoL l G p e s m b below meth c 689 [(0, .ref b), (1, .ref ox), (2, .ref om), (3, .int (nI j))] [] h nx k n := by
  obtain ⟨fx, c1, s1, hx, k1, n1, hr⟩ := hpr
  refine GoS.of hT C hA hXs hbl hbA [18] 60 ?_
  refine And.intro rfl (And.intro (vin_at (t := 1) (by decide) hj hL) ?_)
  refine Exists.intro _ (And.intro hx (Exists.intro c1 (Exists.intro s1 (And.intro k1 (And.intro n1 ?_)))))
  refine Runs.mono (fun u h1 nx1 hu => ?_) hr
  obtain ⟨v, fm, c2, s2, rfl, hm, k2, n2, hr2⟩ := hu
  refine And.intro rfl (And.intro (vin_at (t := 1) (by decide) hj hL) ?_)
  refine Exists.intro _ (And.intro hm (Exists.intro c2 (Exists.intro s2 (And.intro k2 (And.intro n2 ?_)))))
  refine Runs.mono (fun u2 h2 nx2 hu2 => ?_) hr2
  obtain ⟨rfl, hg⟩ := hu2
  refine And.intro (fun _ => ?_) (fun cz => absurd rfl cz)
  exact gol_loc (lv' := [(0, .ref b), (1, .ref ox), (2, .ref om), (3, .int (nI j + 6))]) ⟨rfl, rfl, rfl, rfl, trivial⟩ hg
set_option maxRecDepth 4000 in
set_option maxHeartbeats 2000000 in
theorem op_pair {l : Launch} {G : GG} {p : Program} {e : Env} {s : State} {m : MethodId} {b L : Nat} {xs : Nat → Int32} {below : List Frame} {meth : Method} {c : Code} (hT : TX l G) (C : Cx G p room_1 s m #[Value.ref b] meth c 13 s_law 330716 8110100) (hA : ∀ q, G.2.2.1 q → s.heap.size ≤ q) (hXs : va_X b L xs s s.heap) (hbl : b < s.heap.size) (hbA : ¬ G.2.2.1 b) {ox om j nx k n : Nat} {h : AH} (hj : j + 6 ≤ L) (hL : L ≤ 4000) (hpr : PR l G ox om i_X11_pair i_X12_pair [.int (xs (nI j + 1).toNatClampNeg), .int (xs (nI j + 2).toNatClampNeg)] h nx k n (fun h2 nx2 k2 n2 => HD l G p e s m b below meth c ox om (nI j + 6) h2 nx2 k2 n2)) : GoL l G p e s m b below meth c 712 [(0, .ref b), (1, .ref ox), (2, .ref om), (3, .int (nI j))] [] h nx k n := by
  obtain ⟨fx, c1, s1, hx, k1, n1, hr⟩ := hpr
  refine GoS.of hT C hA hXs hbl hbA [18] 60 ?_
  refine And.intro rfl (And.intro (vin_at (t := 1) (by decide) hj hL) ?_)
  refine And.intro rfl (And.intro (vin_at (t := 2) (by decide) hj hL) ?_)
  refine Exists.intro _ (And.intro hx (Exists.intro c1 (Exists.intro s1 (And.intro k1 (And.intro n1 ?_)))))
  refine Runs.mono (fun u h1 nx1 hu => ?_) hr
  obtain ⟨v, fm, c2, s2, rfl, hm, k2, n2, hr2⟩ := hu
  refine And.intro rfl (And.intro (vin_at (t := 1) (by decide) hj hL) ?_)
  refine And.intro rfl (And.intro (vin_at (t := 2) (by decide) hj hL) ?_)
  refine Exists.intro _ (And.intro hm (Exists.intro c2 (Exists.intro s2 (And.intro k2 (And.intro n2 ?_)))))
  refine Runs.mono (fun u2 h2 nx2 hu2 => ?_) hr2
  obtain ⟨rfl, hg⟩ := hu2
  refine And.intro (fun _ => ?_) (fun cz => absurd rfl cz)
  exact gol_loc (lv' := [(0, .ref b), (1, .ref ox), (2, .ref om), (3, .int (nI j + 6))]) ⟨rfl, rfl, rfl, rfl, trivial⟩ hg
set_option maxRecDepth 4000 in
set_option maxHeartbeats 2000000 in
theorem op_least {l : Launch} {G : GG} {p : Program} {e : Env} {s : State} {m : MethodId} {b L : Nat} {xs : Nat → Int32} {below : List Frame} {meth : Method} {c : Code} (hT : TX l G) (C : Cx G p room_1 s m #[Value.ref b] meth c 13 s_law 330716 8110100) (hA : ∀ q, G.2.2.1 q → s.heap.size ≤ q) (hXs : va_X b L xs s s.heap) (hbl : b < s.heap.size) (hbA : ¬ G.2.2.1 b) {ox om j nx k n : Nat} {h : AH} (hj : j + 6 ≤ L) (hL : L ≤ 4000) (hpr : PR l G ox om i_X11_least i_X12_least [.int (xs (nI j + 1).toNatClampNeg)] h nx k n (fun h2 nx2 k2 n2 => HD l G p e s m b below meth c ox om (nI j + 6) h2 nx2 k2 n2)) : GoL l G p e s m b below meth c 745 [(0, .ref b), (1, .ref ox), (2, .ref om), (3, .int (nI j))] [] h nx k n := by
  obtain ⟨fx, c1, s1, hx, k1, n1, hr⟩ := hpr
  refine GoS.of hT C hA hXs hbl hbA [18] 60 ?_
  refine And.intro rfl (And.intro (vin_at (t := 1) (by decide) hj hL) ?_)
  refine Exists.intro _ (And.intro hx (Exists.intro c1 (Exists.intro s1 (And.intro k1 (And.intro n1 ?_)))))
  refine Runs.mono (fun u h1 nx1 hu => ?_) hr
  obtain ⟨v, fm, c2, s2, rfl, hm, k2, n2, hr2⟩ := hu
  refine And.intro rfl (And.intro (vin_at (t := 1) (by decide) hj hL) ?_)
  refine Exists.intro _ (And.intro hm (Exists.intro c2 (Exists.intro s2 (And.intro k2 (And.intro n2 ?_)))))
  refine Runs.mono (fun u2 h2 nx2 hu2 => ?_) hr2
  obtain ⟨rfl, hg⟩ := hu2
  refine And.intro (fun _ => ?_) (fun cz => absurd rfl cz)
  exact gol_loc (lv' := [(0, .ref b), (1, .ref ox), (2, .ref om), (3, .int (nI j + 6))]) ⟨rfl, rfl, rfl, rfl, trivial⟩ hg
set_option maxRecDepth 4000 in
set_option maxHeartbeats 2000000 in
theorem op_leastAct {l : Launch} {G : GG} {p : Program} {e : Env} {s : State} {m : MethodId} {b L : Nat} {xs : Nat → Int32} {below : List Frame} {meth : Method} {c : Code} (hT : TX l G) (C : Cx G p room_1 s m #[Value.ref b] meth c 13 s_law 330716 8110100) (hA : ∀ q, G.2.2.1 q → s.heap.size ≤ q) (hXs : va_X b L xs s s.heap) (hbl : b < s.heap.size) (hbA : ¬ G.2.2.1 b) {ox om j nx k n : Nat} {h : AH} (hj : j + 6 ≤ L) (hL : L ≤ 4000) (hpr : PR l G ox om i_X11_leastAct i_X12_leastAct [.int (xs (nI j + 1).toNatClampNeg), .int (xs (nI j + 2).toNatClampNeg)] h nx k n (fun h2 nx2 k2 n2 => HD l G p e s m b below meth c ox om (nI j + 6) h2 nx2 k2 n2)) : GoL l G p e s m b below meth c 768 [(0, .ref b), (1, .ref ox), (2, .ref om), (3, .int (nI j))] [] h nx k n := by
  obtain ⟨fx, c1, s1, hx, k1, n1, hr⟩ := hpr
  refine GoS.of hT C hA hXs hbl hbA [18] 60 ?_
  refine And.intro rfl (And.intro (vin_at (t := 1) (by decide) hj hL) ?_)
  refine And.intro rfl (And.intro (vin_at (t := 2) (by decide) hj hL) ?_)
  refine Exists.intro _ (And.intro hx (Exists.intro c1 (Exists.intro s1 (And.intro k1 (And.intro n1 ?_)))))
  refine Runs.mono (fun u h1 nx1 hu => ?_) hr
  obtain ⟨v, fm, c2, s2, rfl, hm, k2, n2, hr2⟩ := hu
  refine And.intro rfl (And.intro (vin_at (t := 1) (by decide) hj hL) ?_)
  refine And.intro rfl (And.intro (vin_at (t := 2) (by decide) hj hL) ?_)
  refine Exists.intro _ (And.intro hm (Exists.intro c2 (Exists.intro s2 (And.intro k2 (And.intro n2 ?_)))))
  refine Runs.mono (fun u2 h2 nx2 hu2 => ?_) hr2
  obtain ⟨rfl, hg⟩ := hu2
  refine And.intro (fun _ => ?_) (fun cz => absurd rfl cz)
  exact gol_loc (lv' := [(0, .ref b), (1, .ref ox), (2, .ref om), (3, .int (nI j + 6))]) ⟨rfl, rfl, rfl, rfl, trivial⟩ hg
set_option maxRecDepth 4000 in
set_option maxHeartbeats 2000000 in
theorem op_hidden {l : Launch} {G : GG} {p : Program} {e : Env} {s : State} {m : MethodId} {b L : Nat} {xs : Nat → Int32} {below : List Frame} {meth : Method} {c : Code} (hT : TX l G) (C : Cx G p room_1 s m #[Value.ref b] meth c 13 s_law 330716 8110100) (hA : ∀ q, G.2.2.1 q → s.heap.size ≤ q) (hXs : va_X b L xs s s.heap) (hbl : b < s.heap.size) (hbA : ¬ G.2.2.1 b) {ox om j nx k n : Nat} {h : AH} (hj : j + 6 ≤ L) (hL : L ≤ 4000) (hpr : PR l G ox om i_X11_hidden i_X12_hidden [] h nx k n (fun h2 nx2 k2 n2 => HD l G p e s m b below meth c ox om (nI j + 6) h2 nx2 k2 n2)) : GoL l G p e s m b below meth c 801 [(0, .ref b), (1, .ref ox), (2, .ref om), (3, .int (nI j))] [] h nx k n := by
  obtain ⟨fx, c1, s1, hx, k1, n1, hr⟩ := hpr
  refine GoS.of hT C hA hXs hbl hbA [18] 60 ?_
  refine Exists.intro _ (And.intro hx (Exists.intro c1 (Exists.intro s1 (And.intro k1 (And.intro n1 ?_)))))
  refine Runs.mono (fun u h1 nx1 hu => ?_) hr
  obtain ⟨v, fm, c2, s2, rfl, hm, k2, n2, hr2⟩ := hu
  refine Exists.intro _ (And.intro hm (Exists.intro c2 (Exists.intro s2 (And.intro k2 (And.intro n2 ?_)))))
  refine Runs.mono (fun u2 h2 nx2 hu2 => ?_) hr2
  obtain ⟨rfl, hg⟩ := hu2
  refine And.intro (fun _ => ?_) (fun cz => absurd rfl cz)
  exact gol_loc (lv' := [(0, .ref b), (1, .ref ox), (2, .ref om), (3, .int (nI j + 6))]) ⟨rfl, rfl, rfl, rfl, trivial⟩ hg
set_option maxRecDepth 4000 in
set_option maxHeartbeats 2000000 in
theorem op_suite {l : Launch} {G : GG} {p : Program} {e : Env} {s : State} {m : MethodId} {b L : Nat} {xs : Nat → Int32} {below : List Frame} {meth : Method} {c : Code} (hT : TX l G) (C : Cx G p room_1 s m #[Value.ref b] meth c 13 s_law 330716 8110100) (hA : ∀ q, G.2.2.1 q → s.heap.size ≤ q) (hXs : va_X b L xs s s.heap) (hbl : b < s.heap.size) (hbA : ¬ G.2.2.1 b) {ox om j nx k n : Nat} {h : AH} (hj : j + 6 ≤ L) (hL : L ≤ 4000) (hpr : PR l G ox om i_X11_suite i_X12_suite [] h nx k n (fun h2 nx2 k2 n2 => HD l G p e s m b below meth c ox om (nI j + 6) h2 nx2 k2 n2)) : GoL l G p e s m b below meth c 814 [(0, .ref b), (1, .ref ox), (2, .ref om), (3, .int (nI j))] [] h nx k n := by
  obtain ⟨fx, c1, s1, hx, k1, n1, hr⟩ := hpr
  refine GoS.of hT C hA hXs hbl hbA [18] 60 ?_
  refine Exists.intro _ (And.intro hx (Exists.intro c1 (Exists.intro s1 (And.intro k1 (And.intro n1 ?_)))))
  refine Runs.mono (fun u h1 nx1 hu => ?_) hr
  obtain ⟨v, fm, c2, s2, rfl, hm, k2, n2, hr2⟩ := hu
  refine Exists.intro _ (And.intro hm (Exists.intro c2 (Exists.intro s2 (And.intro k2 (And.intro n2 ?_)))))
  refine Runs.mono (fun u2 h2 nx2 hu2 => ?_) hr2
  obtain ⟨rfl, hg⟩ := hu2
  refine And.intro (fun _ => ?_) (fun cz => absurd rfl cz)
  exact gol_loc (lv' := [(0, .ref b), (1, .ref ox), (2, .ref om), (3, .int (nI j + 6))]) ⟨rfl, rfl, rfl, rfl, trivial⟩ hg
set_option maxRecDepth 4000 in
set_option maxHeartbeats 2000000 in
theorem op_suiteAct {l : Launch} {G : GG} {p : Program} {e : Env} {s : State} {m : MethodId} {b L : Nat} {xs : Nat → Int32} {below : List Frame} {meth : Method} {c : Code} (hT : TX l G) (C : Cx G p room_1 s m #[Value.ref b] meth c 13 s_law 330716 8110100) (hA : ∀ q, G.2.2.1 q → s.heap.size ≤ q) (hXs : va_X b L xs s s.heap) (hbl : b < s.heap.size) (hbA : ¬ G.2.2.1 b) {ox om j nx k n : Nat} {h : AH} (hj : j + 6 ≤ L) (hL : L ≤ 4000) (hpr : PR l G ox om i_X11_suiteAct i_X12_suiteAct [.int (xs (nI j + 1).toNatClampNeg), .int (xs (nI j + 2).toNatClampNeg)] h nx k n (fun h2 nx2 k2 n2 => HD l G p e s m b below meth c ox om (nI j + 6) h2 nx2 k2 n2)) : GoL l G p e s m b below meth c 827 [(0, .ref b), (1, .ref ox), (2, .ref om), (3, .int (nI j))] [] h nx k n := by
  obtain ⟨fx, c1, s1, hx, k1, n1, hr⟩ := hpr
  refine GoS.of hT C hA hXs hbl hbA [18] 60 ?_
  refine And.intro rfl (And.intro (vin_at (t := 1) (by decide) hj hL) ?_)
  refine And.intro rfl (And.intro (vin_at (t := 2) (by decide) hj hL) ?_)
  refine Exists.intro _ (And.intro hx (Exists.intro c1 (Exists.intro s1 (And.intro k1 (And.intro n1 ?_)))))
  refine Runs.mono (fun u h1 nx1 hu => ?_) hr
  obtain ⟨v, fm, c2, s2, rfl, hm, k2, n2, hr2⟩ := hu
  refine And.intro rfl (And.intro (vin_at (t := 1) (by decide) hj hL) ?_)
  refine And.intro rfl (And.intro (vin_at (t := 2) (by decide) hj hL) ?_)
  refine Exists.intro _ (And.intro hm (Exists.intro c2 (Exists.intro s2 (And.intro k2 (And.intro n2 ?_)))))
  refine Runs.mono (fun u2 h2 nx2 hu2 => ?_) hr2
  obtain ⟨rfl, hg⟩ := hu2
  refine And.intro (fun _ => ?_) (fun cz => absurd rfl cz)
  exact gol_loc (lv' := [(0, .ref b), (1, .ref ox), (2, .ref om), (3, .int (nI j + 6))]) ⟨rfl, rfl, rfl, rfl, trivial⟩ hg
set_option maxRecDepth 4000 in
set_option maxHeartbeats 2000000 in
theorem op_suiteActs {l : Launch} {G : GG} {p : Program} {e : Env} {s : State} {m : MethodId} {b L : Nat} {xs : Nat → Int32} {below : List Frame} {meth : Method} {c : Code} (hT : TX l G) (C : Cx G p room_1 s m #[Value.ref b] meth c 13 s_law 330716 8110100) (hA : ∀ q, G.2.2.1 q → s.heap.size ≤ q) (hXs : va_X b L xs s s.heap) (hbl : b < s.heap.size) (hbA : ¬ G.2.2.1 b) {ox om j nx k n : Nat} {h : AH} (hj : j + 6 ≤ L) (hL : L ≤ 4000) (hpr : PR l G ox om i_X11_suiteActs i_X12_suiteActs [] h nx k n (fun h2 nx2 k2 n2 => HD l G p e s m b below meth c ox om (nI j + 6) h2 nx2 k2 n2)) : GoL l G p e s m b below meth c 860 [(0, .ref b), (1, .ref ox), (2, .ref om), (3, .int (nI j))] [] h nx k n := by
  obtain ⟨fx, c1, s1, hx, k1, n1, hr⟩ := hpr
  refine GoS.of hT C hA hXs hbl hbA [18] 60 ?_
  refine Exists.intro _ (And.intro hx (Exists.intro c1 (Exists.intro s1 (And.intro k1 (And.intro n1 ?_)))))
  refine Runs.mono (fun u h1 nx1 hu => ?_) hr
  obtain ⟨v, fm, c2, s2, rfl, hm, k2, n2, hr2⟩ := hu
  refine Exists.intro _ (And.intro hm (Exists.intro c2 (Exists.intro s2 (And.intro k2 (And.intro n2 ?_)))))
  refine Runs.mono (fun u2 h2 nx2 hu2 => ?_) hr2
  obtain ⟨rfl, hg⟩ := hu2
  refine And.intro (fun _ => ?_) (fun cz => absurd rfl cz)
  exact gol_loc (lv' := [(0, .ref b), (1, .ref ox), (2, .ref om), (3, .int (nI j + 6))]) ⟨rfl, rfl, rfl, rfl, trivial⟩ hg
set_option maxRecDepth 4000 in
set_option maxHeartbeats 2000000 in
theorem op_unlike {l : Launch} {G : GG} {p : Program} {e : Env} {s : State} {m : MethodId} {b L : Nat} {xs : Nat → Int32} {below : List Frame} {meth : Method} {c : Code} (hT : TX l G) (C : Cx G p room_1 s m #[Value.ref b] meth c 13 s_law 330716 8110100) (hA : ∀ q, G.2.2.1 q → s.heap.size ≤ q) (hXs : va_X b L xs s s.heap) (hbl : b < s.heap.size) (hbA : ¬ G.2.2.1 b) {ox om j nx k n : Nat} {h : AH} (hj : j + 6 ≤ L) (hL : L ≤ 4000) (hpr : PR l G ox om i_X11_unlike i_X12_unlike [.int (xs (nI j + 1).toNatClampNeg), .int (xs (nI j + 2).toNatClampNeg)] h nx k n (fun h2 nx2 k2 n2 => HD l G p e s m b below meth c ox om (nI j + 6) h2 nx2 k2 n2)) : GoL l G p e s m b below meth c 873 [(0, .ref b), (1, .ref ox), (2, .ref om), (3, .int (nI j))] [] h nx k n := by
  obtain ⟨fx, c1, s1, hx, k1, n1, hr⟩ := hpr
  refine GoS.of hT C hA hXs hbl hbA [18] 60 ?_
  refine And.intro rfl (And.intro (vin_at (t := 1) (by decide) hj hL) ?_)
  refine And.intro rfl (And.intro (vin_at (t := 2) (by decide) hj hL) ?_)
  refine Exists.intro _ (And.intro hx (Exists.intro c1 (Exists.intro s1 (And.intro k1 (And.intro n1 ?_)))))
  refine Runs.mono (fun u h1 nx1 hu => ?_) hr
  obtain ⟨v, fm, c2, s2, rfl, hm, k2, n2, hr2⟩ := hu
  refine And.intro rfl (And.intro (vin_at (t := 1) (by decide) hj hL) ?_)
  refine And.intro rfl (And.intro (vin_at (t := 2) (by decide) hj hL) ?_)
  refine Exists.intro _ (And.intro hm (Exists.intro c2 (Exists.intro s2 (And.intro k2 (And.intro n2 ?_)))))
  refine Runs.mono (fun u2 h2 nx2 hu2 => ?_) hr2
  obtain ⟨rfl, hg⟩ := hu2
  refine And.intro (fun _ => ?_) (fun cz => absurd rfl cz)
  exact gol_loc (lv' := [(0, .ref b), (1, .ref ox), (2, .ref om), (3, .int (nI j + 6))]) ⟨rfl, rfl, rfl, rfl, trivial⟩ hg
set_option maxRecDepth 4000 in
set_option maxHeartbeats 2000000 in
theorem op_safe {l : Launch} {G : GG} {p : Program} {e : Env} {s : State} {m : MethodId} {b L : Nat} {xs : Nat → Int32} {below : List Frame} {meth : Method} {c : Code} (hT : TX l G) (C : Cx G p room_1 s m #[Value.ref b] meth c 13 s_law 330716 8110100) (hA : ∀ q, G.2.2.1 q → s.heap.size ≤ q) (hXs : va_X b L xs s s.heap) (hbl : b < s.heap.size) (hbA : ¬ G.2.2.1 b) {ox om j nx k n : Nat} {h : AH} (hj : j + 6 ≤ L) (hL : L ≤ 4000) (hpr : PR l G ox om i_X11_safe i_X12_safe [.int (xs (nI j + 1).toNatClampNeg), .int (xs (nI j + 2).toNatClampNeg), .int (xs (nI j + 3).toNatClampNeg)] h nx k n (fun h2 nx2 k2 n2 => HD l G p e s m b below meth c ox om (nI j + 6) h2 nx2 k2 n2)) : GoL l G p e s m b below meth c 906 [(0, .ref b), (1, .ref ox), (2, .ref om), (3, .int (nI j))] [] h nx k n := by
  obtain ⟨fx, c1, s1, hx, k1, n1, hr⟩ := hpr
  refine GoS.of hT C hA hXs hbl hbA [18] 60 ?_
  refine And.intro rfl (And.intro (vin_at (t := 1) (by decide) hj hL) ?_)
  refine And.intro rfl (And.intro (vin_at (t := 2) (by decide) hj hL) ?_)
  refine And.intro rfl (And.intro (vin_at (t := 3) (by decide) hj hL) ?_)
  refine Exists.intro _ (And.intro hx (Exists.intro c1 (Exists.intro s1 (And.intro k1 (And.intro n1 ?_)))))
  refine Runs.mono (fun u h1 nx1 hu => ?_) hr
  obtain ⟨v, fm, c2, s2, rfl, hm, k2, n2, hr2⟩ := hu
  refine And.intro rfl (And.intro (vin_at (t := 1) (by decide) hj hL) ?_)
  refine And.intro rfl (And.intro (vin_at (t := 2) (by decide) hj hL) ?_)
  refine And.intro rfl (And.intro (vin_at (t := 3) (by decide) hj hL) ?_)
  refine Exists.intro _ (And.intro hm (Exists.intro c2 (Exists.intro s2 (And.intro k2 (And.intro n2 ?_)))))
  refine Runs.mono (fun u2 h2 nx2 hu2 => ?_) hr2
  obtain ⟨rfl, hg⟩ := hu2
  refine And.intro (fun _ => ?_) (fun cz => absurd rfl cz)
  exact gol_loc (lv' := [(0, .ref b), (1, .ref ox), (2, .ref om), (3, .int (nI j + 6))]) ⟨rfl, rfl, rfl, rfl, trivial⟩ hg
set_option maxRecDepth 4000 in
set_option maxHeartbeats 2000000 in
theorem op_plan {l : Launch} {G : GG} {p : Program} {e : Env} {s : State} {m : MethodId} {b L : Nat} {xs : Nat → Int32} {below : List Frame} {meth : Method} {c : Code} (hT : TX l G) (C : Cx G p room_1 s m #[Value.ref b] meth c 13 s_law 330716 8110100) (hA : ∀ q, G.2.2.1 q → s.heap.size ≤ q) (hXs : va_X b L xs s s.heap) (hbl : b < s.heap.size) (hbA : ¬ G.2.2.1 b) {ox om j nx k n : Nat} {h : AH} (hj : j + 6 ≤ L) (hL : L ≤ 4000) (hpr : PR l G ox om i_X11_plan i_X12_plan [.int (xs (nI j + 1).toNatClampNeg), .int (xs (nI j + 2).toNatClampNeg), .int (xs (nI j + 3).toNatClampNeg)] h nx k n (fun h2 nx2 k2 n2 => HD l G p e s m b below meth c ox om (nI j + 6) h2 nx2 k2 n2)) : GoL l G p e s m b below meth c 949 [(0, .ref b), (1, .ref ox), (2, .ref om), (3, .int (nI j))] [] h nx k n := by
  obtain ⟨fx, c1, s1, hx, k1, n1, hr⟩ := hpr
  refine GoS.of hT C hA hXs hbl hbA [18] 60 ?_
  refine And.intro rfl (And.intro (vin_at (t := 1) (by decide) hj hL) ?_)
  refine And.intro rfl (And.intro (vin_at (t := 2) (by decide) hj hL) ?_)
  refine And.intro rfl (And.intro (vin_at (t := 3) (by decide) hj hL) ?_)
  refine Exists.intro _ (And.intro hx (Exists.intro c1 (Exists.intro s1 (And.intro k1 (And.intro n1 ?_)))))
  refine Runs.mono (fun u h1 nx1 hu => ?_) hr
  obtain ⟨v, fm, c2, s2, rfl, hm, k2, n2, hr2⟩ := hu
  refine And.intro rfl (And.intro (vin_at (t := 1) (by decide) hj hL) ?_)
  refine And.intro rfl (And.intro (vin_at (t := 2) (by decide) hj hL) ?_)
  refine And.intro rfl (And.intro (vin_at (t := 3) (by decide) hj hL) ?_)
  refine Exists.intro _ (And.intro hm (Exists.intro c2 (Exists.intro s2 (And.intro k2 (And.intro n2 ?_)))))
  refine Runs.mono (fun u2 h2 nx2 hu2 => ?_) hr2
  obtain ⟨rfl, hg⟩ := hu2
  refine And.intro (fun _ => ?_) (fun cz => absurd rfl cz)
  exact gol_loc (lv' := [(0, .ref b), (1, .ref ox), (2, .ref om), (3, .int (nI j + 6))]) ⟨rfl, rfl, rfl, rfl, trivial⟩ hg
set_option maxRecDepth 4000 in
set_option maxHeartbeats 2000000 in
theorem op_stage {l : Launch} {G : GG} {p : Program} {e : Env} {s : State} {m : MethodId} {b L : Nat} {xs : Nat → Int32} {below : List Frame} {meth : Method} {c : Code} (hT : TX l G) (C : Cx G p room_1 s m #[Value.ref b] meth c 13 s_law 330716 8110100) (hA : ∀ q, G.2.2.1 q → s.heap.size ≤ q) (hXs : va_X b L xs s s.heap) (hbl : b < s.heap.size) (hbA : ¬ G.2.2.1 b) {ox om j nx k n : Nat} {h : AH} (hj : j + 6 ≤ L) (hL : L ≤ 4000) (hpr : PR l G ox om i_X11_stage i_X12_stage [.int (xs (nI j + 1).toNatClampNeg), .int (xs (nI j + 2).toNatClampNeg), .int (xs (nI j + 3).toNatClampNeg), .int (xs (nI j + 4).toNatClampNeg)] h nx k n (fun h2 nx2 k2 n2 => HD l G p e s m b below meth c ox om (nI j + 6) h2 nx2 k2 n2)) : GoL l G p e s m b below meth c 992 [(0, .ref b), (1, .ref ox), (2, .ref om), (3, .int (nI j))] [] h nx k n := by
  obtain ⟨fx, c1, s1, hx, k1, n1, hr⟩ := hpr
  refine GoS.of hT C hA hXs hbl hbA [18] 60 ?_
  refine And.intro rfl (And.intro (vin_at (t := 1) (by decide) hj hL) ?_)
  refine And.intro rfl (And.intro (vin_at (t := 2) (by decide) hj hL) ?_)
  refine And.intro rfl (And.intro (vin_at (t := 3) (by decide) hj hL) ?_)
  refine And.intro rfl (And.intro (vin_at (t := 4) (by decide) hj hL) ?_)
  refine Exists.intro _ (And.intro hx (Exists.intro c1 (Exists.intro s1 (And.intro k1 (And.intro n1 ?_)))))
  refine Runs.mono (fun u h1 nx1 hu => ?_) hr
  obtain ⟨v, fm, c2, s2, rfl, hm, k2, n2, hr2⟩ := hu
  refine And.intro rfl (And.intro (vin_at (t := 1) (by decide) hj hL) ?_)
  refine And.intro rfl (And.intro (vin_at (t := 2) (by decide) hj hL) ?_)
  refine And.intro rfl (And.intro (vin_at (t := 3) (by decide) hj hL) ?_)
  refine And.intro rfl (And.intro (vin_at (t := 4) (by decide) hj hL) ?_)
  refine Exists.intro _ (And.intro hm (Exists.intro c2 (Exists.intro s2 (And.intro k2 (And.intro n2 ?_)))))
  refine Runs.mono (fun u2 h2 nx2 hu2 => ?_) hr2
  obtain ⟨rfl, hg⟩ := hu2
  refine And.intro (fun _ => ?_) (fun cz => absurd rfl cz)
  exact gol_loc (lv' := [(0, .ref b), (1, .ref ox), (2, .ref om), (3, .int (nI j + 6))]) ⟨rfl, rfl, rfl, rfl, trivial⟩ hg
set_option maxRecDepth 4000 in
set_option maxHeartbeats 2000000 in
theorem op_log {l : Launch} {G : GG} {p : Program} {e : Env} {s : State} {m : MethodId} {b L : Nat} {xs : Nat → Int32} {below : List Frame} {meth : Method} {c : Code} (hT : TX l G) (C : Cx G p room_1 s m #[Value.ref b] meth c 13 s_law 330716 8110100) (hA : ∀ q, G.2.2.1 q → s.heap.size ≤ q) (hXs : va_X b L xs s s.heap) (hbl : b < s.heap.size) (hbA : ¬ G.2.2.1 b) {ox om j nx k n : Nat} {h : AH} (hj : j + 6 ≤ L) (hL : L ≤ 4000) (hpr : PR l G ox om i_X11_log i_X12_log [.int (xs (nI j + 1).toNatClampNeg), .int (xs (nI j + 2).toNatClampNeg), .int (xs (nI j + 3).toNatClampNeg)] h nx k n (fun h2 nx2 k2 n2 => HD l G p e s m b below meth c ox om (nI j + 6) h2 nx2 k2 n2)) : GoL l G p e s m b below meth c 1045 [(0, .ref b), (1, .ref ox), (2, .ref om), (3, .int (nI j))] [] h nx k n := by
  obtain ⟨fx, c1, s1, hx, k1, n1, hr⟩ := hpr
  refine GoS.of hT C hA hXs hbl hbA [18] 60 ?_
  refine And.intro rfl (And.intro (vin_at (t := 1) (by decide) hj hL) ?_)
  refine And.intro rfl (And.intro (vin_at (t := 2) (by decide) hj hL) ?_)
  refine And.intro rfl (And.intro (vin_at (t := 3) (by decide) hj hL) ?_)
  refine Exists.intro _ (And.intro hx (Exists.intro c1 (Exists.intro s1 (And.intro k1 (And.intro n1 ?_)))))
  refine Runs.mono (fun u h1 nx1 hu => ?_) hr
  obtain ⟨v, fm, c2, s2, rfl, hm, k2, n2, hr2⟩ := hu
  refine And.intro rfl (And.intro (vin_at (t := 1) (by decide) hj hL) ?_)
  refine And.intro rfl (And.intro (vin_at (t := 2) (by decide) hj hL) ?_)
  refine And.intro rfl (And.intro (vin_at (t := 3) (by decide) hj hL) ?_)
  refine Exists.intro _ (And.intro hm (Exists.intro c2 (Exists.intro s2 (And.intro k2 (And.intro n2 ?_)))))
  refine Runs.mono (fun u2 h2 nx2 hu2 => ?_) hr2
  obtain ⟨rfl, hg⟩ := hu2
  refine And.intro (fun _ => ?_) (fun cz => absurd rfl cz)
  exact gol_loc (lv' := [(0, .ref b), (1, .ref ox), (2, .ref om), (3, .int (nI j + 6))]) ⟨rfl, rfl, rfl, rfl, trivial⟩ hg
set_option maxRecDepth 4000 in
set_option maxHeartbeats 2000000 in
theorem op_annul {l : Launch} {G : GG} {p : Program} {e : Env} {s : State} {m : MethodId} {b L : Nat} {xs : Nat → Int32} {below : List Frame} {meth : Method} {c : Code} (hT : TX l G) (C : Cx G p room_1 s m #[Value.ref b] meth c 13 s_law 330716 8110100) (hA : ∀ q, G.2.2.1 q → s.heap.size ≤ q) (hXs : va_X b L xs s s.heap) (hbl : b < s.heap.size) (hbA : ¬ G.2.2.1 b) {ox om j nx k n : Nat} {h : AH} (hj : j + 6 ≤ L) (hL : L ≤ 4000) (hpr : PR l G ox om i_X11_annul i_X12_annul [.int (xs (nI j + 1).toNatClampNeg)] h nx k n (fun h2 nx2 k2 n2 => HD l G p e s m b below meth c ox om (nI j + 6) h2 nx2 k2 n2)) : GoL l G p e s m b below meth c 1088 [(0, .ref b), (1, .ref ox), (2, .ref om), (3, .int (nI j))] [] h nx k n := by
  obtain ⟨fx, c1, s1, hx, k1, n1, hr⟩ := hpr
  refine GoS.of hT C hA hXs hbl hbA [18] 60 ?_
  refine And.intro rfl (And.intro (vin_at (t := 1) (by decide) hj hL) ?_)
  refine Exists.intro _ (And.intro hx (Exists.intro c1 (Exists.intro s1 (And.intro k1 (And.intro n1 ?_)))))
  refine Runs.mono (fun u h1 nx1 hu => ?_) hr
  obtain ⟨v, fm, c2, s2, rfl, hm, k2, n2, hr2⟩ := hu
  refine And.intro rfl (And.intro (vin_at (t := 1) (by decide) hj hL) ?_)
  refine Exists.intro _ (And.intro hm (Exists.intro c2 (Exists.intro s2 (And.intro k2 (And.intro n2 ?_)))))
  refine Runs.mono (fun u2 h2 nx2 hu2 => ?_) hr2
  obtain ⟨rfl, hg⟩ := hu2
  refine And.intro (fun _ => ?_) (fun cz => absurd rfl cz)
  exact gol_loc (lv' := [(0, .ref b), (1, .ref ox), (2, .ref om), (3, .int (nI j + 6))]) ⟨rfl, rfl, rfl, rfl, trivial⟩ hg
set_option maxRecDepth 4000 in
set_option maxHeartbeats 2000000 in
theorem op_fits {l : Launch} {G : GG} {p : Program} {e : Env} {s : State} {m : MethodId} {b L : Nat} {xs : Nat → Int32} {below : List Frame} {meth : Method} {c : Code} (hT : TX l G) (C : Cx G p room_1 s m #[Value.ref b] meth c 13 s_law 330716 8110100) (hA : ∀ q, G.2.2.1 q → s.heap.size ≤ q) (hXs : va_X b L xs s s.heap) (hbl : b < s.heap.size) (hbA : ¬ G.2.2.1 b) {ox om j nx k n : Nat} {h : AH} (hj : j + 6 ≤ L) (hL : L ≤ 4000) (hpr : PR l G ox om i_X11_fits i_X12_fits [.int (xs (nI j + 1).toNatClampNeg), .int (xs (nI j + 2).toNatClampNeg)] h nx k n (fun h2 nx2 k2 n2 => HD l G p e s m b below meth c ox om (nI j + 6) h2 nx2 k2 n2)) : GoL l G p e s m b below meth c 1111 [(0, .ref b), (1, .ref ox), (2, .ref om), (3, .int (nI j))] [] h nx k n := by
  obtain ⟨fx, c1, s1, hx, k1, n1, hr⟩ := hpr
  refine GoS.of hT C hA hXs hbl hbA [18] 60 ?_
  refine And.intro rfl (And.intro (vin_at (t := 1) (by decide) hj hL) ?_)
  refine And.intro rfl (And.intro (vin_at (t := 2) (by decide) hj hL) ?_)
  refine Exists.intro _ (And.intro hx (Exists.intro c1 (Exists.intro s1 (And.intro k1 (And.intro n1 ?_)))))
  refine Runs.mono (fun u h1 nx1 hu => ?_) hr
  obtain ⟨v, fm, c2, s2, rfl, hm, k2, n2, hr2⟩ := hu
  refine And.intro rfl (And.intro (vin_at (t := 1) (by decide) hj hL) ?_)
  refine And.intro rfl (And.intro (vin_at (t := 2) (by decide) hj hL) ?_)
  refine Exists.intro _ (And.intro hm (Exists.intro c2 (Exists.intro s2 (And.intro k2 (And.intro n2 ?_)))))
  refine Runs.mono (fun u2 h2 nx2 hu2 => ?_) hr2
  obtain ⟨rfl, hg⟩ := hu2
  refine And.intro (fun _ => ?_) (fun cz => absurd rfl cz)
  exact gol_loc (lv' := [(0, .ref b), (1, .ref ox), (2, .ref om), (3, .int (nI j + 6))]) ⟨rfl, rfl, rfl, rfl, trivial⟩ hg
set_option maxRecDepth 4000 in
set_option maxHeartbeats 2000000 in
theorem op_suspects {l : Launch} {G : GG} {p : Program} {e : Env} {s : State} {m : MethodId} {b L : Nat} {xs : Nat → Int32} {below : List Frame} {meth : Method} {c : Code} (hT : TX l G) (C : Cx G p room_1 s m #[Value.ref b] meth c 13 s_law 330716 8110100) (hA : ∀ q, G.2.2.1 q → s.heap.size ≤ q) (hXs : va_X b L xs s s.heap) (hbl : b < s.heap.size) (hbA : ¬ G.2.2.1 b) {ox om j nx k n : Nat} {h : AH} (hj : j + 6 ≤ L) (hL : L ≤ 4000) (hpr : PR l G ox om i_X11_suspects i_X12_suspects [.int (xs (nI j + 1).toNatClampNeg)] h nx k n (fun h2 nx2 k2 n2 => HD l G p e s m b below meth c ox om (nI j + 6) h2 nx2 k2 n2)) : GoL l G p e s m b below meth c 1144 [(0, .ref b), (1, .ref ox), (2, .ref om), (3, .int (nI j))] [] h nx k n := by
  obtain ⟨fx, c1, s1, hx, k1, n1, hr⟩ := hpr
  refine GoS.of hT C hA hXs hbl hbA [18] 60 ?_
  refine And.intro rfl (And.intro (vin_at (t := 1) (by decide) hj hL) ?_)
  refine Exists.intro _ (And.intro hx (Exists.intro c1 (Exists.intro s1 (And.intro k1 (And.intro n1 ?_)))))
  refine Runs.mono (fun u h1 nx1 hu => ?_) hr
  obtain ⟨v, fm, c2, s2, rfl, hm, k2, n2, hr2⟩ := hu
  refine And.intro rfl (And.intro (vin_at (t := 1) (by decide) hj hL) ?_)
  refine Exists.intro _ (And.intro hm (Exists.intro c2 (Exists.intro s2 (And.intro k2 (And.intro n2 ?_)))))
  refine Runs.mono (fun u2 h2 nx2 hu2 => ?_) hr2
  obtain ⟨rfl, hg⟩ := hu2
  refine And.intro (fun _ => ?_) (fun cz => absurd rfl cz)
  exact gol_loc (lv' := [(0, .ref b), (1, .ref ox), (2, .ref om), (3, .int (nI j + 6))]) ⟨rfl, rfl, rfl, rfl, trivial⟩ hg
set_option maxRecDepth 4000 in
set_option maxHeartbeats 2000000 in
theorem op_next {l : Launch} {G : GG} {p : Program} {e : Env} {s : State} {m : MethodId} {b L : Nat} {xs : Nat → Int32} {below : List Frame} {meth : Method} {c : Code} (hT : TX l G) (C : Cx G p room_1 s m #[Value.ref b] meth c 13 s_law 330716 8110100) (hA : ∀ q, G.2.2.1 q → s.heap.size ≤ q) (hXs : va_X b L xs s s.heap) (hbl : b < s.heap.size) (hbA : ¬ G.2.2.1 b) {ox om j nx k n : Nat} {h : AH} (hj : j + 6 ≤ L) (hL : L ≤ 4000) (hpr : PR l G ox om i_X11_next i_X12_next [.int (xs (nI j + 1).toNatClampNeg)] h nx k n (fun h2 nx2 k2 n2 => HD l G p e s m b below meth c ox om (nI j + 6) h2 nx2 k2 n2)) : GoL l G p e s m b below meth c 1167 [(0, .ref b), (1, .ref ox), (2, .ref om), (3, .int (nI j))] [] h nx k n := by
  obtain ⟨fx, c1, s1, hx, k1, n1, hr⟩ := hpr
  refine GoS.of hT C hA hXs hbl hbA [18] 60 ?_
  refine And.intro rfl (And.intro (vin_at (t := 1) (by decide) hj hL) ?_)
  refine Exists.intro _ (And.intro hx (Exists.intro c1 (Exists.intro s1 (And.intro k1 (And.intro n1 ?_)))))
  refine Runs.mono (fun u h1 nx1 hu => ?_) hr
  obtain ⟨v, fm, c2, s2, rfl, hm, k2, n2, hr2⟩ := hu
  refine And.intro rfl (And.intro (vin_at (t := 1) (by decide) hj hL) ?_)
  refine Exists.intro _ (And.intro hm (Exists.intro c2 (Exists.intro s2 (And.intro k2 (And.intro n2 ?_)))))
  refine Runs.mono (fun u2 h2 nx2 hu2 => ?_) hr2
  obtain ⟨rfl, hg⟩ := hu2
  refine And.intro (fun _ => ?_) (fun cz => absurd rfl cz)
  exact gol_loc (lv' := [(0, .ref b), (1, .ref ox), (2, .ref om), (3, .int (nI j + 6))]) ⟨rfl, rfl, rfl, rfl, trivial⟩ hg
set_option maxRecDepth 4000 in
set_option maxHeartbeats 2000000 in
theorem op_set {l : Launch} {G : GG} {p : Program} {e : Env} {s : State} {m : MethodId} {b L : Nat} {xs : Nat → Int32} {below : List Frame} {meth : Method} {c : Code} (hT : TX l G) (C : Cx G p room_1 s m #[Value.ref b] meth c 13 s_law 330716 8110100) (hA : ∀ q, G.2.2.1 q → s.heap.size ≤ q) (hXs : va_X b L xs s s.heap) (hbl : b < s.heap.size) (hbA : ¬ G.2.2.1 b) {ox om j nx k n : Nat} {h : AH} (hj : j + 6 ≤ L) (hL : L ≤ 4000) (hpr : PR l G ox om i_X11_set i_X12_set [.int (xs (nI j + 1).toNatClampNeg), .int (if (xs (nI j + 2).toNatClampNeg) = 0 then 0 else 1)] h nx k n (fun h2 nx2 k2 n2 => HD l G p e s m b below meth c ox om (nI j + 6) h2 nx2 k2 n2)) : GoL l G p e s m b below meth c 1190 [(0, .ref b), (1, .ref ox), (2, .ref om), (3, .int (nI j))] [] h nx k n := by
  obtain ⟨fx, c1, s1, hx, k1, n1, hr⟩ := hpr
  by_cases hz : (xs (nI j + 2).toNatClampNeg) = 0
  · rw [if_pos hz] at hr
    refine GoS.of hT C hA hXs hbl hbA [18] 60 ?_
    refine And.intro rfl (And.intro (vin_at (t := 1) (by decide) hj hL) ?_)
    refine And.intro rfl (And.intro (vin_at (t := 2) (by decide) hj hL) ?_)
    refine And.intro (fun _ => ?_) (fun cz => absurd hz cz)
    refine Exists.intro _ (And.intro hx (Exists.intro c1 (Exists.intro s1 (And.intro k1 (And.intro n1 ?_)))))
    refine Runs.mono (fun u h1 nx1 hu => ?_) hr
    obtain ⟨v, fm, c2, s2, rfl, hm, k2, n2, hr2⟩ := hu
    refine And.intro rfl (And.intro (vin_at (t := 1) (by decide) hj hL) ?_)
    refine And.intro rfl (And.intro (vin_at (t := 2) (by decide) hj hL) ?_)
    refine And.intro (fun _ => ?_) (fun cz => absurd hz cz)
    refine Exists.intro _ (And.intro hm (Exists.intro c2 (Exists.intro s2 (And.intro k2 (And.intro n2 ?_)))))
    refine Runs.mono (fun u2 h2 nx2 hu2 => ?_) hr2
    obtain ⟨rfl, hg⟩ := hu2
    refine And.intro (fun _ => ?_) (fun cz => absurd rfl cz)
    exact gol_loc (lv' := [(0, .ref b), (1, .ref ox), (2, .ref om), (3, .int (nI j + 6))]) ⟨rfl, rfl, rfl, rfl, trivial⟩ hg
  · rw [if_neg hz] at hr
    refine GoS.of hT C hA hXs hbl hbA [18] 60 ?_
    refine And.intro rfl (And.intro (vin_at (t := 1) (by decide) hj hL) ?_)
    refine And.intro rfl (And.intro (vin_at (t := 2) (by decide) hj hL) ?_)
    refine And.intro (fun cz => absurd cz hz) (fun _ => ?_)
    refine Exists.intro _ (And.intro hx (Exists.intro c1 (Exists.intro s1 (And.intro k1 (And.intro n1 ?_)))))
    refine Runs.mono (fun u h1 nx1 hu => ?_) hr
    obtain ⟨v, fm, c2, s2, rfl, hm, k2, n2, hr2⟩ := hu
    refine And.intro rfl (And.intro (vin_at (t := 1) (by decide) hj hL) ?_)
    refine And.intro rfl (And.intro (vin_at (t := 2) (by decide) hj hL) ?_)
    refine And.intro (fun cz => absurd cz hz) (fun _ => ?_)
    refine Exists.intro _ (And.intro hm (Exists.intro c2 (Exists.intro s2 (And.intro k2 (And.intro n2 ?_)))))
    refine Runs.mono (fun u2 h2 nx2 hu2 => ?_) hr2
    obtain ⟨rfl, hg⟩ := hu2
    refine And.intro (fun _ => ?_) (fun cz => absurd rfl cz)
    exact gol_loc (lv' := [(0, .ref b), (1, .ref ox), (2, .ref om), (3, .int (nI j + 6))]) ⟨rfl, rfl, rfl, rfl, trivial⟩ hg
set_option maxRecDepth 4000 in
set_option maxHeartbeats 2000000 in
theorem op_strap {l : Launch} {G : GG} {p : Program} {e : Env} {s : State} {m : MethodId} {b L : Nat} {xs : Nat → Int32} {below : List Frame} {meth : Method} {c : Code} (hT : TX l G) (C : Cx G p room_1 s m #[Value.ref b] meth c 13 s_law 330716 8110100) (hA : ∀ q, G.2.2.1 q → s.heap.size ≤ q) (hXs : va_X b L xs s s.heap) (hbl : b < s.heap.size) (hbA : ¬ G.2.2.1 b) {ox om j nx k n : Nat} {h : AH} (hj : j + 6 ≤ L) (hL : L ≤ 4000) (hpr : PR l G ox om i_X11_strap i_X12_strap [.int (xs (nI j + 1).toNatClampNeg), .int (if (xs (nI j + 2).toNatClampNeg) = 0 then 0 else 1)] h nx k n (fun h2 nx2 k2 n2 => HD l G p e s m b below meth c ox om (nI j + 6) h2 nx2 k2 n2)) : GoL l G p e s m b below meth c 1239 [(0, .ref b), (1, .ref ox), (2, .ref om), (3, .int (nI j))] [] h nx k n := by
  obtain ⟨fx, c1, s1, hx, k1, n1, hr⟩ := hpr
  by_cases hz : (xs (nI j + 2).toNatClampNeg) = 0
  · rw [if_pos hz] at hr
    refine GoS.of hT C hA hXs hbl hbA [18] 60 ?_
    refine And.intro rfl (And.intro (vin_at (t := 1) (by decide) hj hL) ?_)
    refine And.intro rfl (And.intro (vin_at (t := 2) (by decide) hj hL) ?_)
    refine And.intro (fun _ => ?_) (fun cz => absurd hz cz)
    refine Exists.intro _ (And.intro hx (Exists.intro c1 (Exists.intro s1 (And.intro k1 (And.intro n1 ?_)))))
    refine Runs.mono (fun u h1 nx1 hu => ?_) hr
    obtain ⟨v, fm, c2, s2, rfl, hm, k2, n2, hr2⟩ := hu
    refine And.intro rfl (And.intro (vin_at (t := 1) (by decide) hj hL) ?_)
    refine And.intro rfl (And.intro (vin_at (t := 2) (by decide) hj hL) ?_)
    refine And.intro (fun _ => ?_) (fun cz => absurd hz cz)
    refine Exists.intro _ (And.intro hm (Exists.intro c2 (Exists.intro s2 (And.intro k2 (And.intro n2 ?_)))))
    refine Runs.mono (fun u2 h2 nx2 hu2 => ?_) hr2
    obtain ⟨rfl, hg⟩ := hu2
    refine And.intro (fun _ => ?_) (fun cz => absurd rfl cz)
    exact gol_loc (lv' := [(0, .ref b), (1, .ref ox), (2, .ref om), (3, .int (nI j + 6))]) ⟨rfl, rfl, rfl, rfl, trivial⟩ hg
  · rw [if_neg hz] at hr
    refine GoS.of hT C hA hXs hbl hbA [18] 60 ?_
    refine And.intro rfl (And.intro (vin_at (t := 1) (by decide) hj hL) ?_)
    refine And.intro rfl (And.intro (vin_at (t := 2) (by decide) hj hL) ?_)
    refine And.intro (fun cz => absurd cz hz) (fun _ => ?_)
    refine Exists.intro _ (And.intro hx (Exists.intro c1 (Exists.intro s1 (And.intro k1 (And.intro n1 ?_)))))
    refine Runs.mono (fun u h1 nx1 hu => ?_) hr
    obtain ⟨v, fm, c2, s2, rfl, hm, k2, n2, hr2⟩ := hu
    refine And.intro rfl (And.intro (vin_at (t := 1) (by decide) hj hL) ?_)
    refine And.intro rfl (And.intro (vin_at (t := 2) (by decide) hj hL) ?_)
    refine And.intro (fun cz => absurd cz hz) (fun _ => ?_)
    refine Exists.intro _ (And.intro hm (Exists.intro c2 (Exists.intro s2 (And.intro k2 (And.intro n2 ?_)))))
    refine Runs.mono (fun u2 h2 nx2 hu2 => ?_) hr2
    obtain ⟨rfl, hg⟩ := hu2
    refine And.intro (fun _ => ?_) (fun cz => absurd rfl cz)
    exact gol_loc (lv' := [(0, .ref b), (1, .ref ox), (2, .ref om), (3, .int (nI j + 6))]) ⟨rfl, rfl, rfl, rfl, trivial⟩ hg
set_option maxRecDepth 4000 in
set_option maxHeartbeats 2000000 in
theorem op_age {l : Launch} {G : GG} {p : Program} {e : Env} {s : State} {m : MethodId} {b L : Nat} {xs : Nat → Int32} {below : List Frame} {meth : Method} {c : Code} (hT : TX l G) (C : Cx G p room_1 s m #[Value.ref b] meth c 13 s_law 330716 8110100) (hA : ∀ q, G.2.2.1 q → s.heap.size ≤ q) (hXs : va_X b L xs s s.heap) (hbl : b < s.heap.size) (hbA : ¬ G.2.2.1 b) {ox om j nx k n : Nat} {h : AH} (hj : j + 6 ≤ L) (hL : L ≤ 4000) (hpr : PR l G ox om i_X11_age i_X12_age [.int (xs (nI j + 1).toNatClampNeg), .int (xs (nI j + 2).toNatClampNeg)] h nx k n (fun h2 nx2 k2 n2 => HD l G p e s m b below meth c ox om (nI j + 6) h2 nx2 k2 n2)) : GoL l G p e s m b below meth c 1288 [(0, .ref b), (1, .ref ox), (2, .ref om), (3, .int (nI j))] [] h nx k n := by
  obtain ⟨fx, c1, s1, hx, k1, n1, hr⟩ := hpr
  refine GoS.of hT C hA hXs hbl hbA [18] 60 ?_
  refine And.intro rfl (And.intro (vin_at (t := 1) (by decide) hj hL) ?_)
  refine And.intro rfl (And.intro (vin_at (t := 2) (by decide) hj hL) ?_)
  refine Exists.intro _ (And.intro hx (Exists.intro c1 (Exists.intro s1 (And.intro k1 (And.intro n1 ?_)))))
  refine Runs.mono (fun u h1 nx1 hu => ?_) hr
  obtain ⟨v, fm, c2, s2, rfl, hm, k2, n2, hr2⟩ := hu
  refine And.intro rfl (And.intro (vin_at (t := 1) (by decide) hj hL) ?_)
  refine And.intro rfl (And.intro (vin_at (t := 2) (by decide) hj hL) ?_)
  refine Exists.intro _ (And.intro hm (Exists.intro c2 (Exists.intro s2 (And.intro k2 (And.intro n2 ?_)))))
  refine Runs.mono (fun u2 h2 nx2 hu2 => ?_) hr2
  obtain ⟨rfl, hg⟩ := hu2
  refine And.intro (fun _ => ?_) (fun cz => absurd rfl cz)
  exact gol_loc (lv' := [(0, .ref b), (1, .ref ox), (2, .ref om), (3, .int (nI j + 6))]) ⟨rfl, rfl, rfl, rfl, trivial⟩ hg
set_option maxRecDepth 4000 in
set_option maxHeartbeats 2000000 in
theorem op_round {l : Launch} {G : GG} {p : Program} {e : Env} {s : State} {m : MethodId} {b L : Nat} {xs : Nat → Int32} {below : List Frame} {meth : Method} {c : Code} (hT : TX l G) (C : Cx G p room_1 s m #[Value.ref b] meth c 13 s_law 330716 8110100) (hA : ∀ q, G.2.2.1 q → s.heap.size ≤ q) (hXs : va_X b L xs s s.heap) (hbl : b < s.heap.size) (hbA : ¬ G.2.2.1 b) {ox om j nx k n : Nat} {h : AH} (hj : j + 6 ≤ L) (hL : L ≤ 4000) (hpr : PR l G ox om i_X11_round i_X12_round [] h nx k n (fun h2 nx2 k2 n2 => HD l G p e s m b below meth c ox om (nI j + 6) h2 nx2 k2 n2)) : GoL l G p e s m b below meth c 1321 [(0, .ref b), (1, .ref ox), (2, .ref om), (3, .int (nI j))] [] h nx k n := by
  obtain ⟨fx, c1, s1, hx, k1, n1, hr⟩ := hpr
  refine GoS.of hT C hA hXs hbl hbA [18] 60 ?_
  refine Exists.intro _ (And.intro hx (Exists.intro c1 (Exists.intro s1 (And.intro k1 (And.intro n1 ?_)))))
  refine Runs.mono (fun u h1 nx1 hu => ?_) hr
  obtain ⟨v, fm, c2, s2, rfl, hm, k2, n2, hr2⟩ := hu
  refine Exists.intro _ (And.intro hm (Exists.intro c2 (Exists.intro s2 (And.intro k2 (And.intro n2 ?_)))))
  refine Runs.mono (fun u2 h2 nx2 hu2 => ?_) hr2
  obtain ⟨rfl, hg⟩ := hu2
  refine And.intro (fun _ => ?_) (fun cz => absurd rfl cz)
  exact gol_loc (lv' := [(0, .ref b), (1, .ref ox), (2, .ref om), (3, .int (nI j + 6))]) ⟨rfl, rfl, rfl, rfl, trivial⟩ hg
set_option maxRecDepth 4000 in
set_option maxHeartbeats 2000000 in
theorem op_clash {l : Launch} {G : GG} {p : Program} {e : Env} {s : State} {m : MethodId} {b L : Nat} {xs : Nat → Int32} {below : List Frame} {meth : Method} {c : Code} (hT : TX l G) (C : Cx G p room_1 s m #[Value.ref b] meth c 13 s_law 330716 8110100) (hA : ∀ q, G.2.2.1 q → s.heap.size ≤ q) (hXs : va_X b L xs s s.heap) (hbl : b < s.heap.size) (hbA : ¬ G.2.2.1 b) {ox om j nx k n : Nat} {h : AH} (hj : j + 6 ≤ L) (hL : L ≤ 4000) (hpr : PR l G ox om i_X11_clash i_X12_clash [] h nx k n (fun h2 nx2 k2 n2 => HD l G p e s m b below meth c ox om (nI j + 6) h2 nx2 k2 n2)) : GoL l G p e s m b below meth c 1334 [(0, .ref b), (1, .ref ox), (2, .ref om), (3, .int (nI j))] [] h nx k n := by
  obtain ⟨fx, c1, s1, hx, k1, n1, hr⟩ := hpr
  refine GoS.of hT C hA hXs hbl hbA [18] 60 ?_
  refine Exists.intro _ (And.intro hx (Exists.intro c1 (Exists.intro s1 (And.intro k1 (And.intro n1 ?_)))))
  refine Runs.mono (fun u h1 nx1 hu => ?_) hr
  obtain ⟨v, fm, c2, s2, rfl, hm, k2, n2, hr2⟩ := hu
  refine Exists.intro _ (And.intro hm (Exists.intro c2 (Exists.intro s2 (And.intro k2 (And.intro n2 ?_)))))
  refine Runs.mono (fun u2 h2 nx2 hu2 => ?_) hr2
  obtain ⟨rfl, hg⟩ := hu2
  refine And.intro (fun _ => ?_) (fun cz => absurd rfl cz)
  exact gol_loc (lv' := [(0, .ref b), (1, .ref ox), (2, .ref om), (3, .int (nI j + 6))]) ⟨rfl, rfl, rfl, rfl, trivial⟩ hg
set_option maxRecDepth 4000 in
set_option maxHeartbeats 2000000 in
theorem op_hand {l : Launch} {G : GG} {p : Program} {e : Env} {s : State} {m : MethodId} {b L : Nat} {xs : Nat → Int32} {below : List Frame} {meth : Method} {c : Code} (hT : TX l G) (C : Cx G p room_1 s m #[Value.ref b] meth c 13 s_law 330716 8110100) (hA : ∀ q, G.2.2.1 q → s.heap.size ≤ q) (hXs : va_X b L xs s s.heap) (hbl : b < s.heap.size) (hbA : ¬ G.2.2.1 b) {ox om j nx k n : Nat} {h : AH} (hj : j + 6 ≤ L) (hL : L ≤ 4000) (hpr : PR l G ox om i_X11_hand i_X12_hand [.int (xs (nI j + 1).toNatClampNeg)] h nx k n (fun h2 nx2 k2 n2 => HD l G p e s m b below meth c ox om (nI j + 6) h2 nx2 k2 n2)) : GoL l G p e s m b below meth c 1347 [(0, .ref b), (1, .ref ox), (2, .ref om), (3, .int (nI j))] [] h nx k n := by
  obtain ⟨fx, c1, s1, hx, k1, n1, hr⟩ := hpr
  refine GoS.of hT C hA hXs hbl hbA [18] 60 ?_
  refine And.intro rfl (And.intro (vin_at (t := 1) (by decide) hj hL) ?_)
  refine Exists.intro _ (And.intro hx (Exists.intro c1 (Exists.intro s1 (And.intro k1 (And.intro n1 ?_)))))
  refine Runs.mono (fun u h1 nx1 hu => ?_) hr
  obtain ⟨v, fm, c2, s2, rfl, hm, k2, n2, hr2⟩ := hu
  refine And.intro rfl (And.intro (vin_at (t := 1) (by decide) hj hL) ?_)
  refine Exists.intro _ (And.intro hm (Exists.intro c2 (Exists.intro s2 (And.intro k2 (And.intro n2 ?_)))))
  refine Runs.mono (fun u2 h2 nx2 hu2 => ?_) hr2
  obtain ⟨rfl, hg⟩ := hu2
  refine And.intro (fun _ => ?_) (fun cz => absurd rfl cz)
  exact gol_loc (lv' := [(0, .ref b), (1, .ref ox), (2, .ref om), (3, .int (nI j + 6))]) ⟨rfl, rfl, rfl, rfl, trivial⟩ hg
set_option maxRecDepth 4000 in
set_option maxHeartbeats 2000000 in
theorem op_count {l : Launch} {G : GG} {p : Program} {e : Env} {s : State} {m : MethodId} {b L : Nat} {xs : Nat → Int32} {below : List Frame} {meth : Method} {c : Code} (hT : TX l G) (C : Cx G p room_1 s m #[Value.ref b] meth c 13 s_law 330716 8110100) (hA : ∀ q, G.2.2.1 q → s.heap.size ≤ q) (hXs : va_X b L xs s s.heap) (hbl : b < s.heap.size) (hbA : ¬ G.2.2.1 b) {ox om j nx k n : Nat} {h : AH} (hj : j + 6 ≤ L) (hL : L ≤ 4000) (hpr : PR l G ox om i_X11_count i_X12_count [.int (xs (nI j + 1).toNatClampNeg)] h nx k n (fun h2 nx2 k2 n2 => HD l G p e s m b below meth c ox om (nI j + 6) h2 nx2 k2 n2)) : GoL l G p e s m b below meth c 1370 [(0, .ref b), (1, .ref ox), (2, .ref om), (3, .int (nI j))] [] h nx k n := by
  obtain ⟨fx, c1, s1, hx, k1, n1, hr⟩ := hpr
  refine GoS.of hT C hA hXs hbl hbA [18] 60 ?_
  refine And.intro rfl (And.intro (vin_at (t := 1) (by decide) hj hL) ?_)
  refine Exists.intro _ (And.intro hx (Exists.intro c1 (Exists.intro s1 (And.intro k1 (And.intro n1 ?_)))))
  refine Runs.mono (fun u h1 nx1 hu => ?_) hr
  obtain ⟨v, fm, c2, s2, rfl, hm, k2, n2, hr2⟩ := hu
  refine And.intro rfl (And.intro (vin_at (t := 1) (by decide) hj hL) ?_)
  refine Exists.intro _ (And.intro hm (Exists.intro c2 (Exists.intro s2 (And.intro k2 (And.intro n2 ?_)))))
  refine Runs.mono (fun u2 h2 nx2 hu2 => ?_) hr2
  obtain ⟨rfl, hg⟩ := hu2
  refine And.intro (fun _ => ?_) (fun cz => absurd rfl cz)
  exact gol_loc (lv' := [(0, .ref b), (1, .ref ox), (2, .ref om), (3, .int (nI j + 6))]) ⟨rfl, rfl, rfl, rfl, trivial⟩ hg
