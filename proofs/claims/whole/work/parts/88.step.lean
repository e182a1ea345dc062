theorem upd0 (f : Nat → Int64) (k : Nat) (v : Int64) : vp_updL f k v k = v := if_pos rfl
section QS
variable {x : THS} {y : TM}
theorem p_rows (h : G x y) : ∃ v, fX4_rows x.1 = some v ∧ fX5_rows y = some (v, (0, y.1.2), y.2) := by
  obtain ⟨A, K, n, L, b, hW, hX, hY⟩ := h
  refine ⟨_, c_rows hW.1 hX.1, ?_⟩
  unfold fX5_rows
  rw [m_rows (y := ((0, y.1.2), y.2)) hW.1 hY.1, Option.bind_some]
theorem p_notes (h : G x y) : ∃ v, fX4_notes x.1 = some v ∧ fX5_notes y = some (v, (0, y.1.2), y.2) := by
  obtain ⟨A, K, n, L, b, hW, hX, hY⟩ := h
  refine ⟨_, c_notes hW.1 hX.1, ?_⟩
  unfold fX5_notes
  rw [m_notes (y := ((0, y.1.2), y.2)) hW.1 hY.1, Option.bind_some]
theorem p_isRow (h : G x y) (a : Int32) : ∃ v, fX4_isRow x.1 a = some v ∧ fX5_isRow y a = some (v, (0, y.1.2), y.2) := by
  obtain ⟨A, K, n, L, b, hW, hX, hY⟩ := h
  unfold fX5_isRow
  rcases rowx hW.1 a with ⟨r1, r2⟩ | ⟨p, s, hp, hs1, rfl, hk, r1, r2⟩
  · refine ⟨0, r1 _ hX.1, ?_⟩
    rw [r2 ((0, y.1.2), y.2) hY.1]; rfl
  · refine ⟨1, r1 _ hX.1, ?_⟩
    rw [r2 ((0, y.1.2), y.2) hY.1]; rfl
theorem p_next (h : G x y) (a : Int32) : ∃ v, fX4_next x.1 a = some v ∧ fX5_next y a = some (v, (0, y.1.2), y.2) := by
  obtain ⟨A, K, n, L, b, hW, hX, hY⟩ := h
  exact ⟨_, c_next hW.1 hW.2.1 hX.1 a, m_next hW.1 hY.1 a⟩
theorem p_rowAt (h : G x y) (a : Int32) : ∃ v, fX4_rowAt x.1 a = some v ∧ fX5_rowAt y a = some (v, (0, y.1.2), y.2) := by
  obtain ⟨A, K, n, L, b, hW, hX, hY⟩ := h
  obtain ⟨k, k1, k2, k3, k4⟩ := kx hW.1 a
  by_cases c : k = 0
  · refine ⟨M1, ?_, ?_⟩
    · unfold fX4_rowAt
      rw [k2 _ hX.1, c]; rfl
    · unfold fX5_rowAt
      rw [k3 ((0, y.1.2), y.2) hY.1, c]; rfl
  · obtain ⟨p, s, hp, hs1, rfl, -⟩ := k4 c
    exact ⟨_, c_rowAt hW.1 hX.1 hp (by omega), m_rowAt hW.1 hY.1 hp (by omega)⟩
theorem p_kind (h : G x y) (a : Int32) : ∃ v, fX4_kind x.1 a = some v ∧ fX5_kind y a = some (v, (0, y.1.2), y.2) := by
  obtain ⟨A, K, n, L, b, hW, hX, hY⟩ := h
  obtain ⟨k, k1, k2, k3, k4⟩ := kx hW.1 a
  refine ⟨_, k2 _ hX.1, ?_⟩
  unfold fX5_kind
  rw [k3 ((0, y.1.2), y.2) hY.1, Option.bind_some]
theorem p_pages (h : G x y) : ∃ v, fX4_pages x.1 = some v ∧ fX5_pages y = some (v, (0, y.1.2), y.2) := by
  obtain ⟨A, K, n, L, b, hW, hX, hY⟩ := h
  refine ⟨nI A.1, ?_, ?_⟩
  · unfold fX4_pages
    rw [c_pc hX.1]
  · unfold fX5_pages
    rw [show rd y.2.1 10724 (0 : Int32) = some (nI A.1) from m_n hY.1, Option.bind_some]
theorem p_moves (h : G x y) : ∃ v, fX4_moves x.1 = some v ∧ fX5_moves y = some (v, (0, y.1.2), y.2) := by
  obtain ⟨A, K, n, L, b, hW, hX, hY⟩ := h
  refine ⟨A.2.2.1, ?_, ?_⟩
  · unfold fX4_moves
    rw [hX.1.1]
  · unfold fX5_moves
    rw [show (1 : Int32) = nI 1 from rfl, rdN (by omega) (by omega), hY.1.2.1, Option.bind_some]
theorem p_returns (h : G x y) : ∃ v, fX4_returns x.1 = some v ∧ fX5_returns y = some (v, (0, y.1.2), y.2) := by
  obtain ⟨A, K, n, L, b, hW, hX, hY⟩ := h
  refine ⟨A.2.2.2.1, ?_, ?_⟩
  · unfold fX4_returns
    rw [hX.1.1]
  · unfold fX5_returns
    rw [show (2 : Int32) = nI 2 from rfl, rdN (by omega) (by omega), hY.1.2.2.1, Option.bind_some]
theorem p_compactions (h : G x y) : ∃ v, fX4_compactions x.1 = some v ∧ fX5_compactions y = some (v, (0, y.1.2), y.2) := by
  obtain ⟨A, K, n, L, b, hW, hX, hY⟩ := h
  refine ⟨A.2.2.2.2, ?_, ?_⟩
  · unfold fX4_compactions
    rw [hX.1.1]
  · unfold fX5_compactions
    rw [show (3 : Int32) = nI 3 from rfl, rdN (by omega) (by omega), hY.1.2.2.2.1, Option.bind_some]
theorem p_savedStates (h : G x y) : ∃ v, fX4_savedStates x.1 = some v ∧ fX5_savedStates y = some (v, (0, y.1.2), y.2) := by
  obtain ⟨A, K, n, L, b, hW, hX, hY⟩ := h
  refine ⟨nI n, ?_, ?_⟩
  · unfold fX4_savedStates
    rw [hX.2.2.2.1]
  · unfold fX5_savedStates
    rw [hY.2.2.2.1]
theorem p_fillFactor (h : G x y) : ∃ v, fX4_fillFactor x.1 = some v ∧ fX5_fillFactor y = some (v, (0, y.1.2), y.2) := by
  obtain ⟨A, K, n, L, b, hW, hX, hY⟩ := h
  refine ⟨_, c_factor hW.1 hX.1, ?_⟩
  unfold fX5_fillFactor
  rw [m_factor (y := ((0, y.1.2), y.2)) hW.1 hY.1, Option.bind_some]
theorem p_digest (h : G x y) : ∃ v H, fX4_digest x.1 = some v ∧ fX5_digest y = some (v, sth y H) := by
  obtain ⟨A, K, n, L, b, hW, hX, hY⟩ := h
  obtain ⟨-, -, v, h1, h2⟩ := ffv_ok hW.1
  exact ⟨_, _, c_digest hW.1 hX.1 h1, m_digest hW.1 hY.1 h2⟩
end QS
section LC
variable {u : THS × TM × OutR}
theorem qs_0 (h : G u.1 u.2.1) (a1 a2 : Int32) : ∃ v, fLc_0 u a1 a2 = some v ∧ G v.1 v.2.1 := by
  unfold fLc_0 fL_append
  rcases p_append h a1 with ⟨c, k, x, r, y, hm, e1, e2, e3, hG⟩ | ⟨v, x, y, e1, e2, e3, hG⟩
  · simp only [List.mem_cons, Prod.mk.injEq, List.not_mem_nil, or_false] at hm
    rw [e1, e2]
    rcases hm with ⟨rfl, rfl⟩ | ⟨rfl, rfl⟩
    · exact ⟨((x, u.1.2), y, u.2.2), lc_ok (z1 := ((1 : Int32), ((x, u.1.2), u.2.2))) (z2 := (r, y)) e3 (fun w => absurd w (show ¬ (1 : Int32) = 0 by decide)), hG⟩
    · exact ⟨((x, u.1.2), y, u.2.2), lc_ok (z1 := ((2 : Int32), ((x, u.1.2), u.2.2))) (z2 := (r, y)) e3 (fun w => absurd w (show ¬ (2 : Int32) = 0 by decide)), hG⟩
  · rw [e1, e2]
    exact ⟨((x, u.1.2), y, vp_updL u.2.2 (0 : Int32).toNatClampNeg v.toInt64), lc_ok (z1 := ((0 : Int32), ((x, u.1.2), vp_updL u.2.2 (0 : Int32).toNatClampNeg v.toInt64))) (z2 := (v, y)) e3 (fun _ => upd0 u.2.2 (0 : Int32).toNatClampNeg v.toInt64), hG⟩
theorem qs_1 (h : G u.1 u.2.1) (a1 a2 : Int32) : ∃ v, fLc_1 u a1 a2 = some v ∧ G v.1 v.2.1 := by
  unfold fLc_1 fL_fill
  rcases p_fill h a1 a2 with ⟨c, k, x, r, y, hm, e1, e2, e3, hG⟩ | ⟨v, x, y, e1, e2, e3, hG⟩
  · simp only [List.mem_cons, Prod.mk.injEq, List.not_mem_nil, or_false] at hm
    rw [e1, e2]
    rcases hm with ⟨rfl, rfl⟩ | ⟨rfl, rfl⟩
    · exact ⟨((x, u.1.2), y, u.2.2), lc_ok (z1 := ((1 : Int32), ((x, u.1.2), u.2.2))) (z2 := (r, y)) e3 (fun w => absurd w (show ¬ (1 : Int32) = 0 by decide)), hG⟩
    · exact ⟨((x, u.1.2), y, u.2.2), lc_ok (z1 := ((2 : Int32), ((x, u.1.2), u.2.2))) (z2 := (r, y)) e3 (fun w => absurd w (show ¬ (2 : Int32) = 0 by decide)), hG⟩
  · rw [e1, e2]
    exact ⟨((x, u.1.2), y, vp_updL u.2.2 (0 : Int32).toNatClampNeg v.toInt64), lc_ok (z1 := ((0 : Int32), ((x, u.1.2), vp_updL u.2.2 (0 : Int32).toNatClampNeg v.toInt64))) (z2 := (v, y)) e3 (fun _ => upd0 u.2.2 (0 : Int32).toNatClampNeg v.toInt64), hG⟩
theorem qs_2 (h : G u.1 u.2.1) (a1 a2 : Int32) : ∃ v, fLc_2 u a1 a2 = some v ∧ G v.1 v.2.1 := by
  obtain ⟨v, x, y, e1, e2, hG⟩ := p_clear h
  unfold fLc_2
  rw [e1, e2, Option.bind_some, Option.bind_some, if_pos rfl]
  exact ⟨_, rfl, hG⟩
theorem qs_3 (h : G u.1 u.2.1) (a1 a2 : Int32) : ∃ v, fLc_3 u a1 a2 = some v ∧ G v.1 v.2.1 := by
  unfold fLc_3 fL_insert
  rcases p_insert h with ⟨c, k, x, r, y, hm, e1, e2, e3, hG⟩ | ⟨v, x, y, e1, e2, e3, hG⟩
  · simp only [List.mem_cons, Prod.mk.injEq, List.not_mem_nil, or_false] at hm
    rw [e1, e2]
    obtain ⟨rfl, rfl⟩ := hm
    exact ⟨(x, y, u.2.2), lc_ok (z1 := ((1 : Int32), (x, u.2.2))) (z2 := (r, y)) e3 (fun w => absurd w (show ¬ (1 : Int32) = 0 by decide)), hG⟩
  · rw [e1, e2]
    exact ⟨(x, y, vp_updL u.2.2 (0 : Int32).toNatClampNeg v.toInt64), lc_ok (z1 := ((0 : Int32), (x, vp_updL u.2.2 (0 : Int32).toNatClampNeg v.toInt64))) (z2 := (v, y)) e3 (fun _ => upd0 u.2.2 (0 : Int32).toNatClampNeg v.toInt64), hG⟩
theorem qs_4 (h : G u.1 u.2.1) (a1 a2 : Int32) : ∃ v, fLc_4 u a1 a2 = some v ∧ G v.1 v.2.1 := by
  unfold fLc_4 fL_update
  rcases p_update h a1 with ⟨c, k, x, r, y, hm, e1, e2, e3, hG⟩ | ⟨v, x, y, e1, e2, e3, hG⟩
  · simp only [List.mem_cons, Prod.mk.injEq, List.not_mem_nil, or_false] at hm
    rw [e1, e2]
    rcases hm with ⟨rfl, rfl⟩ | ⟨rfl, rfl⟩
    · exact ⟨(x, y, u.2.2), lc_ok (z1 := ((1 : Int32), (x, u.2.2))) (z2 := (r, y)) e3 (fun w => absurd w (show ¬ (1 : Int32) = 0 by decide)), hG⟩
    · exact ⟨(x, y, u.2.2), lc_ok (z1 := ((2 : Int32), (x, u.2.2))) (z2 := (r, y)) e3 (fun w => absurd w (show ¬ (2 : Int32) = 0 by decide)), hG⟩
  · rw [e1, e2]
    exact ⟨(x, y, vp_updL u.2.2 (0 : Int32).toNatClampNeg v.toInt64), lc_ok (z1 := ((0 : Int32), (x, vp_updL u.2.2 (0 : Int32).toNatClampNeg v.toInt64))) (z2 := (v, y)) e3 (fun _ => upd0 u.2.2 (0 : Int32).toNatClampNeg v.toInt64), hG⟩
theorem qs_5 (h : G u.1 u.2.1) (a1 a2 : Int32) : ∃ v, fLc_5 u a1 a2 = some v ∧ G v.1 v.2.1 := by
  unfold fLc_5 fL_delete
  rcases p_delete h a1 with ⟨c, k, x, r, y, hm, e1, e2, e3, hG⟩ | ⟨v, x, y, e1, e2, e3, hG⟩
  · simp only [List.mem_cons, Prod.mk.injEq, List.not_mem_nil, or_false] at hm
    rw [e1, e2]
    obtain ⟨rfl, rfl⟩ := hm
    exact ⟨(x, y, u.2.2), lc_ok (z1 := ((1 : Int32), (x, u.2.2))) (z2 := (r, y)) e3 (fun w => absurd w (show ¬ (1 : Int32) = 0 by decide)), hG⟩
  · rw [e1, e2]
    exact ⟨(x, y, vp_updL u.2.2 (0 : Int32).toNatClampNeg v.toInt64), lc_ok (z1 := ((0 : Int32), (x, vp_updL u.2.2 (0 : Int32).toNatClampNeg v.toInt64))) (z2 := (v, y)) e3 (fun _ => upd0 u.2.2 (0 : Int32).toNatClampNeg v.toInt64), hG⟩
theorem qs_6 (h : G u.1 u.2.1) (a1 a2 : Int32) : ∃ v, fLc_6 u a1 a2 = some v ∧ G v.1 v.2.1 := by
  obtain ⟨v, x, y, e1, e2, hG⟩ := p_bring h
  unfold fLc_6
  rw [e1, e2, Option.bind_some, Option.bind_some, if_pos rfl]
  exact ⟨_, rfl, hG⟩
theorem qs_7 (h : G u.1 u.2.1) (a1 a2 : Int32) : ∃ v, fLc_7 u a1 a2 = some v ∧ G v.1 v.2.1 := by
  unfold fLc_7 fL_compact
  rcases p_compact h a1 with ⟨c, k, x, r, y, hm, e1, e2, e3, hG⟩ | ⟨v, x, y, e1, e2, e3, hG⟩
  · simp only [List.mem_cons, Prod.mk.injEq, List.not_mem_nil, or_false] at hm
    rw [e1, e2]
    obtain ⟨rfl, rfl⟩ := hm
    exact ⟨(x, y, u.2.2), lc_ok (z1 := ((1 : Int32), (x, u.2.2))) (z2 := (r, y)) e3 (fun w => absurd w (show ¬ (1 : Int32) = 0 by decide)), hG⟩
  · rw [e1, e2]
    exact ⟨(x, y, vp_updL u.2.2 (0 : Int32).toNatClampNeg v.toInt64), lc_ok (z1 := ((0 : Int32), (x, vp_updL u.2.2 (0 : Int32).toNatClampNeg v.toInt64))) (z2 := (v, y)) e3 (fun _ => upd0 u.2.2 (0 : Int32).toNatClampNeg v.toInt64), hG⟩
theorem qs_8 (h : G u.1 u.2.1) (a1 a2 : Int32) : ∃ v, fLc_8 u a1 a2 = some v ∧ G v.1 v.2.1 := by
  obtain ⟨v, e1, e2⟩ := p_rows h
  unfold fLc_8
  rw [e1, e2, Option.bind_some, Option.bind_some, if_pos rfl]
  exact ⟨_, rfl, G_k h 0⟩
theorem qs_9 (h : G u.1 u.2.1) (a1 a2 : Int32) : ∃ v, fLc_9 u a1 a2 = some v ∧ G v.1 v.2.1 := by
  obtain ⟨v, e1, e2⟩ := p_isRow h a1
  unfold fLc_9
  rw [e1, e2, Option.bind_some, Option.bind_some, if_pos rfl]
  exact ⟨_, rfl, G_k h 0⟩
theorem qs_10 (h : G u.1 u.2.1) (a1 a2 : Int32) : ∃ v, fLc_10 u a1 a2 = some v ∧ G v.1 v.2.1 := by
  unfold fLc_10 fL_length
  rcases p_length h a1 with ⟨c, k, x, r, y, hm, e1, e2, e3, hG⟩ | ⟨v, x, y, e1, e2, e3, hG⟩
  · simp only [List.mem_cons, Prod.mk.injEq, List.not_mem_nil, or_false] at hm
    rw [e1, e2]
    obtain ⟨rfl, rfl⟩ := hm
    exact ⟨((x, u.1.2), y, u.2.2), lc_ok (z1 := ((1 : Int32), ((x, u.1.2), u.2.2))) (z2 := (r, y)) e3 (fun w => absurd w (show ¬ (1 : Int32) = 0 by decide)), hG⟩
  · rw [e1, e2]
    exact ⟨((x, u.1.2), y, vp_updL u.2.2 (0 : Int32).toNatClampNeg v.toInt64), lc_ok (z1 := ((0 : Int32), ((x, u.1.2), vp_updL u.2.2 (0 : Int32).toNatClampNeg v.toInt64))) (z2 := (v, y)) e3 (fun _ => upd0 u.2.2 (0 : Int32).toNatClampNeg v.toInt64), hG⟩
theorem qs_11 (h : G u.1 u.2.1) (a1 a2 : Int32) : ∃ v, fLc_11 u a1 a2 = some v ∧ G v.1 v.2.1 := by
  unfold fLc_11 fL_byteOf
  rcases p_byteOf h a1 a2 with ⟨c, k, x, r, y, hm, e1, e2, e3, hG⟩ | ⟨v, x, y, e1, e2, e3, hG⟩
  · simp only [List.mem_cons, Prod.mk.injEq, List.not_mem_nil, or_false] at hm
    rw [e1, e2]
    obtain ⟨rfl, rfl⟩ := hm
    exact ⟨((x, u.1.2), y, u.2.2), lc_ok (z1 := ((1 : Int32), ((x, u.1.2), u.2.2))) (z2 := (r, y)) e3 (fun w => absurd w (show ¬ (1 : Int32) = 0 by decide)), hG⟩
  · rw [e1, e2]
    exact ⟨((x, u.1.2), y, vp_updL u.2.2 (0 : Int32).toNatClampNeg v.toInt64), lc_ok (z1 := ((0 : Int32), ((x, u.1.2), vp_updL u.2.2 (0 : Int32).toNatClampNeg v.toInt64))) (z2 := (v, y)) e3 (fun _ => upd0 u.2.2 (0 : Int32).toNatClampNeg v.toInt64), hG⟩
theorem qs_12 (h : G u.1 u.2.1) (a1 a2 : Int32) : ∃ v, fLc_12 u a1 a2 = some v ∧ G v.1 v.2.1 := by
  unfold fLc_12 fL_placeOf
  rcases p_placeOf h a1 with ⟨c, k, x, r, y, hm, e1, e2, e3, hG⟩ | ⟨v, x, y, e1, e2, e3, hG⟩
  · simp only [List.mem_cons, Prod.mk.injEq, List.not_mem_nil, or_false] at hm
    rw [e1, e2]
    obtain ⟨rfl, rfl⟩ := hm
    exact ⟨((x, u.1.2), y, u.2.2), lc_ok (z1 := ((1 : Int32), ((x, u.1.2), u.2.2))) (z2 := (r, y)) e3 (fun w => absurd w (show ¬ (1 : Int32) = 0 by decide)), hG⟩
  · rw [e1, e2]
    exact ⟨((x, u.1.2), y, vp_updL u.2.2 (0 : Int32).toNatClampNeg v.toInt64), lc_ok (z1 := ((0 : Int32), ((x, u.1.2), vp_updL u.2.2 (0 : Int32).toNatClampNeg v.toInt64))) (z2 := (v, y)) e3 (fun _ => upd0 u.2.2 (0 : Int32).toNatClampNeg v.toInt64), hG⟩
theorem qs_13 (h : G u.1 u.2.1) (a1 a2 : Int32) : ∃ v, fLc_13 u a1 a2 = some v ∧ G v.1 v.2.1 := by
  obtain ⟨v, e1, e2⟩ := p_next h a1
  unfold fLc_13
  rw [e1, e2, Option.bind_some, Option.bind_some, if_pos rfl]
  exact ⟨_, rfl, G_k h 0⟩
theorem qs_14 (h : G u.1 u.2.1) (a1 a2 : Int32) : ∃ v, fLc_14 u a1 a2 = some v ∧ G v.1 v.2.1 := by
  obtain ⟨v, e1, e2⟩ := p_rowAt h a1
  unfold fLc_14
  rw [e1, e2, Option.bind_some, Option.bind_some, if_pos rfl]
  exact ⟨_, rfl, G_k h 0⟩
theorem qs_15 (h : G u.1 u.2.1) (a1 a2 : Int32) : ∃ v, fLc_15 u a1 a2 = some v ∧ G v.1 v.2.1 := by
  obtain ⟨v, e1, e2⟩ := p_pages h
  unfold fLc_15
  rw [e1, e2, Option.bind_some, Option.bind_some, if_pos rfl]
  exact ⟨_, rfl, G_k h 0⟩
theorem qs_16 (h : G u.1 u.2.1) (a1 a2 : Int32) : ∃ v, fLc_16 u a1 a2 = some v ∧ G v.1 v.2.1 := by
  unfold fLc_16 fL_pageByte
  rcases p_pageByte h a1 a2 with ⟨c, k, x, r, y, hm, e1, e2, e3, hG⟩ | ⟨v, x, y, e1, e2, e3, hG⟩
  · simp only [List.mem_cons, Prod.mk.injEq, List.not_mem_nil, or_false] at hm
    rw [e1, e2]
    obtain ⟨rfl, rfl⟩ := hm
    exact ⟨((x, u.1.2), y, u.2.2), lc_ok (z1 := ((1 : Int32), ((x, u.1.2), u.2.2))) (z2 := (r, y)) e3 (fun w => absurd w (show ¬ (1 : Int32) = 0 by decide)), hG⟩
  · rw [e1, e2]
    exact ⟨((x, u.1.2), y, vp_updL u.2.2 (0 : Int32).toNatClampNeg v.toInt64), lc_ok (z1 := ((0 : Int32), ((x, u.1.2), vp_updL u.2.2 (0 : Int32).toNatClampNeg v.toInt64))) (z2 := (v, y)) e3 (fun _ => upd0 u.2.2 (0 : Int32).toNatClampNeg v.toInt64), hG⟩
theorem qs_17 (h : G u.1 u.2.1) (a1 a2 : Int32) : ∃ v, fLc_17 u a1 a2 = some v ∧ G v.1 v.2.1 := by
  unfold fLc_17 fL_free
  rcases p_free h a1 with ⟨c, k, x, r, y, hm, e1, e2, e3, hG⟩ | ⟨v, x, y, e1, e2, e3, hG⟩
  · simp only [List.mem_cons, Prod.mk.injEq, List.not_mem_nil, or_false] at hm
    rw [e1, e2]
    obtain ⟨rfl, rfl⟩ := hm
    exact ⟨((x, u.1.2), y, u.2.2), lc_ok (z1 := ((1 : Int32), ((x, u.1.2), u.2.2))) (z2 := (r, y)) e3 (fun w => absurd w (show ¬ (1 : Int32) = 0 by decide)), hG⟩
  · rw [e1, e2]
    exact ⟨((x, u.1.2), y, vp_updL u.2.2 (0 : Int32).toNatClampNeg v.toInt64), lc_ok (z1 := ((0 : Int32), ((x, u.1.2), vp_updL u.2.2 (0 : Int32).toNatClampNeg v.toInt64))) (z2 := (v, y)) e3 (fun _ => upd0 u.2.2 (0 : Int32).toNatClampNeg v.toInt64), hG⟩
theorem qs_18 (h : G u.1 u.2.1) (a1 a2 : Int32) : ∃ v, fLc_18 u a1 a2 = some v ∧ G v.1 v.2.1 := by
  unfold fLc_18 fL_gap
  rcases p_gap h a1 with ⟨c, k, x, r, y, hm, e1, e2, e3, hG⟩ | ⟨v, x, y, e1, e2, e3, hG⟩
  · simp only [List.mem_cons, Prod.mk.injEq, List.not_mem_nil, or_false] at hm
    rw [e1, e2]
    obtain ⟨rfl, rfl⟩ := hm
    exact ⟨((x, u.1.2), y, u.2.2), lc_ok (z1 := ((1 : Int32), ((x, u.1.2), u.2.2))) (z2 := (r, y)) e3 (fun w => absurd w (show ¬ (1 : Int32) = 0 by decide)), hG⟩
  · rw [e1, e2]
    exact ⟨((x, u.1.2), y, vp_updL u.2.2 (0 : Int32).toNatClampNeg v.toInt64), lc_ok (z1 := ((0 : Int32), ((x, u.1.2), vp_updL u.2.2 (0 : Int32).toNatClampNeg v.toInt64))) (z2 := (v, y)) e3 (fun _ => upd0 u.2.2 (0 : Int32).toNatClampNeg v.toInt64), hG⟩
theorem qs_19 (h : G u.1 u.2.1) (a1 a2 : Int32) : ∃ v, fLc_19 u a1 a2 = some v ∧ G v.1 v.2.1 := by
  obtain ⟨v, e1, e2⟩ := p_kind h a1
  unfold fLc_19
  rw [e1, e2, Option.bind_some, Option.bind_some, if_pos rfl]
  exact ⟨_, rfl, G_k h 0⟩
theorem qs_20 (h : G u.1 u.2.1) (a1 a2 : Int32) : ∃ v, fLc_20 u a1 a2 = some v ∧ G v.1 v.2.1 := by
  obtain ⟨v, e1, e2⟩ := p_notes h
  unfold fLc_20
  rw [e1, e2, Option.bind_some, Option.bind_some, if_pos rfl]
  exact ⟨_, rfl, G_k h 0⟩
theorem qs_21 (h : G u.1 u.2.1) (a1 a2 : Int32) : ∃ v, fLc_21 u a1 a2 = some v ∧ G v.1 v.2.1 := by
  obtain ⟨v, e1, e2⟩ := p_moves h
  unfold fLc_21
  rw [e1, e2, Option.bind_some, Option.bind_some, if_pos rfl]
  exact ⟨_, rfl, G_k h 0⟩
theorem qs_22 (h : G u.1 u.2.1) (a1 a2 : Int32) : ∃ v, fLc_22 u a1 a2 = some v ∧ G v.1 v.2.1 := by
  obtain ⟨v, e1, e2⟩ := p_returns h
  unfold fLc_22
  rw [e1, e2, Option.bind_some, Option.bind_some, if_pos rfl]
  exact ⟨_, rfl, G_k h 0⟩
theorem qs_23 (h : G u.1 u.2.1) (a1 a2 : Int32) : ∃ v, fLc_23 u a1 a2 = some v ∧ G v.1 v.2.1 := by
  obtain ⟨v, e1, e2⟩ := p_compactions h
  unfold fLc_23
  rw [e1, e2, Option.bind_some, Option.bind_some, if_pos rfl]
  exact ⟨_, rfl, G_k h 0⟩
theorem qs_24 (h : G u.1 u.2.1) (a1 a2 : Int32) : ∃ v, fLc_24 u a1 a2 = some v ∧ G v.1 v.2.1 := by
  obtain ⟨v, e1, e2⟩ := p_fillFactor h
  unfold fLc_24
  rw [e1, e2, Option.bind_some, Option.bind_some]
  refine ⟨(u.1, ((0, u.2.1.1.2), u.2.1.2), u.2.2), ?_, G_k h 0⟩
  by_cases c : Op.cmpValue (FP.dcmp v v) .l = 0
  · rw [if_pos c]
  · rw [if_neg c, if_neg c, if_neg c]
theorem qs_25 (h : G u.1 u.2.1) (a1 a2 : Int32) : ∃ v, fLc_25 u a1 a2 = some v ∧ G v.1 v.2.1 := by
  unfold fLc_25 fL_ifInserted
  rcases p_ifInserted h a1 with ⟨c, k, x, r, y, hm, e1, e2, e3, hG⟩ | ⟨v, x, y, e1, e2, e3, hG⟩
  · simp only [List.mem_cons, Prod.mk.injEq, List.not_mem_nil, or_false] at hm
    rw [e1, e2]
    obtain ⟨rfl, rfl⟩ := hm
    exact ⟨((x, u.1.2), y, u.2.2), lc_ok (z1 := ((1 : Int32), ((x, u.1.2), u.2.2))) (z2 := (r, y)) e3 (fun w => absurd w (show ¬ (1 : Int32) = 0 by decide)), hG⟩
  · rw [e1, e2]
    exact ⟨((x, u.1.2), y, vp_updL u.2.2 (0 : Int32).toNatClampNeg v.toInt64), lc_ok (z1 := ((0 : Int32), ((x, u.1.2), vp_updL u.2.2 (0 : Int32).toNatClampNeg v.toInt64))) (z2 := (v, y)) e3 (fun _ => upd0 u.2.2 (0 : Int32).toNatClampNeg v.toInt64), hG⟩
theorem qs_26 (h : G u.1 u.2.1) (a1 a2 : Int32) : ∃ v, fLc_26 u a1 a2 = some v ∧ G v.1 v.2.1 := by
  unfold fLc_26 fL_ifUpdated
  rcases p_ifUpdated h a1 a2 with ⟨c, k, x, r, y, hm, e1, e2, e3, hG⟩ | ⟨v, x, y, e1, e2, e3, hG⟩
  · simp only [List.mem_cons, Prod.mk.injEq, List.not_mem_nil, or_false] at hm
    rw [e1, e2]
    rcases hm with ⟨rfl, rfl⟩ | ⟨rfl, rfl⟩
    · exact ⟨((x, u.1.2), y, u.2.2), lc_ok (z1 := ((1 : Int32), ((x, u.1.2), u.2.2))) (z2 := (r, y)) e3 (fun w => absurd w (show ¬ (1 : Int32) = 0 by decide)), hG⟩
    · exact ⟨((x, u.1.2), y, u.2.2), lc_ok (z1 := ((2 : Int32), ((x, u.1.2), u.2.2))) (z2 := (r, y)) e3 (fun w => absurd w (show ¬ (2 : Int32) = 0 by decide)), hG⟩
  · rw [e1, e2]
    exact ⟨((x, u.1.2), y, vp_updL u.2.2 (0 : Int32).toNatClampNeg v.toInt64), lc_ok (z1 := ((0 : Int32), ((x, u.1.2), vp_updL u.2.2 (0 : Int32).toNatClampNeg v.toInt64))) (z2 := (v, y)) e3 (fun _ => upd0 u.2.2 (0 : Int32).toNatClampNeg v.toInt64), hG⟩
theorem qs_27 (h : G u.1 u.2.1) (a1 a2 : Int32) : ∃ v, fLc_27 u a1 a2 = some v ∧ G v.1 v.2.1 := by
  unfold fLc_27 fL_greatestAtHome
  rcases p_greatest h a1 with ⟨c, k, x, r, y, hm, e1, e2, e3, hG⟩ | ⟨v, x, y, e1, e2, e3, hG⟩
  · simp only [List.mem_cons, Prod.mk.injEq, List.not_mem_nil, or_false] at hm
    rw [e1, e2]
    obtain ⟨rfl, rfl⟩ := hm
    exact ⟨((x, u.1.2), y, u.2.2), lc_ok (z1 := ((1 : Int32), ((x, u.1.2), u.2.2))) (z2 := (r, y)) e3 (fun w => absurd w (show ¬ (1 : Int32) = 0 by decide)), hG⟩
  · rw [e1, e2]
    exact ⟨((x, u.1.2), y, vp_updL u.2.2 (0 : Int32).toNatClampNeg v.toInt64), lc_ok (z1 := ((0 : Int32), ((x, u.1.2), vp_updL u.2.2 (0 : Int32).toNatClampNeg v.toInt64))) (z2 := (v, y)) e3 (fun _ => upd0 u.2.2 (0 : Int32).toNatClampNeg v.toInt64), hG⟩
theorem qs_28 (h : G u.1 u.2.1) (a1 a2 : Int32) : ∃ v, fLc_28 u a1 a2 = some v ∧ G v.1 v.2.1 := by
  unfold fLc_28 fL_capacity
  rcases p_capacity h a1 with ⟨c, k, x, r, y, hm, e1, e2, e3, hG⟩ | ⟨v, x, y, e1, e2, e3, hG⟩
  · simp only [List.mem_cons, Prod.mk.injEq, List.not_mem_nil, or_false] at hm
    rw [e1, e2]
    obtain ⟨rfl, rfl⟩ := hm
    exact ⟨((x, u.1.2), y, u.2.2), lc_ok (z1 := ((1 : Int32), ((x, u.1.2), u.2.2))) (z2 := (r, y)) e3 (fun w => absurd w (show ¬ (1 : Int32) = 0 by decide)), hG⟩
  · rw [e1, e2]
    exact ⟨((x, u.1.2), y, vp_updL u.2.2 (0 : Int32).toNatClampNeg v.toInt64), lc_ok (z1 := ((0 : Int32), ((x, u.1.2), vp_updL u.2.2 (0 : Int32).toNatClampNeg v.toInt64))) (z2 := (v, y)) e3 (fun _ => upd0 u.2.2 (0 : Int32).toNatClampNeg v.toInt64), hG⟩
theorem qs_29 (h : G u.1 u.2.1) (a1 a2 : Int32) : ∃ v, fLc_29 u a1 a2 = some v ∧ G v.1 v.2.1 := by
  obtain ⟨v, x, y, e1, e2, hG⟩ := p_firstError h
  unfold fLc_29
  rw [e1, e2, Option.bind_some, Option.bind_some, if_pos rfl]
  exact ⟨_, rfl, hG⟩
theorem qs_30 (h : G u.1 u.2.1) (a1 a2 : Int32) : ∃ v, fLc_30 u a1 a2 = some v ∧ G v.1 v.2.1 := by
  unfold fLc_30 fL_run
  rcases p_run h with ⟨c, k, x, r, y, hm, e1, e2, e3, hG⟩ | ⟨v, x, y, e1, e2, e3, hG⟩
  · simp only [List.mem_cons, Prod.mk.injEq, List.not_mem_nil, or_false] at hm
    rw [e1, e2]
    obtain ⟨rfl, rfl⟩ := hm
    exact ⟨(x, y, u.2.2), lc_ok (z1 := ((1 : Int32), (x, u.2.2))) (z2 := (r, y)) e3 (fun w => absurd w (show ¬ (1 : Int32) = 0 by decide)), hG⟩
  · rw [e1, e2]
    exact ⟨(x, y, vp_updL u.2.2 (0 : Int32).toNatClampNeg v.toInt64), lc_ok (z1 := ((0 : Int32), (x, vp_updL u.2.2 (0 : Int32).toNatClampNeg v.toInt64))) (z2 := (v, y)) e3 (fun _ => upd0 u.2.2 (0 : Int32).toNatClampNeg v.toInt64), hG⟩
theorem qs_31 (h : G u.1 u.2.1) (a1 a2 : Int32) : ∃ v, fLc_31 u a1 a2 = some v ∧ G v.1 v.2.1 := by
  unfold fLc_31 fL_undo
  rcases p_undo h with ⟨c, k, x, r, y, hm, e1, e2, e3, hG⟩ | ⟨v, x, y, e1, e2, e3, hG⟩
  · simp only [List.mem_cons, Prod.mk.injEq, List.not_mem_nil, or_false] at hm
    rw [e1, e2]
    obtain ⟨rfl, rfl⟩ := hm
    exact ⟨(x, y, u.2.2), lc_ok (z1 := ((1 : Int32), (x, u.2.2))) (z2 := (r, y)) e3 (fun w => absurd w (show ¬ (1 : Int32) = 0 by decide)), hG⟩
  · rw [e1, e2]
    exact ⟨(x, y, vp_updL u.2.2 (0 : Int32).toNatClampNeg v.toInt64), lc_ok (z1 := ((0 : Int32), (x, vp_updL u.2.2 (0 : Int32).toNatClampNeg v.toInt64))) (z2 := (v, y)) e3 (fun _ => upd0 u.2.2 (0 : Int32).toNatClampNeg v.toInt64), hG⟩
theorem qs_32 (h : G u.1 u.2.1) (a1 a2 : Int32) : ∃ v, fLc_32 u a1 a2 = some v ∧ G v.1 v.2.1 := by
  obtain ⟨v, e1, e2⟩ := p_savedStates h
  unfold fLc_32
  rw [e1, e2, Option.bind_some, Option.bind_some, if_pos rfl]
  exact ⟨_, rfl, G_k h 0⟩
theorem qs_33 (h : G u.1 u.2.1) (a1 a2 : Int32) : ∃ v, fLc_33 u a1 a2 = some v ∧ G v.1 v.2.1 := by
  obtain ⟨v, H, e1, e2⟩ := p_digest h
  unfold fLc_33
  rw [e1, e2, Option.bind_some, Option.bind_some, if_pos (lg_refl v)]
  exact ⟨_, rfl, h⟩
theorem step_ok (h : G u.1 u.2.1) (a0 a1 a2 : Int32) : ∃ v, fL_step u a0 a1 a2 = some v ∧ G v.1 v.2.1 := by
  unfold fL_step
  by_cases c0 : (a0 &&& 63) = 0
  · rw [if_pos c0]; exact qs_0 h a1 a2
  rw [if_neg c0]
  by_cases c1 : (a0 &&& 63) = 1
  · rw [if_pos c1]; exact qs_1 h a1 a2
  rw [if_neg c1]
  by_cases c2 : (a0 &&& 63) = 2
  · rw [if_pos c2]; exact qs_2 h a1 a2
  rw [if_neg c2]
  by_cases c3 : (a0 &&& 63) = 3
  · rw [if_pos c3]; exact qs_3 h a1 a2
  rw [if_neg c3]
  by_cases c4 : (a0 &&& 63) = 4
  · rw [if_pos c4]; exact qs_4 h a1 a2
  rw [if_neg c4]
  by_cases c5 : (a0 &&& 63) = 5
  · rw [if_pos c5]; exact qs_5 h a1 a2
  rw [if_neg c5]
  by_cases c6 : (a0 &&& 63) = 6
  · rw [if_pos c6]; exact qs_6 h a1 a2
  rw [if_neg c6]
  by_cases c7 : (a0 &&& 63) = 7
  · rw [if_pos c7]; exact qs_7 h a1 a2
  rw [if_neg c7]
  by_cases c8 : (a0 &&& 63) = 8
  · rw [if_pos c8]; exact qs_8 h a1 a2
  rw [if_neg c8]
  by_cases c9 : (a0 &&& 63) = 9
  · rw [if_pos c9]; exact qs_9 h a1 a2
  rw [if_neg c9]
  by_cases c10 : (a0 &&& 63) = 10
  · rw [if_pos c10]; exact qs_10 h a1 a2
  rw [if_neg c10]
  by_cases c11 : (a0 &&& 63) = 11
  · rw [if_pos c11]; exact qs_11 h a1 a2
  rw [if_neg c11]
  by_cases c12 : (a0 &&& 63) = 12
  · rw [if_pos c12]; exact qs_12 h a1 a2
  rw [if_neg c12]
  by_cases c13 : (a0 &&& 63) = 13
  · rw [if_pos c13]; exact qs_13 h a1 a2
  rw [if_neg c13]
  by_cases c14 : (a0 &&& 63) = 14
  · rw [if_pos c14]; exact qs_14 h a1 a2
  rw [if_neg c14]
  by_cases c15 : (a0 &&& 63) = 15
  · rw [if_pos c15]; exact qs_15 h a1 a2
  rw [if_neg c15]
  by_cases c16 : (a0 &&& 63) = 16
  · rw [if_pos c16]; exact qs_16 h a1 a2
  rw [if_neg c16]
  by_cases c17 : (a0 &&& 63) = 17
  · rw [if_pos c17]; exact qs_17 h a1 a2
  rw [if_neg c17]
  by_cases c18 : (a0 &&& 63) = 18
  · rw [if_pos c18]; exact qs_18 h a1 a2
  rw [if_neg c18]
  by_cases c19 : (a0 &&& 63) = 19
  · rw [if_pos c19]; exact qs_19 h a1 a2
  rw [if_neg c19]
  by_cases c20 : (a0 &&& 63) = 20
  · rw [if_pos c20]; exact qs_20 h a1 a2
  rw [if_neg c20]
  by_cases c21 : (a0 &&& 63) = 21
  · rw [if_pos c21]; exact qs_21 h a1 a2
  rw [if_neg c21]
  by_cases c22 : (a0 &&& 63) = 22
  · rw [if_pos c22]; exact qs_22 h a1 a2
  rw [if_neg c22]
  by_cases c23 : (a0 &&& 63) = 23
  · rw [if_pos c23]; exact qs_23 h a1 a2
  rw [if_neg c23]
  by_cases c24 : (a0 &&& 63) = 24
  · rw [if_pos c24]; exact qs_24 h a1 a2
  rw [if_neg c24]
  by_cases c25 : (a0 &&& 63) = 25
  · rw [if_pos c25]; exact qs_25 h a1 a2
  rw [if_neg c25]
  by_cases c26 : (a0 &&& 63) = 26
  · rw [if_pos c26]; exact qs_26 h a1 a2
  rw [if_neg c26]
  by_cases c27 : (a0 &&& 63) = 27
  · rw [if_pos c27]; exact qs_27 h a1 a2
  rw [if_neg c27]
  by_cases c28 : (a0 &&& 63) = 28
  · rw [if_pos c28]; exact qs_28 h a1 a2
  rw [if_neg c28]
  by_cases c29 : (a0 &&& 63) = 29
  · rw [if_pos c29]; exact qs_29 h a1 a2
  rw [if_neg c29]
  by_cases c30 : (a0 &&& 63) = 30
  · rw [if_pos c30]; exact qs_30 h a1 a2
  rw [if_neg c30]
  by_cases c31 : (a0 &&& 63) = 31
  · rw [if_pos c31]; exact qs_31 h a1 a2
  rw [if_neg c31]
  by_cases c32 : (a0 &&& 63) = 32
  · rw [if_pos c32]; exact qs_32 h a1 a2
  rw [if_neg c32]
  by_cases c33 : (a0 &&& 63) = 33
  · rw [if_pos c33]; exact qs_33 h a1 a2
  rw [if_neg c33]
  exact ⟨u, rfl, h⟩
end LC
def Inv (u : THS × TM × OutR) : Prop := G u.1 u.2.1
theorem inv0 (rf ra : Nat → Nat) : Inv ((zTH, (fun _ => zTS), rf, ra), zTM, fun _ => 0) := by
  refine ⟨(0, (fun _ => g0), 0, 0, 0), (fun _ => (0, (fun _ => g0), 0, 0, 0)), 0, 0, (fun _ => 0), ⟨⟨by decide, fun _ _ => g0_WF, fun _ _ _ => rfl⟩, ?_, by omega, by omega, fun i hi => absurd hi (Nat.not_lt_zero i)⟩, ⟨⟨rfl, fun p hp => absurd hp (Nat.not_lt_zero p), fun _ _ _ _ _ => rfl⟩, rfl, fun i hi => absurd hi (Nat.not_lt_zero i), rfl, fun i hi => absurd hi (Nat.not_lt_zero i)⟩, ⟨⟨rfl, rfl, rfl, rfl, fun p _ => ⟨rfl, fun _ _ => ⟨rfl, rfl⟩, fun _ _ => rfl⟩⟩, rfl, fun i hi => absurd hi (Nat.not_lt_zero i), rfl, fun i hi => absurd hi (Nat.not_lt_zero i)⟩⟩
  intro p s hh
  exact absurd hh.1 (Nat.not_lt_zero p)
