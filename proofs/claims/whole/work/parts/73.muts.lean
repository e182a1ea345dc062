section MU
variable {A : AS} {K : Nat → AS} {n L : Nat} {b : Nat → Int32}
theorem m_takesBuf {y : TM} {x z : Nat} (hxz : x ≤ z) (hz : z ≤ 60) : ∃ r : Ar, fX5_takesBuffer y (nI x) (nI z) = some ((y.1.1, y.1.2.1, y.1.2.2.1, nI (z - x), y.1.2.2.2.2), y.2.1, y.2.2.1, r, y.2.2.2.2) ∧ ∀ i, i < z - x → r i = y.2.2.1 (x + i) := by
  unfold fX5_takesBuffer
  have hloop : ∃ d, itr (fun a : TM × Int32 × Int32 => fX5_takesBuffer_s9 a.1 a.2.1 a.2.2) FU (((y.1.1, y.1.2.1, y.1.2.2.1, nI (z - x), y.1.2.2.2.2), y.2), nI x, (0 : Int32)) = some d ∧ ∃ r : Ar, d = ((y.1.1, y.1.2.1, y.1.2.2.1, nI (z - x), y.1.2.2.2.2), y.2.1, y.2.2.1, r, y.2.2.2.2) ∧ ∀ i, i < z - x → r i = y.2.2.1 (x + i) := by
    refine itrI (fun j t => ∃ r : Ar, t = (((y.1.1, y.1.2.1, y.1.2.2.1, nI (z - x), y.1.2.2.2.2), y.2.1, y.2.2.1, r, y.2.2.2.2), nI x, nI j) ∧ ∀ i, i < j → r i = y.2.2.1 (x + i)) _ (z - x) ⟨_, rfl, fun i hi => absurd hi (Nat.not_lt_zero i)⟩ ?_ ?_ (by omega)
    · intro j t hj ht
      obtain ⟨r, rfl, e⟩ := ht
      refine ⟨_, ?_, upd r j (y.2.2.1 (x + j)), rfl, ?_⟩
      · show fX5_takesBuffer_s9 ((y.1.1, y.1.2.1, y.1.2.2.1, nI (z - x), y.1.2.2.2.2), y.2.1, y.2.2.1, r, y.2.2.2.2) _ _ = _
        unfold fX5_takesBuffer_s9
        rw [if_neg (by rw [e_le (by omega) (by omega)]; omega), nI_add, rdN (by omega) (by omega), Option.bind_some, wrN (by omega) (by omega), Option.bind_some]
        simp only [lit, nI_add]
      · intro i hi
        by_cases c : i = j
        · rw [c, updS]
        · rw [updN c]; exact e i (by omega)
    · intro t ht
      obtain ⟨r, rfl, e⟩ := ht
      refine ⟨_, ?_, r, rfl, e⟩
      show fX5_takesBuffer_s9 _ _ _ = _
      unfold fX5_takesBuffer_s9
      simp (disch := omega) only [e_le, Nat.le_refl, if_true]
  obtain ⟨d, e1, r, rfl, e2⟩ := hloop
  rw [e_sub hxz, e1]
  exact ⟨r, rfl, e2⟩
theorem sv2 {x : THS} {y : TM} (hW : WI A K n L) (hX : CX x A K n L b) (hY : MY y A K n L b) : ∃ (v : Nat → TS) (r : (Nat → Nat) × (Nat → Nat)) (f : Ar), fX4_saveState x = some ((x.1.1, x.1.2.1, x.1.2.2.1, x.1.2.2.2.1, x.1.2.2.2.2.1, nI (svN n)), v, r) ∧ fX5_save y = some ((y.1.1, nI (svN n), y.1.2.2), f, y.2.2) ∧ RA f A ∧ (∀ i, i < svN n → CA (v i) (svK K n A i)) ∧ (∀ i, i < svN n → RA (fun j => f (1532 * (i + 1) + j)) (svK K n A i)) ∧ svN n ≤ 6 ∧ ∀ i, i < svN n → WA (svK K n A i) ∧ RI (svK K n A i) := by
  obtain ⟨v, r, h1, h2⟩ := c_save (u := x) hW.1 hX.1 hW.2.2.2.1 hX.2.2.2.1 hX.2.2.2.2
  obtain ⟨f, h3, h4, h5⟩ := m_save (u := y) hY.1 hW.2.2.2.1 hY.2.2.2.1 hY.2.2.2.2
  refine ⟨v, r, f, h1, h3, h4, h2, h5, ?_, svK_ok hW.1 hW.2.1 hW.2.2.2.1 hW.2.2.2.2⟩
  have := hW.2.2.2.1
  unfold svN
  split <;> omega
theorem shf {f g : Ar} {K : Nat → AS} {n : Nat} (h : ∀ i, i < n → RA (fun j => f (1532 * (i + 1) + j)) (K i)) (e : ∀ j, 1532 ≤ j → g j = f j) : ∀ i, i < n → RA (fun j => g (1532 * (i + 1) + j)) (K i) :=
  fun i hi => RA_cong (h i hi) (fun j _ => e _ (by omega))
theorem fpR_no {A : AS} {z : Nat} {e1 e2 : Int32} (h : ¬ fp A z e1 e2 < 8) : fpR A z e1 e2 = M1 := if_neg h
theorem fpR_yes {A : AS} {z : Nat} {e1 e2 : Int32} (h : fp A z e1 e2 < 8) : fpR A z e1 e2 = nI (fp A z e1 e2) := if_pos h
theorem nz {k : Nat} (h : k < 2 ^ 31) : ¬ nI k = M1 := fun w => by rw [nI_neM1 h] at w; exact w
theorem p_insert {x : THS} {y : TM} (h : G x y) : PS (fX4_insert x) (fX5_insert y) [(2, 1)] := by
  obtain ⟨A, K, n, L, b, hW, hX, hY⟩ := id h
  have hL60 := hW.2.2.1
  have hz := hs_b hL60
  unfold fX4_insert fX5_insert
  simp only [m1e]
  rw [hX.2.1, c_hs hL60, Option.bind_some, c_findPage hW.1 hX.1 (by omega), Option.bind_some, hY.2.1, m_hs hL60, Option.bind_some, m_pageFor hW.1 hY.1 (by omega), Option.bind_some]
  by_cases c : fp A (hs L) M1 M1 < 8
  · have hr := fp_room hW.1 c (show hs L ≤ 124 by omega)
    have hle := fp_le A (hs L) M1 M1
    rw [fpR_yes c, if_neg (nz (by omega)), if_neg (nz (by omega))]
    obtain ⟨v, r, f, k1, k2, k3, k4, k5, k6, k7⟩ := sv2 (y := ((0, y.1.2), y.2)) hW hX hY
    obtain ⟨ct, t1, t2⟩ := c_take (a := x.1.2.2.1) (b := x.1.2.1) (n := 60) (n2 := 60) (m := L) (x := 0) (y := L) hX.2.1 hL60 (by omega) (by omega) (by omega) (by omega) (by omega)
    obtain ⟨w, j1, j2, j3, j4, j5⟩ := c_ins (u := (x.1.1, (nI 0, x.1.2.1.2), (nI (L - 0), ct), x.1.2.2.2.1, x.1.2.2.2.2.1, nI (svN n))) (p := fp A (hs L) M1 M1) (l := L) hW.1 hX.1 c hle hL60 rfl hr
    obtain ⟨mt, t3, t4⟩ := m_takesBuf (y := ((0, nI (svN n), y.1.2.2), f, y.2.2)) (x := 0) (z := L) (by omega) hL60
    obtain ⟨f2, m2, g1, g2, g3⟩ := m_ins (u := ((0, nI (svN n), 0, nI (L - 0), y.1.2.2.2.2), f, y.2.2.1, mt, y.2.2.2.2)) (l := L) hW.1 k3 hL60 rfl c
    have hE := ins_eff (c := ct) hW.1 hW.2.1 c hle hL60 hr
    have hcc : ∀ i, i < L → mt i = ct i := by
      intro i hi
      rw [t4 i (by omega), t2 i (by omega), Nat.zero_add, hX.2.2.1 i hi]
      exact hY.2.2.1 i hi
    refine Or.inr ⟨nI (100 * fp1 A (hs L) + fe (A.2.1 (fp1 A (hs L)))), (w, v, r), ((0, nI (svN n), 0, nI (L - 0), y.1.2.2.2.2), f2, y.2.2.1, mt, m2), ?_, ?_, ?_, ⟨ins A (fp1 A (hs L)) L ct, svK K n A, svN n, 0, b, ⟨hE.1, hE.2, by omega, k6, k7⟩, ⟨j2, ?_, fun i hi => absurd hi (Nat.not_lt_zero i), ?_, k4⟩, ⟨?_, ?_, fun i hi => absurd hi (Nat.not_lt_zero i), ?_, ?_⟩⟩⟩
    · rw [k1, Option.bind_some]
      show ((fX0_takePart 60 60 (x.1.2.2.1, x.1.2.1) (nI 0) x.1.2.1.1).bind _) = _
      rw [hX.2.1, t1, Option.bind_some, c_empty, Option.bind_some, j1, Option.bind_some]
      rfl
    · unfold fX5_insert_j23
      rw [holds0, Option.bind_some, if_neg (show ¬ (1 : Int32) = 0 by decide), k2, Option.bind_some]
      show ((fX5_takesBuffer ((0, nI (svN n), y.1.2.2), f, y.2.2) (nI 0) y.1.2.2.1).bind _) = _
      rw [hY.2.1, t3, Option.bind_some]
      dsimp only
      rw [g1, Option.bind_some]
    · rfl
    · show w.2.1.1 = _
      rw [j3]
    · show w.2.2.2.2.2 = _
      rw [j5]
    · show RA f2 _
      rw [← ins_cong hcc]
      exact g2
    · rfl
    · rfl
    · exact shf k5 g3
  · rw [fpR_no c, if_pos rfl, if_pos rfl]
    exact Or.inl ⟨2, 1, x, 0, ((1, y.1.2), y.2), by simp, rfl, rfl, rfl, G_k h 1⟩
theorem c_reqNo {u : TH} {a : Int32} (h : fX4_isRow u a = some 0) : fX4_requireRow u a = some (.inl (3, u)) := by
  unfold fX4_requireRow
  rw [h]; rfl
theorem c_reqYes {u : TH} {a : Int32} (h : fX4_isRow u a = some 1) : fX4_requireRow u a = some (.inr u) := by
  unfold fX4_requireRow
  rw [h]; rfl
theorem p_update {x : THS} {y : TM} (h : G x y) (a : Int32) : PS (fX4_update x a) (fX5_update y a) [(3, 1), (2, 2)] := by
  obtain ⟨A, K, n, L, b, hW, hX, hY⟩ := id h
  have hL60 := hW.2.2.1
  unfold fX4_update fX5_update
  rcases rowx hW.1 a with ⟨r1, r2⟩ | ⟨p, s, hp, hs1, rfl, hk, r1, r2⟩
  · rw [c_reqNo (r1 _ hX.1), r2 _ hY.1]
    exact Or.inl ⟨3, 1, x, 0, ((1, y.1.2), y.2), by simp, rfl, rfl, rfl, G_k h 1⟩
  · have hh : has A p s := kn_has (by omega)
    rw [c_reqYes (r1 _ hX.1), r2 _ hY.1, Option.bind_some, Option.bind_some, if_neg (by decide), hY.2.1, m_way hW.1 hW.2.1 hY.1 hk hL60, Option.bind_some]
    show PS ((fX4_wayToChange x.1 (nI (100 * p + s)) x.1.2.1.1).bind _) _ _
    rw [hX.2.1, c_way hW.1 hW.2.1 hX.1 hh hL60, Option.bind_some]
    simp only [m1e]
    by_cases c : wy A p s L = M1
    · rw [c, if_pos rfl, if_pos rfl]
      exact Or.inl ⟨2, 2, x, 0, ((2, y.1.2), y.2), by simp, rfl, rfl, rfl, G_k h 2⟩
    · rw [if_neg c, if_neg c]
      obtain ⟨v, r, f, k1, k2, k3, k4, k5, k6, k7⟩ := sv2 (y := ((0, y.1.2), y.2)) hW hX hY
      obtain ⟨ct, t1, t2⟩ := c_take (a := x.1.2.2.1) (b := x.1.2.1) (n := 60) (n2 := 60) (m := L) (x := 0) (y := L) hX.2.1 hL60 (by omega) (by omega) (by omega) (by omega) (by omega)
      obtain ⟨w, j1, j2, j3, j4, j5⟩ := c_chg (u := (x.1.1, (nI 0, x.1.2.1.2), (nI (L - 0), ct), x.1.2.2.2.1, x.1.2.2.2.2.1, nI (svN n))) (l := L) hW.1 hW.2.1 hX.1 hk hL60 rfl c
      obtain ⟨mt, t3, t4⟩ := m_takesBuf (y := ((0, nI (svN n), y.1.2.2), f, y.2.2)) (x := 0) (z := L) (by omega) hL60
      obtain ⟨f2, m2, g1, g2, g3⟩ := m_chg (u := ((0, nI (svN n), 0, nI (L - 0), y.1.2.2.2.2), f, y.2.2.1, mt, y.2.2.2.2)) (l := L) hW.1 hW.2.1 k3 hk hL60 rfl c
      have hE := chg_eff (c := ct) hW.1 hW.2.1 hk hL60 c
      have hcc : ∀ i, i < L → mt i = ct i := by
        intro i hi
        rw [t4 i (by omega), t2 i (by omega), Nat.zero_add, hX.2.2.1 i hi]
        exact hY.2.2.1 i hi
      refine Or.inr ⟨wy A p s L, (w, v, r), ((0, nI (svN n), 0, nI (L - 0), y.1.2.2.2.2), f2, y.2.2.1, mt, m2), ?_, ?_, ?_, ⟨chg A p s L ct, svK K n A, svN n, 0, b, ⟨hE.1, hE.2, by omega, k6, k7⟩, ⟨j2, ?_, fun i hi => absurd hi (Nat.not_lt_zero i), ?_, k4⟩, ⟨?_, ?_, fun i hi => absurd hi (Nat.not_lt_zero i), ?_, ?_⟩⟩⟩
      · show ((fX4_saveState x).bind _) = _
        rw [k1, Option.bind_some]
        show ((fX0_takePart 60 60 (x.1.2.2.1, x.1.2.1) (nI 0) x.1.2.1.1).bind _) = _
        rw [hX.2.1, t1, Option.bind_some, c_empty, Option.bind_some, j1, Option.bind_some]
      · unfold fX5_update_j33
        rw [holds0, Option.bind_some, if_neg (show ¬ (1 : Int32) = 0 by decide), k2, Option.bind_some]
        show ((fX5_takesBuffer ((0, nI (svN n), y.1.2.2), f, y.2.2) (nI 0) y.1.2.2.1).bind _) = _
        rw [hY.2.1, t3, Option.bind_some]
        dsimp only
        rw [g1, Option.bind_some]
      · rfl
      · show w.2.1.1 = _
        rw [j3]
      · show w.2.2.2.2.2 = _
        rw [j5]
      · show RA f2 _
        rw [← chg_cong hcc]
        exact g2
      · rfl
      · rfl
      · exact shf k5 g3
theorem p_delete {x : THS} {y : TM} (h : G x y) (a : Int32) : PS (fX4_delete x a) (fX5_delete y a) [(3, 1)] := by
  obtain ⟨A, K, n, L, b, hW, hX, hY⟩ := id h
  unfold fX4_delete fX5_delete
  rcases rowx hW.1 a with ⟨r1, r2⟩ | ⟨p, s, hp, hs1, rfl, hk, r1, r2⟩
  · rw [c_reqNo (r1 _ hX.1), r2 _ hY.1]
    exact Or.inl ⟨3, 1, x, 0, ((1, y.1.2), y.2), by simp, rfl, rfl, rfl, G_k h 1⟩
  · have hh : has A p s := kn_has (by omega)
    have hP := pp_b hW.1 hW.2.1 hh
    rw [c_reqYes (r1 _ hX.1), r2 _ hY.1, Option.bind_some, Option.bind_some, if_neg (by decide)]
    obtain ⟨v, r, f, k1, k2, k3, k4, k5, k6, k7⟩ := sv2 (y := ((0, y.1.2), y.2)) hW hX hY
    obtain ⟨w, j1, j2⟩ := c_del (u := (x.1.1, x.1.2.1, x.1.2.2.1, x.1.2.2.2.1, x.1.2.2.2.2.1, nI (svN n))) hW.1 hW.2.1 hX.1 hk
    obtain ⟨f2, g1, g2, g3⟩ := m_del (u := ((0, nI (svN n), y.1.2.2), f, y.2.2)) hW.1 hW.2.1 k3 hk
    have hE := del_eff hW.1 hW.2.1 hk
    refine Or.inr ⟨nI (rl A (pp A p s) (ps A p s)), ((w, x.1.2.1, x.1.2.2.1, x.1.2.2.2.1, x.1.2.2.2.2.1, nI (svN n)), v, r), ((0, nI (svN n), y.1.2.2), f2, y.2.2), ?_, ?_, ?_, ⟨del A p s, svK K n A, svN n, L, b, ⟨hE.1, hE.2, hW.2.2.1, k6, k7⟩, ⟨j2, hX.2.1, hX.2.2.1, rfl, k4⟩, ⟨g2, ?_, ?_, rfl, shf k5 g3⟩⟩⟩
    · show ((fX4_saveState x).bind _) = _
      have a1 := c_present (u := (x.1.1, x.1.2.1, x.1.2.2.1, x.1.2.2.2.1, x.1.2.2.2.2.1, nI (svN n))) hW.1 hW.2.1 hX.1 hp (show s < 100 by omega)
      have a2 := c_lengthAt (u := (x.1.1, x.1.2.1, x.1.2.2.1, x.1.2.2.2.1, x.1.2.2.2.2.1, nI (svN n))) hW.1 hW.2.1 hX.1 hP
      rw [k1, Option.bind_some]
      dsimp only
      rw [a1, Option.bind_some, a2, Option.bind_some, j1, Option.bind_some]
    · unfold fX5_delete_j14
      rw [holds0, Option.bind_some, if_neg (show ¬ (1 : Int32) = 0 by decide), k2, Option.bind_some, g1, Option.bind_some]
    · rfl
    · exact hY.2.1
    · exact hY.2.2.1
theorem p_bring {x : THS} {y : TM} (h : G x y) : ∃ v x' y', fX4_bringHome x = some (v, x') ∧ fX5_bringHome y = some (v, y') ∧ G x' y' := by
  obtain ⟨A, K, n, L, b, hW, hX, hY⟩ := id h
  unfold fX4_bringHome fX5_bringHome
  obtain ⟨v, r, f, k1, k2, k3, k4, k5, k6, k7⟩ := sv2 (y := ((0, y.1.2), y.2)) hW hX hY
  obtain ⟨w, j1, j2, j3, j4⟩ := c_bring (u := (x.1.1, x.1.2.1, x.1.2.2.1, x.1.2.2.2.1, x.1.2.2.2.2.1, nI (svN n))) hW.1 hW.2.1 hX.1
  obtain ⟨z, g1, g2, g3⟩ := m_bring (u := ((0, nI (svN n), y.1.2.2), f, y.2.2)) hW.1 hW.2.1 k3
  obtain ⟨e1, e2, -⟩ := bal_ok hW.1 hW.2.1 (100 * A.1)
  obtain ⟨q1, q2, q3, q4, q5, q6⟩ := g3
  refine ⟨nI (bal A (100 * A.1)).2, (w, v, r), z, ?_, ?_, ⟨(bal A (100 * A.1)).1, svK K n A, svN n, L, b, ⟨e1, e2, hW.2.2.1, k6, k7⟩, ⟨j2, ?_, ?_, ?_, k4⟩, ⟨g2, ?_, ?_, q2, shf k5 q6⟩⟩⟩
  · rw [k1, Option.bind_some, j1, Option.bind_some]
  · rw [k2, Option.bind_some, g1, Option.bind_some]
  · show w.2.1.1 = _
    rw [j3]; exact hX.2.1
  · intro i hi
    show w.2.1.2 i = _
    rw [j3]; exact hX.2.2.1 i hi
  · show w.2.2.2.2.2 = _
    rw [j4]
  · rw [q3]; exact hY.2.1
  · intro i hi
    rw [q5]; exact hY.2.2.1 i hi
theorem p_compact {x : THS} {y : TM} (h : G x y) (a : Int32) : PS (fX4_compact x a) (fX5_compact y a) [(3, 1)] := by
  obtain ⟨A, K, n, L, b, hW, hX, hY⟩ := id h
  unfold fX4_compact fX5_compact
  rcases pagex hW.1.1 a with ⟨r1, r2⟩ | ⟨p, hp, rfl, r1, r2⟩
  · rw [r1 _ hX.1, r2 _ hY.1]
    exact Or.inl ⟨3, 1, x, 0, ((1, y.1.2), y.2), by simp, rfl, rfl, rfl, G_k h 1⟩
  · rw [r1 _ hX.1, r2 _ hY.1, Option.bind_some, Option.bind_some, if_neg (by decide)]
    obtain ⟨v, r, f, k1, k2, k3, k4, k5, k6, k7⟩ := sv2 (y := ((0, y.1.2), y.2)) hW hX hY
    obtain ⟨w, j1, j2⟩ := c_cpt (u := x.1.1) hW.1 hX.1 hp
    obtain ⟨f2, m2, g1, g2, g3⟩ := m_cpt (u := ((0, nI (svN n), y.1.2.2), f, y.2.2)) hW.1 k3 hp
    have hE := cpt_eff hW.1 hW.2.1 hp
    refine Or.inr ⟨nI (mvc (A.2.1 p) (A.2.1 p).1), ((w, x.1.2.1, x.1.2.2.1, x.1.2.2.2.1, x.1.2.2.2.2.1, nI (svN n)), v, r), ((0, nI (svN n), y.1.2.2), f2, y.2.2.1, y.2.2.2.1, m2), ?_, ?_, ?_, ⟨cpt A p, svK K n A, svN n, L, b, ⟨hE.1, hE.2, hW.2.2.1, k6, k7⟩, ⟨j2, hX.2.1, hX.2.2.1, rfl, k4⟩, ⟨g2, hY.2.1, hY.2.2.1, rfl, shf k5 g3⟩⟩⟩
    · show ((fX4_saveState x).bind _) = _
      rw [k1, Option.bind_some, j1, Option.bind_some]
    · unfold fX5_compact_j14
      rw [holds0, Option.bind_some, if_neg (show ¬ (1 : Int32) = 0 by decide), k2, Option.bind_some, g1, Option.bind_some]
    · rfl
theorem c_undo {x : THS} (hn : n ≤ 5) (hS : x.1.2.2.2.2.2 = nI (n + 1)) : fX4_undo x = some (.inr (nI n, (((((x.2.1 n).1, va_cpy (x.2.1 n).2 x.1.1.1.2 0 0 1024), x.1.1.2), x.1.2.1, x.1.2.2.1, x.1.2.2.2.1, x.1.2.2.2.2.1, nI n), va_up x.2.1 n (x.2.1 n), x.2.2))) := by
  obtain ⟨⟨u1, u2, u3, u4, u5, u6⟩, u7, u8⟩ := x
  change u6 = nI (n + 1) at hS
  subst hS
  unfold fX4_undo
  simp only [copyF]
  have hc : n = 0 ∨ n = 1 ∨ n = 2 ∨ n = 3 ∨ n = 4 ∨ n = 5 := by omega
  rcases hc with rfl | rfl | rfl | rfl | rfl | rfl
  · rw [if_neg (by decide), if_pos (by decide), if_pos (by decide)]; rfl
  · rw [if_neg (by decide), if_pos (by decide), if_neg (by decide), if_pos (by decide)]; rfl
  · rw [if_neg (by decide), if_pos (by decide), if_neg (by decide), if_neg (by decide), if_pos (by decide)]; rfl
  · rw [if_neg (by decide), if_pos (by decide), if_neg (by decide), if_neg (by decide), if_neg (by decide), if_pos (by decide)]; rfl
  · rw [if_neg (by decide), if_pos (by decide), if_neg (by decide), if_neg (by decide), if_neg (by decide), if_neg (by decide), if_pos (by decide)]; rfl
  · rw [if_neg (by decide), if_pos (by decide), if_neg (by decide), if_neg (by decide), if_neg (by decide), if_neg (by decide), if_neg (by decide), if_pos (by decide)]; rfl
theorem p_undo {x : THS} {y : TM} (h : G x y) : PS (fX4_undo x) (fX5_undo y) [(2, 1)] := by
  obtain ⟨A, K, n, L, b, hW, hX, hY⟩ := id h
  have hn := hW.2.2.2.1
  by_cases c : n = 0
  · subst c
    refine Or.inl ⟨2, 1, x, 0, ((1, y.1.2), y.2), by simp, ?_, ?_, rfl, G_k h 1⟩
    · unfold fX4_undo
      rw [if_pos (by rw [hX.2.2.2.1]; decide)]; rfl
    · unfold fX5_undo
      rw [if_pos (by rw [hY.2.2.2.1]; decide)]; rfl
  · obtain ⟨k, rfl⟩ : ∃ k, n = k + 1 := ⟨n - 1, by omega⟩
    have hk := hW.2.2.2.2 k (by omega)
    refine Or.inr ⟨nI k, _, ((0, nI k, y.1.2.2), cpy y.2.1 0 1532 (fun i => y.2.1 (1532 * (k + 1) + i)), y.2.2), c_undo (by omega) hX.2.2.2.1, ?_, rfl, ⟨K k, K, k, L, b, ⟨hk.1, hk.2, hW.2.2.1, by omega, fun i hi => hW.2.2.2.2 i (by omega)⟩, ⟨?_, hX.2.1, hX.2.2.1, rfl, ?_⟩, ⟨?_, hY.2.1, hY.2.2.1, rfl, ?_⟩⟩⟩
    · unfold fX5_undo
      rw [if_neg (by rw [hY.2.2.2.1]; exact nI_nle (by omega) (by omega))]
      unfold fX5_undo_j13
      rw [holds0, Option.bind_some, if_neg (show ¬ (1 : Int32) = 0 by decide)]
      show ((fX5_copies ((0, y.1.2), y.2) y.1.2.1 (0 : Int32)).bind _) = _
      rw [hY.2.2.2.1, show (0 : Int32) = nI 0 from rfl, m_copies (by omega) (by omega) (by omega), Option.bind_some]
      show some (y.1.2.1 - (1 : Int32), (nI 0, y.1.2.1 - (1 : Int32), y.1.2.2), cpy y.2.1 (1532 * 0) 1532 (fun i => y.2.1 (1532 * (k + 1) + i)), y.2.2) = _
      rw [hY.2.2.2.1, nI_pred]
    · exact CA_copy hk.1 (hX.2.2.2.2 k (by omega))
    · intro i hi
      show CA (va_up x.2.1 k (x.2.1 k) i) _
      rw [va_upN (by omega)]
      exact hX.2.2.2.2 i (by omega)
    · refine RA_cong (hY.2.2.2.2 k (by omega)) (fun j hj => ?_)
      show cpy y.2.1 0 1532 (fun i => y.2.1 (1532 * (k + 1) + i)) j = _
      rw [cpy_in (by omega), Nat.sub_zero]
    · refine shf (f := y.2.1) (fun i hi => hY.2.2.2.2 i (by omega)) (fun j hj => ?_)
      show cpy y.2.1 0 1532 (fun i => y.2.1 (1532 * (k + 1) + i)) j = _
      rw [cpy_out (by omega)]
end MU
