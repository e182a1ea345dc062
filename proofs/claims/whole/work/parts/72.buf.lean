def bx (b : Nat → Int32) (L : Nat) (v : Int32) : Nat → Int32 := fun i => if i < L then b i else v
section BU
variable {A : AS} {K : Nat → AS} {n L : Nat} {b : Nat → Int32}
theorem bx_in {v : Int32} {i : Nat} (h : i < L) : bx b L v i = b i := if_pos h
theorem bx_out {v : Int32} {i : Nat} (h : L ≤ i) : bx b L v i = v := if_neg (by omega)
theorem c_fillOk {u : TH} {m : Nat} {v : Int32} (h1 : 1 ≤ m) (h60 : m ≤ 60) (hv0 : ¬ v < 0) (hv : v ≤ 255) (hL : u.2.1.1 = nI L) (hb : ∀ i, i < L → u.2.1.2 i = b i) (hfit : L + m ≤ 60) : ∃ r : Ar, fX4_appendSeveral u (nI m) v = some (.inr (nI (L + m), u.1, (nI (L + m), r), u.2.2)) ∧ ∀ i, i < L + m → r i = bx b L v i := by
  unfold fX4_appendSeveral
  have hloop : ∃ d, itr (fun a : TH × Int32 × Int32 × Int32 => fX4_appendSeveral_s68 a.1 a.2.1 a.2.2.1 a.2.2.2) FU (u, nI m, v, (0 : Int32)) = some d ∧ ∃ r : Ar, d = (u.1, (nI (L + m), r), u.2.2) ∧ ∀ i, i < L + m → r i = bx b L v i := by
    refine itrI (fun j x => ∃ r : Ar, x = ((u.1, (nI (L + j), r), u.2.2), nI m, v, nI j) ∧ ∀ i, i < L + j → r i = bx b L v i) _ m ⟨u.2.1.2, ?_, ?_⟩ ?_ ?_ (by omega)
    · rw [Nat.add_zero, ← hL]; rfl
    · intro i hi
      rw [bx_in (by omega)]; exact hb i (by omega)
    · intro j x hj hx
      obtain ⟨r, rfl, e⟩ := hx
      obtain ⟨r2, k1, k2⟩ := c_add (b := (nI (L + j), r)) (n := 60) (m := L + j) (w := bx b L v) (x := v) rfl (by omega) (by omega) e (bx_out (by omega))
      refine ⟨_, ?_, r2, rfl, k2⟩
      show fX4_appendSeveral_s68 (u.1, (nI (L + j), r), u.2.2) _ _ _ = _
      unfold fX4_appendSeveral_s68
      rw [if_neg (by rw [e_le (by omega) (by omega)]; omega), k1, Option.bind_some]
      simp only [lit, nI_add, Nat.add_assoc]
    · intro x hx
      obtain ⟨r, rfl, e⟩ := hx
      refine ⟨_, ?_, r, rfl, e⟩
      show fX4_appendSeveral_s68 _ _ _ _ = _
      unfold fX4_appendSeveral_s68
      simp (disch := omega) only [e_le, Nat.le_refl, if_true]
  obtain ⟨d, e1, r, rfl, e2⟩ := hloop
  rw [if_neg (by rw [show (1 : Int32) = nI 1 from rfl, e_lt (by omega) (by omega)]; omega), if_pos (show nI m ≤ (60 : Int32) from nI_le (b := 60) h60 (by omega)), if_neg hv0, if_pos hv, hL, nI_add, if_pos (show nI (L + m) ≤ (60 : Int32) from nI_le (b := 60) hfit (by omega)), e1, Option.bind_some]
  exact ⟨r, rfl, e2⟩
theorem m_fillOk {y : TM} {m : Nat} {v : Int32} (h60 : m ≤ 60) (hL : y.1.2.2.1 = nI L) (hb : ∀ i, i < L → y.2.2.1 i = b i) (hfit : L + m ≤ 60) : ∃ r : Ar, fX5_fill_j42 y (nI m) v 0 = some (nI (L + m), (0, y.1.2.1, nI (L + m), y.1.2.2.2), y.2.1, r, y.2.2.2) ∧ ∀ i, i < L + m → r i = bx b L v i := by
  unfold fX5_fill_j42
  rw [holds0, Option.bind_some, if_neg (show ¬ (1 : Int32) = 0 by decide)]
  have hloop : ∃ d, itr (fun a : TM × Int32 × Int32 × Int32 => fX5_fill_s52 a.1 a.2.1 a.2.2.1 a.2.2.2) FU (((0, y.1.2), y.2), nI m, v, (0 : Int32)) = some d ∧ ∃ r : Ar, d = ((0, y.1.2.1, nI (L + m), y.1.2.2.2), y.2.1, r, y.2.2.2) ∧ ∀ i, i < L + m → r i = bx b L v i := by
    refine itrI (fun j x => ∃ r : Ar, x = (((0, y.1.2.1, nI (L + j), y.1.2.2.2), y.2.1, r, y.2.2.2), nI m, v, nI j) ∧ ∀ i, i < L + j → r i = bx b L v i) _ m ⟨y.2.2.1, ?_, ?_⟩ ?_ ?_ (by omega)
    · rw [Nat.add_zero, ← hL]; rfl
    · intro i hi
      rw [bx_in (by omega)]; exact hb i (by omega)
    · intro j x hj hx
      obtain ⟨r, rfl, e⟩ := hx
      refine ⟨_, ?_, upd r (L + j) v, rfl, ?_⟩
      · show fX5_fill_s52 ((0, y.1.2.1, nI (L + j), y.1.2.2.2), y.2.1, r, y.2.2.2) _ _ _ = _
        unfold fX5_fill_s52
        rw [if_neg (by rw [e_le (by omega) (by omega)]; omega), wrN (by omega) (by omega), Option.bind_some]
        simp only [lit, nI_add, Nat.add_assoc]
      · intro i hi
        by_cases c : i = L + j
        · rw [c, updS, bx_out (by omega)]
        · rw [updN c]; exact e i (by omega)
    · intro x hx
      obtain ⟨r, rfl, e⟩ := hx
      refine ⟨_, ?_, r, rfl, e⟩
      show fX5_fill_s52 _ _ _ _ = _
      unfold fX5_fill_s52
      simp (disch := omega) only [e_le, Nat.le_refl, if_true]
  obtain ⟨d, e1, r, rfl, e2⟩ := hloop
  rw [e1]
  exact ⟨r, rfl, e2⟩
theorem G_k {x : THS} {y : TM} (h : G x y) (k : Int32) : G x ((k, y.1.2), y.2) := h
theorem G_buf {x : THS} {y : TM} {A : AS} {K : Nat → AS} {n L L' : Nat} {b b' : Nat → Int32} {k : Int32} {r r' : Ar} (hW : WI A K n L) (hX : CX x A K n L b) (hY : MY y A K n L b) (h60 : L' ≤ 60) (h1 : ∀ i, i < L' → r i = b' i) (h2 : ∀ i, i < L' → r' i = b' i) : G ((x.1.1, (nI L', r), x.1.2.2), x.2) ((k, y.1.2.1, nI L', y.1.2.2.2), y.2.1, r', y.2.2.2) :=
  ⟨A, K, n, L', b', ⟨hW.1, hW.2.1, h60, hW.2.2.2⟩, ⟨hX.1, rfl, h1, hX.2.2.2⟩, ⟨hY.1, rfl, h2, hY.2.2.2⟩⟩
theorem p_fill {x : THS} {y : TM} (h : G x y) (a v : Int32) : PT x.2 (fX4_fill x.1 a v) (fX5_fill y a v) [(1, 1), (2, 2)] := by
  obtain ⟨A, K, n, L, b, hW, hX, hY⟩ := id h
  have hL60 := hW.2.2.1
  have bad : fX4_appendSeveral x.1 a v = some (.inl (1, x.1)) → fX5_fill y a v = fX5_fill_j42 y a v 1 → PT x.2 (fX4_fill x.1 a v) (fX5_fill y a v) [(1, 1), (2, 2)] := by
    intro e1 e2
    refine Or.inl ⟨1, 1, x.1, 0, ((1, y.1.2), y.2), by simp, ?_, ?_, rfl, G_k h 1⟩
    · unfold fX4_fill
      rw [e1]; rfl
    · rw [e2]; rfl
  by_cases c1 : a < (1 : Int32) ∨ ¬ a ≤ (60 : Int32)
  · refine bad ?_ ?_
    · unfold fX4_appendSeveral
      by_cases d : a < (1 : Int32)
      · rw [if_pos d]; rfl
      · rw [if_neg d, if_neg (by rcases c1 with q | q; exact absurd q d; exact q)]; rfl
    · unfold fX5_fill
      rw [in_no c1]; rfl
  · have a1 : ¬ a < (1 : Int32) := fun w => c1 (Or.inl w)
    have a2 : a ≤ (60 : Int32) := Classical.byContradiction fun w => c1 (Or.inr w)
    have hin := in_yes a1 a2
    by_cases c2 : v < (0 : Int32) ∨ ¬ v ≤ (255 : Int32)
    · refine bad ?_ ?_
      · unfold fX4_appendSeveral
        rw [if_neg a1, if_pos a2]
        by_cases d : v < (0 : Int32)
        · rw [if_pos d]; rfl
        · rw [if_neg d, if_neg (by rcases c2 with q | q; exact absurd q d; exact q)]; rfl
      · unfold fX5_fill
        rw [hin, in_no c2]; rfl
    · have v1 : ¬ v < (0 : Int32) := fun w => c2 (Or.inl w)
      have v2 : v ≤ (255 : Int32) := Classical.byContradiction fun w => c2 (Or.inr w)
      obtain ⟨m, hm, rfl⟩ := i_pos (a := 1) (by decide) a1
      have m1 : 1 ≤ m := by
        refine Nat.le_of_not_lt fun w => a1 ?_
        exact nI_lt (b := 1) w (by omega)
      have m2 : m ≤ 60 := by
        rw [show (60 : Int32) = nI 60 from rfl, e_le (by omega) (by omega)] at a2
        exact a2
      by_cases c3 : L + m ≤ 60
      · obtain ⟨r, k1, k2⟩ := c_fillOk m1 m2 v1 v2 hX.2.1 hX.2.2.1 c3
        obtain ⟨r', j1, j2⟩ := m_fillOk (v := v) m2 hY.2.1 hY.2.2.1 c3
        refine Or.inr ⟨nI (L + m), _, _, ?_, ?_, ?_, G_buf (k := 0) hW hX hY c3 k2 j2⟩
        · unfold fX4_fill
          rw [k1]; rfl
        · unfold fX5_fill
          rw [hin, Option.bind_some, if_neg (by decide), in_yes v1 v2, Option.bind_some, if_neg (by decide), hY.2.1, nI_add, if_pos (show nI (L + m) ≤ (60 : Int32) from nI_le (b := 60) c3 (by omega))]
          exact j1
        · rfl
      · have nf : ¬ nI L + nI m ≤ (60 : Int32) := by
          rw [nI_add, show (60 : Int32) = nI 60 from rfl, e_le (by omega) (by omega)]
          exact c3
        refine Or.inl ⟨2, 2, x.1, 0, ((2, y.1.2), y.2), by simp, ?_, ?_, rfl, G_k h 2⟩
        · unfold fX4_fill fX4_appendSeveral
          rw [if_neg a1, if_pos a2, if_neg v1, if_pos v2, hX.2.1, if_neg nf]; rfl
        · unfold fX5_fill
          rw [hin, Option.bind_some, if_neg (by decide), in_yes v1 v2, Option.bind_some, if_neg (by decide), hY.2.1, if_neg nf]; rfl
theorem p_append {x : THS} {y : TM} (h : G x y) (v : Int32) : PT x.2 (fX4_append x.1 v) (fX5_append y v) [(1, 1), (2, 2)] := by
  obtain ⟨A, K, n, L, b, hW, hX, hY⟩ := id h
  have hL60 := hW.2.2.1
  have a1 : ¬ (1 : Int32) < (1 : Int32) := by decide
  have a2 : (1 : Int32) ≤ (60 : Int32) := by decide
  by_cases c2 : v < (0 : Int32) ∨ ¬ v ≤ (255 : Int32)
  · refine Or.inl ⟨1, 1, x.1, 0, ((1, y.1.2), y.2), by simp, ?_, ?_, rfl, G_k h 1⟩
    · unfold fX4_append fX4_appendSeveral
      rw [if_neg a1, if_pos a2]
      by_cases d : v < (0 : Int32)
      · rw [if_pos d]; rfl
      · rw [if_neg d, if_neg (by rcases c2 with q | q; exact absurd q d; exact q)]; rfl
    · unfold fX5_append
      rw [in_no c2]; rfl
  · have v1 : ¬ v < (0 : Int32) := fun w => c2 (Or.inl w)
    have v2 : v ≤ (255 : Int32) := Classical.byContradiction fun w => c2 (Or.inr w)
    by_cases c3 : L + 1 ≤ 60
    · obtain ⟨r, k1, k2⟩ := c_fillOk (m := 1) (by omega) (by omega) v1 v2 hX.2.1 hX.2.2.1 c3
      refine Or.inr ⟨nI (L + 1), _, ((0, y.1.2.1, nI (L + 1), y.1.2.2.2), y.2.1, upd y.2.2.1 L v, y.2.2.2), ?_, ?_, ?_, G_buf (k := 0) hW hX hY c3 k2 ?_⟩
      · unfold fX4_append
        rw [show (1 : Int32) = nI 1 from rfl, k1]; rfl
      · unfold fX5_append
        rw [in_yes v1 v2, Option.bind_some, if_neg (by decide), hY.2.1, if_neg (by rw [show (60 : Int32) = nI 60 from rfl, e_eq (by omega) (by omega)]; omega)]
        unfold fX5_append_j30
        rw [holds0, Option.bind_some, if_neg (show ¬ (1 : Int32) = 0 by decide)]
        show ((wr y.2.2.1 60 y.1.2.2.1 v).bind _) = _
        rw [hY.2.1, wrN (by omega) (by omega), Option.bind_some]
        show some (nI L + (1 : Int32), (0, y.1.2.1, nI L + (1 : Int32), y.1.2.2.2), y.2.1, upd y.2.2.1 L v, y.2.2.2) = _
        rw [show nI L + (1 : Int32) = nI (L + 1) from nI_1 L]
      · rfl
      · intro i hi
        by_cases c : i = L
        · rw [c, updS, bx_out (by omega)]
        · rw [updN c, bx_in (by omega)]; exact hY.2.2.1 i (by omega)
    · have nf : ¬ nI L + (1 : Int32) ≤ (60 : Int32) := by
        rw [show (1 : Int32) = nI 1 from rfl, nI_add, show (60 : Int32) = nI 60 from rfl, e_le (by omega) (by omega)]
        exact c3
      refine Or.inl ⟨2, 2, x.1, 0, ((2, y.1.2), y.2), by simp, ?_, ?_, rfl, G_k h 2⟩
      · unfold fX4_append fX4_appendSeveral
        rw [if_neg a1, if_pos a2, if_neg v1, if_pos v2, hX.2.1, if_neg nf]; rfl
      · unfold fX5_append
        rw [in_yes v1 v2, Option.bind_some, if_neg (by decide), hY.2.1, show L = 60 by omega, if_pos (show nI 60 = (60 : Int32) from rfl)]; rfl
theorem p_clear {x : THS} {y : TM} (h : G x y) : ∃ v u' y', fX4_clearBuffer x.1 = some (v, u') ∧ fX5_clearBuffer y = some (v, y') ∧ G (u', x.2) y' := by
  obtain ⟨A, K, n, L, b, hW, hX, hY⟩ := h
  refine ⟨nI L, (x.1.1, (nI 0, x.1.2.1.2), x.1.2.2), ((0, y.1.2.1, nI 0, y.1.2.2.2), y.2.1, y.2.2.1, y.2.2.2), ?_, ?_, G_buf (k := 0) (b' := b) hW hX hY (by omega) (fun i hi => absurd hi (Nat.not_lt_zero i)) (fun i hi => absurd hi (Nat.not_lt_zero i))⟩
  · unfold fX4_clearBuffer
    rw [c_empty, Option.bind_some, hX.2.1]
  · unfold fX5_clearBuffer
    rw [hY.2.1]; rfl
end BU
