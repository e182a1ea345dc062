def WJ (A : AS) : Prop := WA A ∧ RI A ∧ RJ A
def WX (x : THS) (A : AS) (K : Nat → AS) (n L : Nat) (v : Int32) : Prop := WJ A ∧ L ≤ 60 ∧ n ≤ 6 ∧ (∀ i, i < n → WJ (K i)) ∧ CA x.1.1.1 A ∧ x.1.2.1.1 = nI L ∧ (∀ i, i < L → x.1.2.1.2 i = v) ∧ x.1.2.2.2.2.2 = nI n ∧ ∀ i, i < n → CA (x.2.1 i) (K i)
theorem svN_le {n : Nat} (h : n ≤ 6) : svN n ≤ 6 := by
  unfold svN
  split <;> omega
theorem svK_J {A : AS} {K : Nat → AS} {n : Nat} (hA : WJ A) (hn : n ≤ 6) (hV : ∀ i, i < n → WJ (K i)) : ∀ i, i < svN n → WJ (svK K n A i) := by
  intro i hi
  unfold svK svN at *
  by_cases c : n = 6
  · rw [if_pos c] at hi ⊢
    by_cases d : i < 5
    · rw [if_pos d]; exact hV (i + 1) (by omega)
    · rw [if_neg d]; exact hA
  · rw [if_neg c] at hi ⊢
    by_cases d : i = n
    · rw [if_pos d]; exact hA
    · rw [if_neg d]; exact hV i (by omega)
section OP
variable {x : THS} {A : AS} {K : Nat → AS} {n L : Nat} {v : Int32}
theorem s_save (h : WX x A K n L v) : ∃ (w : Nat → TS) (r : (Nat → Nat) × (Nat → Nat)), fX4_saveState x = some ((x.1.1, x.1.2.1, x.1.2.2.1, x.1.2.2.2.1, x.1.2.2.2.2.1, nI (svN n)), w, r) ∧ ∀ i, i < svN n → CA (w i) (svK K n A i) := by
  obtain ⟨h1, h2, h3, h4, h5, h6, h7, h8, h9⟩ := h
  exact c_save h1.1 h5 h3 h8 h9
theorem s_fill (h : WX x A K n 0 v) {m : Nat} {a : Int32} (h1 : 1 ≤ m) (h60 : m ≤ 60) (hv0 : ¬ a < 0) (hv : a ≤ 255) : ∃ y : TH, fX4_fill x.1 (nI m) a = some (nI m, y) ∧ WX (y, x.2) A K n m a := by
  obtain ⟨q1, q2, q3, q4, q5, q6, q7, q8, q9⟩ := h
  have hloop : ∃ d, itr (fun a : TH × Int32 × Int32 × Int32 => fX4_appendSeveral_s68 a.1 a.2.1 a.2.2.1 a.2.2.2) FU (x.1, nI m, a, (0 : Int32)) = some d ∧ ∃ r : Ar, d = (x.1.1, (nI m, r), x.1.2.2) ∧ ∀ i, i < m → r i = a := by
    refine itrI (fun j z => ∃ r : Ar, z = ((x.1.1, (nI j, r), x.1.2.2), nI m, a, nI j) ∧ ∀ i, i < j → r i = a) _ m ⟨x.1.2.1.2, ?_, fun i hi => absurd hi (Nat.not_lt_zero i)⟩ ?_ ?_ (by omega)
    · have e0 : x.1 = (x.1.1, (nI 0, x.1.2.1.2), x.1.2.2) := by rw [← q6]
      exact congrArg (fun z => (z, nI m, a, (0 : Int32))) e0
    · intro j z hj hz
      obtain ⟨r, rfl, e⟩ := hz
      obtain ⟨r2, k1, k2⟩ := c_add (b := (nI j, r)) (n := 60) (m := j) (w := fun _ => a) (x := a) rfl (by omega) (by omega) e rfl
      refine ⟨_, ?_, r2, rfl, k2⟩
      show fX4_appendSeveral_s68 (x.1.1, (nI j, r), x.1.2.2) _ _ _ = _
      unfold fX4_appendSeveral_s68
      rw [if_neg (by rw [e_le (by omega) (by omega)]; omega), k1, Option.bind_some]
      simp only [lit, nI_add]
    · intro z hz
      obtain ⟨r, rfl, e⟩ := hz
      refine ⟨_, ?_, r, rfl, e⟩
      show fX4_appendSeveral_s68 _ _ _ _ = _
      unfold fX4_appendSeveral_s68
      simp (disch := omega) only [e_le, Nat.le_refl, if_true]
  obtain ⟨d, e1, r, rfl, e2⟩ := hloop
  refine ⟨(x.1.1, (nI m, r), x.1.2.2), ?_, q1, h60, q3, q4, q5, rfl, e2, q8, q9⟩
  unfold fX4_fill fX4_appendSeveral
  rw [if_neg (by rw [show (1 : Int32) = nI 1 from rfl, e_lt (by omega) (by omega)]; omega), if_pos (show nI m ≤ (60 : Int32) from nI_le (b := 60) h60 (by omega)), if_neg hv0, if_pos hv, q6, nI_add, Nat.zero_add, if_pos (show nI m ≤ (60 : Int32) from nI_le (b := 60) h60 (by omega)), e1, Option.bind_some, Option.bind_some]
theorem s_clear (h : WX x A K n L v) : ∃ y : TH, fX4_clearBuffer x.1 = some (nI L, y) ∧ WX (y, x.2) A K n 0 v := by
  obtain ⟨q1, q2, q3, q4, q5, q6, q7, q8, q9⟩ := h
  refine ⟨(x.1.1, (nI 0, x.1.2.1.2), x.1.2.2), ?_, q1, by omega, q3, q4, q5, rfl, fun i hi => absurd hi (Nat.not_lt_zero i), q8, q9⟩
  unfold fX4_clearBuffer
  rw [c_empty, Option.bind_some, q6]
theorem s_insert (h : WX x A K n L v) (c : fp A (hs L) M1 M1 < 8) : ∃ x', fX4_insert x = some (nI (100 * fp A (hs L) M1 M1 + fe (A.2.1 (fp A (hs L) M1 M1))), x') ∧ WX x' (ins A (fp A (hs L) M1 M1) L (fun _ => v)) (svK K n A) (svN n) 0 v := by
  obtain ⟨q1, q2, q3, q4, q5, q6, q7, q8, q9⟩ := id h
  have hz := hs_b q2
  have hr := fp_room q1.1 c (show hs L ≤ 124 by omega)
  have hle := fp_le A (hs L) M1 M1
  obtain ⟨w0, r, k1, k4⟩ := s_save h
  obtain ⟨ct, t1, t2⟩ := c_take (a := x.1.2.2.1) (b := x.1.2.1) (n := 60) (n2 := 60) (m := L) (x := 0) (y := L) q6 q2 (by omega) (by omega) (by omega) (by omega) (by omega)
  obtain ⟨w, j1, j2, j3, j4, j5⟩ := c_ins (u := (x.1.1, (nI 0, x.1.2.1.2), (nI (L - 0), ct), x.1.2.2.2.1, x.1.2.2.2.2.1, nI (svN n))) (p := fp A (hs L) M1 M1) (l := L) q1.1 q5 c hle q2 rfl hr
  have hcc : ∀ i, i < L → ct i = v := by
    intro i hi
    rw [t2 i (by omega), Nat.zero_add]
    exact q7 i hi
  have j2 : CA w.1.1 (ins A (fp A (hs L) M1 M1) L ct) := j2
  have hc2 : ins A (fp A (hs L) M1 M1) L ct = ins A (fp A (hs L) M1 M1) L (fun _ => v) := ins_cong hcc
  rw [hc2] at j2
  have hE := ins_eff (c := fun _ => v) q1.1 q1.2.1 c hle q2 hr
  have hV := ins_v (c := fun _ => v) q1.1 q1.2.1 q1.2.2 c hle q2 hr
  refine ⟨(w, w0, r), ?_, ⟨hE.1, hE.2, hV.1⟩, by omega, svN_le q3, svK_J q1 q3 q4, j2, ?_, fun i hi => absurd hi (Nat.not_lt_zero i), ?_, k4⟩
  · unfold fX4_insert
    simp only [m1e]
    rw [q6, c_hs q2, Option.bind_some, c_findPage q1.1 q5 (by omega), Option.bind_some, fpR_yes c, if_neg (nz (by omega)), k1, Option.bind_some]
    show ((fX0_takePart 60 60 (x.1.2.2.1, x.1.2.1) (nI 0) x.1.2.1.1).bind _) = _
    rw [q6, t1, Option.bind_some, c_empty, Option.bind_some, j1, Option.bind_some]
  · show w.2.1.1 = _
    rw [j3]
  · show w.2.2.2.2.2 = _
    rw [j5]
theorem s_update (h : WX x A K n L v) {p s : Nat} (hk : isr A p s) (c : wy A p s L ≠ M1) : ∃ x', fX4_update x (nI (100 * p + s)) = some (wy A p s L, x') ∧ WX x' (chg A p s L (fun _ => v)) (svK K n A) (svN n) 0 v := by
  obtain ⟨q1, q2, q3, q4, q5, q6, q7, q8, q9⟩ := id h
  obtain ⟨w0, r, k1, k4⟩ := s_save h
  obtain ⟨ct, t1, t2⟩ := c_take (a := x.1.2.2.1) (b := x.1.2.1) (n := 60) (n2 := 60) (m := L) (x := 0) (y := L) q6 q2 (by omega) (by omega) (by omega) (by omega) (by omega)
  obtain ⟨w, j1, j2, j3, j4, j5⟩ := c_chg (u := (x.1.1, (nI 0, x.1.2.1.2), (nI (L - 0), ct), x.1.2.2.2.1, x.1.2.2.2.2.1, nI (svN n))) (l := L) q1.1 q1.2.1 q5 hk q2 rfl c
  have hcc : ∀ i, i < L → ct i = v := by
    intro i hi
    rw [t2 i (by omega), Nat.zero_add]
    exact q7 i hi
  have j2 : CA w.1.1 (chg A p s L ct) := j2
  have hc2 : chg A p s L ct = chg A p s L (fun _ => v) := chg_cong hcc
  rw [hc2] at j2
  have hE := chg_eff (c := fun _ => v) q1.1 q1.2.1 hk q2 c
  have hV := chg_v (c := fun _ => v) q1.1 q1.2.1 q1.2.2 hk q2 c
  refine ⟨(w, w0, r), ?_, ⟨hE.1, hE.2, hV.1⟩, by omega, svN_le q3, svK_J q1 q3 q4, j2, ?_, fun i hi => absurd hi (Nat.not_lt_zero i), ?_, k4⟩
  · unfold fX4_update
    simp only [m1e]
    rw [c_req q1.1 q5 hk, Option.bind_some, q6, c_way q1.1 q1.2.1 q5 (isr_has hk) q2, Option.bind_some, if_neg c, k1, Option.bind_some]
    show ((fX0_takePart 60 60 (x.1.2.2.1, x.1.2.1) (nI 0) x.1.2.1.1).bind _) = _
    rw [q6, t1, Option.bind_some, c_empty, Option.bind_some, j1, Option.bind_some]
  · show w.2.1.1 = _
    rw [j3]
  · show w.2.2.2.2.2 = _
    rw [j5]
theorem s_delete (h : WX x A K n L v) {p s : Nat} (hk : isr A p s) : ∃ x', fX4_delete x (nI (100 * p + s)) = some (nI (rln A p s), x') ∧ WX x' (del A p s) (svK K n A) (svN n) L v := by
  obtain ⟨q1, q2, q3, q4, q5, q6, q7, q8, q9⟩ := id h
  have hh := isr_has hk
  have hb := has_b q1.1 hh
  have hP := pp_b q1.1 q1.2.1 hh
  obtain ⟨w0, r, k1, k4⟩ := s_save h
  obtain ⟨w, j1, j2⟩ := c_del (u := (x.1.1, x.1.2.1, x.1.2.2.1, x.1.2.2.2.1, x.1.2.2.2.2.1, nI (svN n))) q1.1 q1.2.1 q5 hk
  have hE := del_eff q1.1 q1.2.1 hk
  have hV := del_v q1.1 q1.2.1 q1.2.2 hk
  refine ⟨((w, x.1.2.1, x.1.2.2.1, x.1.2.2.2.1, x.1.2.2.2.2.1, nI (svN n)), w0, r), ?_, ⟨hE.1, hE.2, hV.1⟩, q2, svN_le q3, svK_J q1 q3 q4, j2, q6, q7, rfl, k4⟩
  have a1 := c_present (u := (x.1.1, x.1.2.1, x.1.2.2.1, x.1.2.2.2.1, x.1.2.2.2.2.1, nI (svN n))) q1.1 q1.2.1 q5 hb.1 (show s < 100 by omega)
  have a2 := c_lengthAt (u := (x.1.1, x.1.2.1, x.1.2.2.1, x.1.2.2.2.1, x.1.2.2.2.2.1, nI (svN n))) q1.1 q1.2.1 q5 hP
  unfold fX4_delete
  rw [c_req q1.1 q5 hk, Option.bind_some, k1, Option.bind_some]
  dsimp only
  rw [a1, Option.bind_some, a2, Option.bind_some, j1, Option.bind_some]
  rfl
theorem s_bring (h : WX x A K n L v) : ∃ x', fX4_bringHome x = some (nI (bal A (100 * A.1)).2, x') ∧ WX x' (bal A (100 * A.1)).1 (svK K n A) (svN n) L v := by
  obtain ⟨q1, q2, q3, q4, q5, q6, q7, q8, q9⟩ := id h
  obtain ⟨w0, r, k1, k4⟩ := s_save h
  obtain ⟨w, j1, j2, j3, j4⟩ := c_bring (u := (x.1.1, x.1.2.1, x.1.2.2.1, x.1.2.2.2.1, x.1.2.2.2.2.1, nI (svN n))) q1.1 q1.2.1 q5
  obtain ⟨e1, e2, -⟩ := bal_ok q1.1 q1.2.1 (100 * A.1)
  have hV := bal_v q1.1 q1.2.1 q1.2.2 (100 * A.1)
  refine ⟨(w, w0, r), ?_, ⟨e1, e2, hV.1⟩, q2, svN_le q3, svK_J q1 q3 q4, j2, ?_, ?_, ?_, k4⟩
  · unfold fX4_bringHome
    rw [k1, Option.bind_some, j1, Option.bind_some]
  · show w.2.1.1 = _
    rw [j3]; exact q6
  · intro i hi
    show w.2.1.2 i = _
    rw [j3]; exact q7 i hi
  · show w.2.2.2.2.2 = _
    rw [j4]
theorem s_compact (h : WX x A K n L v) {p : Nat} (hp : p < A.1) : ∃ x', fX4_compact x (nI p) = some (nI (mvc (A.2.1 p) (A.2.1 p).1), x') ∧ WX x' (cpt A p) (svK K n A) (svN n) L v := by
  obtain ⟨q1, q2, q3, q4, q5, q6, q7, q8, q9⟩ := id h
  obtain ⟨w0, r, k1, k4⟩ := s_save h
  obtain ⟨w, j1, j2⟩ := c_cpt (u := x.1.1) q1.1 q5 hp
  have hE := cpt_eff q1.1 q1.2.1 hp
  have hV := cpt_v q1.1 q1.2.1 q1.2.2 hp
  refine ⟨((w, x.1.2.1, x.1.2.2.1, x.1.2.2.2.1, x.1.2.2.2.2.1, nI (svN n)), w0, r), ?_, ⟨hE.1, hE.2, hV.1⟩, q2, svN_le q3, svK_J q1 q3 q4, j2, q6, q7, rfl, k4⟩
  unfold fX4_compact
  rw [c_reqP q1.1 q5 hp, Option.bind_some, k1, Option.bind_some, j1, Option.bind_some]
theorem c_undo {x : THS} (hn : n ≤ 5) (hS : x.1.2.2.2.2.2 = nI (n + 1)) : fX4_undo x = some (nI n, (((((x.2.1 n).1, va_cpy (x.2.1 n).2 x.1.1.1.2 0 0 1024), x.1.1.2), x.1.2.1, x.1.2.2.1, x.1.2.2.2.1, x.1.2.2.2.2.1, nI n), va_up x.2.1 n (x.2.1 n), x.2.2)) := by
  obtain ⟨⟨u1, u2, u3, u4, u5, u6⟩, u7, u8⟩ := x
  change u6 = nI (n + 1) at hS
  subst hS
  unfold fX4_undo
  simp only [copyF]
  have hc : n = 0 ∨ n = 1 ∨ n = 2 ∨ n = 3 ∨ n = 4 ∨ n = 5 := by omega
  rcases hc with rfl | rfl | rfl | rfl | rfl | rfl
  · rw [if_neg (by decide), if_pos (by decide), if_pos (by decide)]; rfl
  · rw [if_neg (by decide), if_pos (by decide), if_neg (by decide), if_pos (by decide)]; rfl
  · rw [if_neg (by decide), if_pos (by decide), if_neg (by decide), if_neg (by decide), if_pos (by decide)]; rfl
  · rw [if_neg (by decide), if_pos (by decide), if_neg (by decide), if_neg (by decide), if_neg (by decide), if_pos (by decide)]; rfl
  · rw [if_neg (by decide), if_pos (by decide), if_neg (by decide), if_neg (by decide), if_neg (by decide), if_neg (by decide), if_pos (by decide)]; rfl
  · rw [if_neg (by decide), if_pos (by decide), if_neg (by decide), if_neg (by decide), if_neg (by decide), if_neg (by decide), if_neg (by decide), if_pos (by decide)]; rfl
theorem s_undo (h : WX x A K (n + 1) L v) : ∃ x', fX4_undo x = some (nI n, x') ∧ WX x' (K n) K n L v := by
  obtain ⟨q1, q2, q3, q4, q5, q6, q7, q8, q9⟩ := id h
  refine ⟨_, c_undo (by omega) q8, q4 n (by omega), q2, by omega, fun i hi => q4 i (by omega), ?_, q6, q7, rfl, ?_⟩
  · exact CA_copy (q4 n (by omega)).1 (q9 n (by omega))
  · intro i hi
    show CA (va_up x.2.1 n (x.2.1 n) i) _
    rw [va_upN (by omega)]
    exact q9 i (by omega)
end OP
