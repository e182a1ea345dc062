theorem itr_inl {α β : Type} {step : α → Option (α ⊕ β)} {m : Nat} {s t : α} (h : step s = some (.inl t)) : itr step (m + 1) s = itr step m t := by
  show (step s).bind _ = _
  rw [h]; rfl
theorem itr_inr {α β : Type} {step : α → Option (α ⊕ β)} {m : Nat} {s : α} {d : β} (h : step s = some (.inr d)) : itr step (m + 1) s = some d := by
  show (step s).bind _ = _
  rw [h]; rfl
theorem itr_skip {α β : Type} {step : α → Option (α ⊕ β)} {m : Nat} : ∀ (N : Nat) (I : Nat → α), (∀ j, j < N → step (I j) = some (.inl (I (j + 1)))) → itr step (m + N) (I 0) = itr step m (I N)
  | 0, _, _ => rfl
  | N + 1, I, h => by
    rw [← Nat.add_assoc, itr_inl (h 0 (by omega))]
    exact itr_skip N (fun j => I (j + 1)) (fun j hj => h (j + 1) (by omega))
theorem pst_eta {w : TM} {a : Nat} (h : w.1.2.2.2.2.1 = nI a) : w = pst w w.1.2.2.2.1 a w.1.2.2.2.2.2.1 w.1.2.2.2.2.2.2.1 w.2.2.2.1 := by
  obtain ⟨⟨w1, w2, w3, w4, w5, w6, w7, w8⟩, s, wb, wy1, wm⟩ := w
  change w5 = nI a at h
  subst h
  rfl
abbrev cst : THS × Int32 × Int32 × Int32 × Int32 → Option ((THS × Int32 × Int32 × Int32 × Int32) ⊕ (THS × Int32)) := fun a => fX4_run_s47 a.1 a.2.1 a.2.2.1 a.2.2.2.1 a.2.2.2.2
abbrev mst : TM × Int32 → Option ((TM × Int32) ⊕ (TM × Int32)) := fun a => fX5_run_s32 a.1 a.2
section RU
variable {b : Nat → Int32} {L : Nat} {qf : TR}
theorem c_skip {x : THS} {n a i : Nat} (hB : CB x.1 b L) (hi : i < L) (h59 : b i ≠ 59) : cst (x, nI n, nI a, 1, nI i) = some (.inl (x, nI n, nI a, 1, nI (i + 1))) := by
  have h60 := hB.1
  show fX4_run_s47 x (nI n) (nI a) 1 (nI i) = _
  unfold fX4_run_s47 fX4_run_j114
  rw [hB.2.1, if_neg (by rw [e_lt (by omega) (by omega)]; omega), if_neg (by decide), if_neg (by rw [e_eq (by omega) (by omega)]; omega), c_at hB hi, Option.bind_some, if_neg h59]
  simp only [lit, nI_add]
theorem c_exec {x : THS} {n a i : Nat} {z : Int32} {v : TH} (hB : CB x.1 b L) (hi : i ≤ L) (h59 : i = L ∨ b i = 59) (hx : fX4_executeOrder x.1 (nI a) (nI i) = some (z, v)) (hz : z = 0 ∨ z = 1) : cst (x, nI n, nI a, 1, nI i) = some (.inl ((v, x.2), nI (n + if z = 0 then 0 else 1), nI (i + 1), z, nI (i + 1))) := by
  have h60 := hB.1
  have hj : fX4_run_j89 x (nI n) (nI a) (nI i) = some (.inl ((v, x.2), nI (n + if z = 0 then 0 else 1), nI (i + 1), z, nI (i + 1))) := by
    unfold fX4_run_j89 fX4_run_j107 fX4_run_j114
    rw [hx, Option.bind_some]
    rcases hz with rfl | rfl
    · rw [if_pos rfl, if_pos rfl]
      simp only [lit, nI_add]
    · rw [if_neg (show ¬ (1 : Int32) = 0 by decide), if_neg (show ¬ (1 : Int32) = 0 by decide)]
      simp only [lit, nI_add]
  show fX4_run_s47 x (nI n) (nI a) 1 (nI i) = _
  unfold fX4_run_s47
  rw [hB.2.1, if_neg (by rw [e_lt (by omega) (by omega)]; omega), if_neg (by decide)]
  by_cases c : i = L
  · rw [if_pos (by rw [c])]
    exact hj
  · rw [if_neg (by rw [e_eq (by omega) (by omega)]; exact c), c_at hB (by omega), Option.bind_some, if_pos (by rcases h59 with w | w; exact absurd w c; exact w)]
    exact hj
theorem run_loop (h60 : L ≤ 60) (hfull : rs b L = some qf) (hmf : may qf) : ∀ (D a n k1 k2 : Nat) (x : THS) (y : TM) (A : AS) (mn o id : Int32) (r : Ar), D = L - a → a ≤ L → rs b a = some S0 → WA A → RI A → CA x.1.1.1 A → CB x.1 b L → RA y.2.1 A → RB y b L → D + 2 ≤ k1 → D + 2 ≤ k2 → ∃ x' y' n' A', itr cst k1 (x, nI n, nI a, 1, nI a) = some (x', nI n') ∧ itr mst k2 (pst y mn a o id r, nI n) = some (y', nI n') ∧ WA A' ∧ RI A' ∧ CA x'.1.1.1 A' ∧ x'.1.2.1 = x.1.2.1 ∧ x'.1.2.2.2.2 = x.1.2.2.2.2 ∧ x'.2 = x.2 ∧ RA y'.2.1 A' ∧ y'.1.1 = y.1.1 ∧ y'.1.2.1 = y.1.2.1 ∧ y'.1.2.2.1 = y.1.2.2.1 ∧ y'.2.2.1 = y.2.2.1 ∧ ∀ j, 1532 ≤ j → y'.2.1 j = y.2.1 j := by
  intro D
  induction D using Nat.strongRecOn with
  | ind D ih =>
    intro a n k1 k2 x y A mn o id r hD ha hS hA hI hC hCB hR hRB hk1 hk2
    obtain ⟨z, mn', a', o', id', r', g1, g2, g3, q, g4, g5⟩ := m_order (mn := mn) (o := o) (id := id) (r := r) hRB ha hS
    rcases g5 with ⟨-, g6, g7⟩ | ⟨rfl, g6, g7, g8, g9, g10⟩
    · exfalso
      by_cases c : a' < L
      · have := rs_dead g4 (g6 c) hfull
        omega
      · have e : a' = L := by omega
        rw [e, hfull] at g4
        have g7 := g7 e
        rw [← Option.some.inj g4] at g7
        exact nmay g7 hmf
    · have hex := ex_order (u := x.1) (w := pst y mn' a' o' id' r') hA hI hC hCB hR g3 (show a < L by omega) g10
      have h59 : a' = L ∨ b a' = 59 := by
        by_cases c : a' = L
        · exact Or.inl c
        · refine Or.inr (Classical.byContradiction fun w => ?_)
          have := rs_dead g4 (g8 (by omega) w) hfull
          omega
      obtain ⟨m1, hm1⟩ : ∃ m1, k1 = m1 + 1 + (a' - a) := ⟨k1 - 1 - (a' - a), by omega⟩
      obtain ⟨m2, hm2⟩ : ∃ m2, k2 = m2 + 1 := ⟨k2 - 1, by omega⟩
      have hsk : itr cst k1 (x, nI n, nI a, 1, nI a) = itr cst (m1 + 1) (x, nI n, nI a, 1, nI a') := by
        rw [hm1]
        have := itr_skip (step := cst) (m := m1 + 1) (a' - a) (fun j => (x, nI n, nI a, (1 : Int32), nI (a + j))) (fun j hj => c_skip hCB (by omega) (g9 _ (by omega) (by omega)))
        rw [show a + (a' - a) = a' by omega] at this
        exact this
      rw [hsk]
      rcases hex with ⟨hcan, v, hv, e1, e2, e3, e4, e5⟩ | ⟨hcan, v, t, w', A', hv, ⟨e1, e2, e3, e4, e5⟩, hdo, ht, f1, f2, f3, f4, f5, f6, f7⟩
      · have hstep := c_exec (n := n) hCB g3 h59 hv (Or.inl rfl)
        rw [if_pos rfl, Nat.add_zero] at hstep
        obtain ⟨m3, hm3⟩ : ∃ m3, m1 = m3 + 1 := ⟨m1 - 1, by omega⟩
        refine ⟨(v, x.2), pst y mn' a' o' id' r', n, A, ?_, ?_, e1, e2, e3, e4, e5, rfl, hR, rfl, rfl, rfl, rfl, fun _ _ => rfl⟩
        · rw [itr_inl hstep, hm3]
          refine itr_inr ?_
          show fX4_run_s47 (v, x.2) (nI n) (nI (a' + 1)) 0 (nI (a' + 1)) = _
          unfold fX4_run_s47
          rw [if_pos (show (0 : Int32) = 0 from rfl), ite_self]
        · rw [hm2]
          refine itr_inr ?_
          show fX5_run_s32 (pst y mn a o id r) (nI n) = _
          unfold fX5_run_s32
          rw [g1, Option.bind_some, if_neg (show ¬ (1 : Int32) = 0 by decide), hcan, Option.bind_some, if_pos rfl]
      · have hstep := c_exec (n := n) hCB g3 h59 hv (Or.inr rfl)
        rw [if_neg (show ¬ (1 : Int32) = 0 by decide)] at hstep
        have hat : w'.1.2.2.2.2.1 = nI a' := by rw [f5]; rfl
        have heta := pst_eta hat
        have hRB' : RB w' b L := ⟨h60, by rw [f4]; exact hRB.2.1, fun i hi => by rw [f6]; exact hRB.2.2 i hi⟩
        have hCB' : CB (v, x.2).1 b L := ⟨h60, by show v.2.1.1 = _; rw [e4]; exact hCB.2.1, fun i hi => by show v.2.1.2 i = _; rw [e4]; exact hCB.2.2 i hi⟩
        have hms : ∀ (s : TM) (z1 : Int32), fX5_takes w' 59 = some (z1, s) → mst (pst y mn a o id r, nI n) = some (.inl (s, nI (n + 1))) := by
          intro s z1 hs2
          show fX5_run_s32 (pst y mn a o id r) (nI n) = _
          unfold fX5_run_s32 fX5_run_j59
          rw [g1, Option.bind_some, if_neg (show ¬ (1 : Int32) = 0 by decide), hcan, Option.bind_some, if_neg (show ¬ (1 : Int32) = 0 by decide), hdo, Option.bind_some, if_neg ht, hs2, Option.bind_some]
          simp only [lit, nI_add]
        rw [itr_inl hstep, hm2]
        by_cases c : a' = L
        · have htk : fX5_takes w' 59 = some (0, w') := by
            rw [heta]
            exact takesN hRB' g3 (by rw [sgo_out (by omega)]; decide)
          obtain ⟨mn3, o3, id3, r3, h3⟩ := m_orderL (y := w') (mn := w'.1.2.2.2.1) (o := w'.1.2.2.2.2.2.1) (id := w'.1.2.2.2.2.2.2.1) (r := w'.2.2.2.1) hRB'
          rw [← c, ← heta] at h3
          obtain ⟨m3, hm3⟩ : ∃ m3, m1 = m3 + 1 := ⟨m1 - 1, by omega⟩
          obtain ⟨m4, hm4⟩ : ∃ m4, m2 = m4 + 1 := ⟨m2 - 1, by omega⟩
          refine ⟨(v, x.2), pst w' mn3 a' o3 id3 r3, n + 1, A', ?_, ?_, e1, e2, e3, e4, e5, rfl, f1, f2, f3, f4, f6, f7⟩
          · rw [hm3]
            refine itr_inr ?_
            show fX4_run_s47 (v, x.2) (nI (n + 1)) (nI (a' + 1)) 1 (nI (a' + 1)) = _
            unfold fX4_run_s47
            rw [if_pos (show (v, x.2).1.2.1.1 < nI (a' + 1) from by rw [hCB'.2.1]; exact nI_lt (by omega) (by omega))]
          · rw [itr_inl (hms _ _ htk), hm4]
            refine itr_inr ?_
            show fX5_run_s32 w' (nI (n + 1)) = _
            unfold fX5_run_s32
            rw [h3, Option.bind_some, if_pos rfl]
        · have hb59 : b a' = 59 := by
            rcases h59 with w | w
            · exact absurd w c
            · exact w
          have htk : fX5_takes w' 59 = some (1, pst w' w'.1.2.2.2.1 (a' + 1) w'.1.2.2.2.2.2.1 w'.1.2.2.2.2.2.2.1 w'.2.2.2.1) := by
            have := takesY (y := w') (mn := w'.1.2.2.2.1) (o := w'.1.2.2.2.2.2.1) (id := w'.1.2.2.2.2.2.2.1) (r := w'.2.2.2.1) hRB' g3 (c := 59) (by rw [sgo_in (by omega)]; exact hb59)
            rw [← heta] at this
            exact this
          obtain ⟨x', y', n', A2, i1, i2, i3, i4, i5, i6, i7, i8, i9, i10, i11, i12, i13, i14⟩ := ih (L - (a' + 1)) (by omega) (a' + 1) (n + 1) m1 m2 (v, x.2) w' A' w'.1.2.2.2.1 w'.1.2.2.2.2.2.1 w'.1.2.2.2.2.2.2.1 w'.2.2.2.1 rfl (by omega) (by rw [rs_s g4, hb59]; exact acp_59 g7) e1 e2 e3 hCB' f1 hRB' (by omega) (by omega)
          refine ⟨x', y', n', A2, i1, ?_, i3, i4, i5, i6.trans e4, i7.trans e5, i8, i9, i10.trans f2, i11.trans f3, i12.trans f4, i13.trans f6, fun j hj => (i14 j hj).trans (f7 j hj)⟩
          rw [itr_inl (hms _ _ htk)]
          exact i2
theorem p_run {x : THS} {y : TM} (h : G x y) : PS (fX4_run x) (fX5_run y) [(1, 1)] := by
  obtain ⟨A, K, n, L, b, hW, hX, hY⟩ := h
  have h60 := hW.2.2.1
  obtain ⟨e, q, rd', h1, h2, h3, h4, h5⟩ := c_first (u := x.1) (b := b) (L := L) ⟨hW.2.2.1, hX.2.1, hX.2.2.1⟩
  obtain ⟨z, mn', a', o', id', r', p, g1, g2, g3, g4, g5⟩ := m_complete (y := y) (b := b) (L := L) ⟨hW.2.2.1, hY.2.1, hY.2.2.1⟩ rfl
  obtain ⟨rfl, rfl⟩ := rs_uniq h2 h3 h4 g2 g3 g4
  obtain ⟨x1, hx1⟩ : ∃ x1 : THS, x1 = ((x.1.1, x.1.2.1, x.1.2.2.1, x.1.2.2.2.1, rd', x.1.2.2.2.2.2), x.2) := ⟨_, rfl⟩
  have hX1 : CX x1 A K n L b := by rw [hx1]; exact hX
  have bad : fX4_run x = some (.inl (1, x1)) → z = 0 → PS (fX4_run x) (fX5_run y) [(1, 1)] := by
    intro e1 e2
    refine Or.inl ⟨1, 1, x1, 0, ((1, (pst y mn' e o' id' r').1.2), (pst y mn' e o' id' r').2), by simp, e1, ?_, rfl, ⟨A, K, n, L, b, hW, hX1, hY⟩⟩
    unfold fX5_run
    rw [g1, Option.bind_some, if_pos e2]
    rfl
  have hcl : fX4_run x = if nI e < nI L then some (.inl (1, x1)) else ((fX1_mayEnd rd').bind fun z11 => (if z11 = 0 then some (.inl (1, x1)) else ((fX4_saveState x1).bind fun z13 => ((itr cst FU (z13, (0 : Int32), (0 : Int32), (1 : Int32), (0 : Int32))).bind fun b14 => fX4_run_j120 b14.1 b14.2)))) := by
    unfold fX4_run
    rw [h1, Option.bind_some, hx1]
    show (if nI e < x.1.2.1.1 then _ else _) = _
    rw [hX.2.1]
    rfl
  by_cases c : e < L
  · refine bad ?_ ?_
    · rw [hcl, if_pos (nI_lt c (by omega))]
    · rcases g5 with ⟨-, w, -⟩ | ⟨w, -⟩
      · omega
      · exact w
  · have eL : e = L := by omega
    have hrd := h5 eL
    rw [if_neg (by rw [e_lt (by omega) (by omega)]; exact c), hrd] at hcl
    rcases may_01 q with hm | hm
    · have hz : z = 1 := by
        rcases g5 with ⟨w, -⟩ | ⟨-, w⟩
        · exact w
        · have := w eL
          rw [hm] at this
          exact absurd (Option.some.inj this) (by decide)
      obtain ⟨y1, hy1⟩ : ∃ y1 : TM, y1 = ((0, (pst y mn' e o' id' r').1.2), (pst y mn' e o' id' r').2) := ⟨_, rfl⟩
      have hY1 : MY y1 A K n L b := by rw [hy1]; exact hY
      obtain ⟨v, r, f, k1, k2, k3, k4, k5, k6, k7⟩ := sv2 hW hX1 hY1
      rw [hm, Option.bind_some, if_neg (by decide), k1, Option.bind_some] at hcl
      rw [eL] at h3
      obtain ⟨x', y', n', A', i1, i2, i3, i4, i5, i6, i7, i8, i9, i10, i11, i12, i13, i14⟩ := run_loop h60 h3 hm (L - 0) 0 0 FU FU ((x1.1.1, x1.1.2.1, x1.1.2.2.1, x1.1.2.2.2.1, x1.1.2.2.2.2.1, nI (svN n)), v, r) ((y1.1.1, nI (svN n), y1.1.2.2), f, y1.2.2) A y1.1.2.2.2.1 y1.1.2.2.2.2.2.1 y1.1.2.2.2.2.2.2.1 y1.2.2.2.1 rfl (by omega) rfl hW.1 hW.2.1 hX1.1 ⟨h60, hX1.2.1, hX1.2.2.1⟩ k3 ⟨h60, hY1.2.1, hY1.2.2.1⟩ (by unfold FU; omega) (by unfold FU; omega)
      refine Or.inr ⟨nI n', ((x'.1.1, (nI 0, x'.1.2.1.2), x'.1.2.2), x'.2), ((y'.1.1, y'.1.2.1, 0, y'.1.2.2.2), y'.2), ?_, ?_, ?_, ⟨A', svK K n A, svN n, 0, b, ⟨i3, i4, by omega, k6, k7⟩, ⟨i5, rfl, fun i hi => absurd hi (Nat.not_lt_zero i), ?_, ?_⟩, ⟨i9, rfl, fun i hi => absurd hi (Nat.not_lt_zero i), i11, shf k5 i14⟩⟩⟩
      · rw [hcl]
        show ((itr cst FU (((x1.1.1, x1.1.2.1, x1.1.2.2.1, x1.1.2.2.2.1, x1.1.2.2.2.2.1, nI (svN n)), v, r), nI 0, nI 0, 1, nI 0)).bind _) = _
        rw [i1]
        rfl
      · unfold fX5_run
        rw [g1, Option.bind_some, hz, if_neg (show ¬ (1 : Int32) = 0 by decide)]
        unfold fX5_run_j13
        rw [holds0, Option.bind_some, if_neg (show ¬ (1 : Int32) = 0 by decide)]
        show ((fX5_save ((0, (pst y mn' e o' id' r').1.2), (pst y mn' e o' id' r').2)).bind _) = _
        rw [← hy1, k2, Option.bind_some]
        show ((itr mst FU (pst ((y1.1.1, nI (svN n), y1.1.2.2), f, y1.2.2) y1.1.2.2.2.1 0 y1.1.2.2.2.2.2.1 y1.1.2.2.2.2.2.2.1 y1.2.2.2.1, nI 0)).bind _) = _
        rw [i2]
        rfl
      · show y'.1.1 = 0
        rw [i10, hy1]
      · show x'.1.2.2.2.2.2 = _
        rw [i7]
      · show ∀ i, i < svN n → CA (x'.2.1 i) _
        rw [i8]
        exact k4
    · refine bad ?_ ?_
      · rw [hcl, hm, Option.bind_some, if_pos rfl]
      · rcases g5 with ⟨-, -, w⟩ | ⟨w, -⟩
        · exact absurd w (nmay hm)
        · exact w
end RU
