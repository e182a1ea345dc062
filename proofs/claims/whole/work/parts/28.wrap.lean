theorem cc_L_7 {p : Program} {l : Launch} {e : Env} {R : Room} {s : State} {m : MethodId} {args : Array Value} {below : List Frame} {meth : Method} {c : Code} {H : Heap} {locs : List Loc} {cells slots : Nat} {cc : ByteArray} {pc nL : Nat} {ls : Array Slot} {rest : List Value} {G : va_G} {A : Nat → Prop} {B0 : Nat} (sv : Nat) (gx : Nat → Nat) {cI cS : ClassId} {v : TH} {p0 : Int32} {r : (Nat × (TH)) ⊕ (Int32 × TH)} (hst : l.stackTraces = false) (S : CallFix p m c cc nL s args bwL RL) (hK : va_K G vwCl (tysW cI cS) s) (hN : NW s) (hP : va_P G vwCl (wH cI sv gx v) H) (hD : va_D A (wH cI sv gx v)) (hS : va_S A s.heap H locs) (hAB : ∀ q, A q → B0 ≤ q) (hB : B0 ≤ s.heap.size) (hX : XT B0 s s.heap) (hf : fX4_append v p0 = some r) (hsz : ls.size = nL) (hsk : (rest.map fun v => v.category).sum ≤ 8) (hR : rmX4_append.frames + 1 ≤ R.frames ∧ 8 + (2 + 11) + rmX4_append.locals ≤ R.locals) (hdg : decode cc pc = .ok (.invokevirtual 7, 3)) (hcs : cells + 1 ≤ R.cells ∧ slots + 6 ≤ R.slots) : vx_Run p l e R s m args below meth c H locs cells slots 1 6 (F0 m pc ls (.int p0 :: .ref (gx 0) :: rest)) rest (va_Qi (fun r' u' => r = .inr (r', u')) (PoM G (tysW cI cS) (va_A (wH cI sv gx v) H.size) (wH cI sv gx)) (va_A (wH cI sv gx v) H.size) (#[.ref (gx 0), .int p0] : Array Value)) (XCw G (va_A (wH cI sv gx v) H.size) (wH cI sv gx) r) (va_A (wH cI sv gx v) H.size) :=
  vx_runV (As := [.int p0]) (rest := rest) S (kX4_append l hst G cI cS sv gx H.size B0 v p0 r hf) (cwV 1 S.2.2.2.2 (gdVL ql_3 ql_4 ql_5 (bwL_of q_76) (bwL_of q_163)) rfl rfl rfl (by decide +kernel) hR) (pvX (q := (RX4, TX4, 8)) hK hN hP hD hS hAB hB hX (ci := 4) (q0 := 0) rfl rfl) rfl rfl hsz rfl (lv_room hsk) hdg hcs
def fL_append (u : THS × OutR) (p0 : Int32) : Option (Int32 × (THS × OutR)) := (fX4_append u.1.1 p0).bind fun o => Sum.elim (fun q => (if q.1 = 1 then some ((1 : Int32), ((q.2, u.1.2), u.2)) else (if q.1 = 2 then some ((2 : Int32), ((q.2, u.1.2), u.2)) else none))) (fun z => some ((0 : Int32), ((z.2, u.1.2), vp_updL u.2 (0 : Int32).toNatClampNeg z.1.toInt64))) o
abbrev rmL_append : Room := { frames := 8, cells := 1, slots := 6, locals := 144 }
set_option maxRecDepth 100000 in
set_option maxHeartbeats 4000000 in
theorem kL_append (l : Launch) (hst : l.stackTraces = false) (G : va_G) (cI cS cL : ClassId) (sv : Nat) (gx : Nat → Nat) (og : Nat) (sz B0 : Nat) (u : THS × OutR) (p0 : Int32) (r : Int32 × (THS × OutR)) (hf : fL_append u p0 = some r) : Met l yL_append (.codeWith yL_append cL_append 4 (some .int) [(0, 9, 12, 13), (0, 9, 15, 15)] :: bwL) rmL_append (va_Pc [.ref (gx 0), .int p0, .ref og] (PreL G (tysL cI cS cL) (wO cI cS cL sv gx og u) sz B0)) (va_Qi (fun r' u' => (r', u') = r) (PoM G (tysL cI cS cL) (va_A (wO cI cS cL sv gx og u) sz) (wO cI cS cL sv gx og)) (va_A (wO cI cS cL sv gx og u) sz)) 1 6 (va_A (wO cI cS cL sv gx og u) sz) := by
  refine enterW (own := RL) (by decide) rfl (Nat.le_of_ble_eq_true rfl) ?_
  intro p e s m args below meth c A Q hAe hQ S hr hlocks htab hP hK hN hC hD hA hS hX hAB hB ls hl
  rw [hAe] at hQ
  have hx := S.1; have hb := S.2.1; have hml := S.2.2.1; have hown := S.2.2.2.1; have hq := S.2.2.2.2
  have hl : lv_has ls 4 [(0, .ref (gx 0)), (1, .int p0), (2, .ref og)] := hl
  have h := hf
  unfold fL_append at h
  refine lv_aload_n hx hb dL_append_0 rfl (lv_at hl 2 rfl) ?_
  refine lv_iconst (v := 0) hx hb dL_append_1 (by decide) ?_
  refine lv_aload_n hx hb dL_append_2 rfl (lv_at hl 0 rfl) ?_
  refine lv_iload_n hx hb dL_append_3 rfl (lv_at hl 1 rfl) ?_
  rcases elr h with ⟨q1, e_q1, h⟩ | ⟨z1, e_z1, h⟩
  · by_cases c0 : q1.1 = 1
    · have h := (if_pos c0).symm.trans h
      refine xcatchI (cc_L_7 sv gx hst S (hK.sub [0, 1] rfl) hN (hP.sub [0, 1, 2, 3, 4, 5, 6, 7, 8, 9, 10, 11, 12] rfl) (hD.sub [0, 1, 2, 3, 4, 5, 6, 7, 8, 9, 10, 11, 12] (by decide) rfl) hS hAB hB hX e_q1 hl.1 (Nat.le_of_ble_eq_true rfl) ⟨(Nat.le_of_ble_eq_true rfl), (Nat.le_of_ble_eq_true rfl)⟩ dL_append_4 ⟨(Nat.le_of_ble_eq_true rfl), (Nat.le_of_ble_eq_true rfl)⟩) hS hP hD hA [0, 1, 2, 3, 4, 5, 6, 7, 8, 9, 10, 11, 12] [13, 14, 15, 16, 17, 18, 19, 20, 21, 22, 23, 24, 25, 26] rfl rfl (by decide) (by decide) [14, 15, 16, 17, 18, 19, 20, 21, 22, 23, 24, 25, 26, 0, 1, 2, 3, 4, 5, 6, 7, 8, 9, 10, 11, 12, 13] (by decide) (wO cI cS cL sv gx og ((q1.2, u.1.2), u.2)) rfl (name := exN 1) (E := exN 1) (by rw [c0]) hown [] ⟨0, 9, 12, 13⟩ [⟨0, 9, 15, 15⟩] htab (fun z hz => nomatch hz) (by decide) (by decide) (hq _ ql_1) (va_Nw.use rfl (hX.2.2.2.1 1)) (fun q9 H locs hP hD hS => ?_)
      refine lv_astore_n (lv' := [(3, .ref q9), (0, .ref (gx 0)), (1, .int p0), (2, .ref og)]) hx hb dL_append_12 rfl hl (by decide) rfl (fun ls hl => ?_)
      refine lv_iconst (v := 1) hx hb dL_append_13 (by decide) ?_
      exact retMk hQ S hr hlocks hK hN hP hD hS h (Nat.le_of_ble_eq_true rfl) (Nat.le_of_ble_eq_true rfl) dL_append_14
    have h := (if_neg c0).symm.trans h
    by_cases c1 : q1.1 = 2
    · have h := (if_pos c1).symm.trans h
      refine xcatchI (cc_L_7 sv gx hst S (hK.sub [0, 1] rfl) hN (hP.sub [0, 1, 2, 3, 4, 5, 6, 7, 8, 9, 10, 11, 12] rfl) (hD.sub [0, 1, 2, 3, 4, 5, 6, 7, 8, 9, 10, 11, 12] (by decide) rfl) hS hAB hB hX e_q1 hl.1 (Nat.le_of_ble_eq_true rfl) ⟨(Nat.le_of_ble_eq_true rfl), (Nat.le_of_ble_eq_true rfl)⟩ dL_append_4 ⟨(Nat.le_of_ble_eq_true rfl), (Nat.le_of_ble_eq_true rfl)⟩) hS hP hD hA [0, 1, 2, 3, 4, 5, 6, 7, 8, 9, 10, 11, 12] [13, 14, 15, 16, 17, 18, 19, 20, 21, 22, 23, 24, 25, 26] rfl rfl (by decide) (by decide) [14, 15, 16, 17, 18, 19, 20, 21, 22, 23, 24, 25, 26, 0, 1, 2, 3, 4, 5, 6, 7, 8, 9, 10, 11, 12, 13] (by decide) (wO cI cS cL sv gx og ((q1.2, u.1.2), u.2)) rfl (name := exN 2) (E := exN 2) (by rw [c1]) hown [⟨0, 9, 12, 13⟩] ⟨0, 9, 15, 15⟩ [] htab (fun z hz => Or.inr (by cases List.mem_singleton.mp hz; exact ⟨by decide, exN 1, hq _ ql_1, hC.1⟩)) (by decide) (by decide) (hq _ ql_2) (va_Nw.use rfl (hX.2.2.2.1 2)) (fun q9 H locs hP hD hS => ?_)
      refine lv_astore_n (lv' := [(3, .ref q9), (0, .ref (gx 0)), (1, .int p0), (2, .ref og)]) hx hb dL_append_15 rfl hl (by decide) rfl (fun ls hl => ?_)
      refine lv_iconst (v := 2) hx hb dL_append_16 (by decide) ?_
      exact retMk hQ S hr hlocks hK hN hP hD hS h (Nat.le_of_ble_eq_true rfl) (Nat.le_of_ble_eq_true rfl) dL_append_17
    have h := (if_neg c1).symm.trans h
    cases h
  · refine xcontI (cc_L_7 sv gx hst S (hK.sub [0, 1] rfl) hN (hP.sub [0, 1, 2, 3, 4, 5, 6, 7, 8, 9, 10, 11, 12] rfl) (hD.sub [0, 1, 2, 3, 4, 5, 6, 7, 8, 9, 10, 11, 12] (by decide) rfl) hS hAB hB hX e_z1 hl.1 (Nat.le_of_ble_eq_true rfl) ⟨(Nat.le_of_ble_eq_true rfl), (Nat.le_of_ble_eq_true rfl)⟩ dL_append_4 ⟨(Nat.le_of_ble_eq_true rfl), (Nat.le_of_ble_eq_true rfl)⟩) hS hP hD hA [0, 1, 2, 3, 4, 5, 6, 7, 8, 9, 10, 11, 12] [13, 14, 15, 16, 17, 18, 19, 20, 21, 22, 23, 24, 25, 26] rfl rfl (by decide) (by decide) [14, 15, 16, 17, 18, 19, 20, 21, 22, 23, 24, 25, 26, 0, 1, 2, 3, 4, 5, 6, 7, 8, 9, 10, 11, 12, 13] (by decide) (wO cI cS cL sv gx og ((z1.2, u.1.2), u.2)) rfl (fun H locs hP hD hS => ?_)
    refine lv_i2l hx hb dL_append_7 rfl ?_
    refine va_last hx hb hK hP hD hS 26 2 rfl rfl (vp_in_of_not (i := 0) (n := 1) (by decide)) dL_append_8 (fun H locs hP hD hS => ?_)
    have hP : va_P G vwCl (wO cI cS cL sv gx og ((z1.2, u.1.2), vp_updL u.2 (0 : Int32).toNatClampNeg z1.1.toInt64)) H := hP
    have hD : va_D A (wO cI cS cL sv gx og ((z1.2, u.1.2), vp_updL u.2 (0 : Int32).toNatClampNeg z1.1.toInt64)) := hD
    refine lv_goto (tgt := 18) hx hb dL_append_9 (by decide) ?_
    refine lv_iconst (v := 0) hx hb dL_append_18 (by decide) ?_
    exact retMk hQ S hr hlocks hK hN hP hD hS h (Nat.le_of_ble_eq_true rfl) (Nat.le_of_ble_eq_true rfl) dL_append_19

theorem cc_L_17 {p : Program} {l : Launch} {e : Env} {R : Room} {s : State} {m : MethodId} {args : Array Value} {below : List Frame} {meth : Method} {c : Code} {H : Heap} {locs : List Loc} {cells slots : Nat} {cc : ByteArray} {pc nL : Nat} {ls : Array Slot} {rest : List Value} {G : va_G} {A : Nat → Prop} {B0 : Nat} (sv : Nat) (gx : Nat → Nat) {cI cS : ClassId} {v : TH} {p0 : Int32} {p1 : Int32} {r : (Nat × (TH)) ⊕ (Int32 × TH)} (hst : l.stackTraces = false) (S : CallFix p m c cc nL s args bwL RL) (hK : va_K G vwCl (tysW cI cS) s) (hN : NW s) (hP : va_P G vwCl (wH cI sv gx v) H) (hD : va_D A (wH cI sv gx v)) (hS : va_S A s.heap H locs) (hAB : ∀ q, A q → B0 ≤ q) (hB : B0 ≤ s.heap.size) (hX : XT B0 s s.heap) (hf : fX4_fill v p0 p1 = some r) (hsz : ls.size = nL) (hsk : (rest.map fun v => v.category).sum ≤ 8) (hR : rmX4_fill.frames + 1 ≤ R.frames ∧ 8 + (3 + 11) + rmX4_fill.locals ≤ R.locals) (hdg : decode cc pc = .ok (.invokevirtual 17, 3)) (hcs : cells + 1 ≤ R.cells ∧ slots + 6 ≤ R.slots) : vx_Run p l e R s m args below meth c H locs cells slots 1 6 (F0 m pc ls (.int p1 :: .int p0 :: .ref (gx 0) :: rest)) rest (va_Qi (fun r' u' => r = .inr (r', u')) (PoM G (tysW cI cS) (va_A (wH cI sv gx v) H.size) (wH cI sv gx)) (va_A (wH cI sv gx v) H.size) (#[.ref (gx 0), .int p0, .int p1] : Array Value)) (XCw G (va_A (wH cI sv gx v) H.size) (wH cI sv gx) r) (va_A (wH cI sv gx v) H.size) :=
  vx_runV (As := [.int p0, .int p1]) (rest := rest) S (kX4_fill l hst G cI cS sv gx H.size B0 v p0 p1 r hf) (cwV 2 S.2.2.2.2 (gdVL ql_7 ql_8 ql_9 (bwL_of q_76) (bwL_of q_167)) rfl rfl rfl (by decide +kernel) hR) (pvX (q := (RX4, TX4, 8)) hK hN hP hD hS hAB hB hX (ci := 4) (q0 := 0) rfl rfl) rfl rfl hsz rfl (lv_room hsk) hdg hcs
def fL_fill (u : THS × OutR) (p0 : Int32) (p1 : Int32) : Option (Int32 × (THS × OutR)) := (fX4_fill u.1.1 p0 p1).bind fun o => Sum.elim (fun q => (if q.1 = 1 then some ((1 : Int32), ((q.2, u.1.2), u.2)) else (if q.1 = 2 then some ((2 : Int32), ((q.2, u.1.2), u.2)) else none))) (fun z => some ((0 : Int32), ((z.2, u.1.2), vp_updL u.2 (0 : Int32).toNatClampNeg z.1.toInt64))) o
abbrev rmL_fill : Room := { frames := 8, cells := 1, slots := 6, locals := 145 }
set_option maxRecDepth 100000 in
set_option maxHeartbeats 4000000 in
theorem kL_fill (l : Launch) (hst : l.stackTraces = false) (G : va_G) (cI cS cL : ClassId) (sv : Nat) (gx : Nat → Nat) (og : Nat) (sz B0 : Nat) (u : THS × OutR) (p0 : Int32) (p1 : Int32) (r : Int32 × (THS × OutR)) (hf : fL_fill u p0 p1 = some r) : Met l yL_fill (.codeWith yL_fill cL_fill 5 (some .int) [(0, 10, 13, 13), (0, 10, 17, 15)] :: bwL) rmL_fill (va_Pc [.ref (gx 0), .int p0, .int p1, .ref og] (PreL G (tysL cI cS cL) (wO cI cS cL sv gx og u) sz B0)) (va_Qi (fun r' u' => (r', u') = r) (PoM G (tysL cI cS cL) (va_A (wO cI cS cL sv gx og u) sz) (wO cI cS cL sv gx og)) (va_A (wO cI cS cL sv gx og u) sz)) 1 6 (va_A (wO cI cS cL sv gx og u) sz) := by
  refine enterW (own := RL) (by decide) rfl (Nat.le_of_ble_eq_true rfl) ?_
  intro p e s m args below meth c A Q hAe hQ S hr hlocks htab hP hK hN hC hD hA hS hX hAB hB ls hl
  rw [hAe] at hQ
  have hx := S.1; have hb := S.2.1; have hml := S.2.2.1; have hown := S.2.2.2.1; have hq := S.2.2.2.2
  have hl : lv_has ls 5 [(0, .ref (gx 0)), (1, .int p0), (2, .int p1), (3, .ref og)] := hl
  have h := hf
  unfold fL_fill at h
  refine lv_aload_n hx hb dL_fill_0 rfl (lv_at hl 3 rfl) ?_
  refine lv_iconst (v := 0) hx hb dL_fill_1 (by decide) ?_
  refine lv_aload_n hx hb dL_fill_2 rfl (lv_at hl 0 rfl) ?_
  refine lv_iload_n hx hb dL_fill_3 rfl (lv_at hl 1 rfl) ?_
  refine lv_iload_n hx hb dL_fill_4 rfl (lv_at hl 2 rfl) ?_
  rcases elr h with ⟨q1, e_q1, h⟩ | ⟨z1, e_z1, h⟩
  · by_cases c0 : q1.1 = 1
    · have h := (if_pos c0).symm.trans h
      refine xcatchI (cc_L_17 sv gx hst S (hK.sub [0, 1] rfl) hN (hP.sub [0, 1, 2, 3, 4, 5, 6, 7, 8, 9, 10, 11, 12] rfl) (hD.sub [0, 1, 2, 3, 4, 5, 6, 7, 8, 9, 10, 11, 12] (by decide) rfl) hS hAB hB hX e_q1 hl.1 (Nat.le_of_ble_eq_true rfl) ⟨(Nat.le_of_ble_eq_true rfl), (Nat.le_of_ble_eq_true rfl)⟩ dL_fill_5 ⟨(Nat.le_of_ble_eq_true rfl), (Nat.le_of_ble_eq_true rfl)⟩) hS hP hD hA [0, 1, 2, 3, 4, 5, 6, 7, 8, 9, 10, 11, 12] [13, 14, 15, 16, 17, 18, 19, 20, 21, 22, 23, 24, 25, 26] rfl rfl (by decide) (by decide) [14, 15, 16, 17, 18, 19, 20, 21, 22, 23, 24, 25, 26, 0, 1, 2, 3, 4, 5, 6, 7, 8, 9, 10, 11, 12, 13] (by decide) (wO cI cS cL sv gx og ((q1.2, u.1.2), u.2)) rfl (name := exN 1) (E := exN 1) (by rw [c0]) hown [] ⟨0, 10, 13, 13⟩ [⟨0, 10, 17, 15⟩] htab (fun z hz => nomatch hz) (by decide) (by decide) (hq _ ql_1) (va_Nw.use rfl (hX.2.2.2.1 1)) (fun q9 H locs hP hD hS => ?_)
      refine lv_astore (lv' := [(4, .ref q9), (0, .ref (gx 0)), (1, .int p0), (2, .int p1), (3, .ref og)]) hx hb dL_fill_13 hl (by decide) rfl (fun ls hl => ?_)
      refine lv_iconst (v := 1) hx hb dL_fill_15 (by decide) ?_
      exact retMk hQ S hr hlocks hK hN hP hD hS h (Nat.le_of_ble_eq_true rfl) (Nat.le_of_ble_eq_true rfl) dL_fill_16
    have h := (if_neg c0).symm.trans h
    by_cases c1 : q1.1 = 2
    · have h := (if_pos c1).symm.trans h
      refine xcatchI (cc_L_17 sv gx hst S (hK.sub [0, 1] rfl) hN (hP.sub [0, 1, 2, 3, 4, 5, 6, 7, 8, 9, 10, 11, 12] rfl) (hD.sub [0, 1, 2, 3, 4, 5, 6, 7, 8, 9, 10, 11, 12] (by decide) rfl) hS hAB hB hX e_q1 hl.1 (Nat.le_of_ble_eq_true rfl) ⟨(Nat.le_of_ble_eq_true rfl), (Nat.le_of_ble_eq_true rfl)⟩ dL_fill_5 ⟨(Nat.le_of_ble_eq_true rfl), (Nat.le_of_ble_eq_true rfl)⟩) hS hP hD hA [0, 1, 2, 3, 4, 5, 6, 7, 8, 9, 10, 11, 12] [13, 14, 15, 16, 17, 18, 19, 20, 21, 22, 23, 24, 25, 26] rfl rfl (by decide) (by decide) [14, 15, 16, 17, 18, 19, 20, 21, 22, 23, 24, 25, 26, 0, 1, 2, 3, 4, 5, 6, 7, 8, 9, 10, 11, 12, 13] (by decide) (wO cI cS cL sv gx og ((q1.2, u.1.2), u.2)) rfl (name := exN 2) (E := exN 2) (by rw [c1]) hown [⟨0, 10, 13, 13⟩] ⟨0, 10, 17, 15⟩ [] htab (fun z hz => Or.inr (by cases List.mem_singleton.mp hz; exact ⟨by decide, exN 1, hq _ ql_1, hC.1⟩)) (by decide) (by decide) (hq _ ql_2) (va_Nw.use rfl (hX.2.2.2.1 2)) (fun q9 H locs hP hD hS => ?_)
      refine lv_astore (lv' := [(4, .ref q9), (0, .ref (gx 0)), (1, .int p0), (2, .int p1), (3, .ref og)]) hx hb dL_fill_17 hl (by decide) rfl (fun ls hl => ?_)
      refine lv_iconst (v := 2) hx hb dL_fill_19 (by decide) ?_
      exact retMk hQ S hr hlocks hK hN hP hD hS h (Nat.le_of_ble_eq_true rfl) (Nat.le_of_ble_eq_true rfl) dL_fill_20
    have h := (if_neg c1).symm.trans h
    cases h
  · refine xcontI (cc_L_17 sv gx hst S (hK.sub [0, 1] rfl) hN (hP.sub [0, 1, 2, 3, 4, 5, 6, 7, 8, 9, 10, 11, 12] rfl) (hD.sub [0, 1, 2, 3, 4, 5, 6, 7, 8, 9, 10, 11, 12] (by decide) rfl) hS hAB hB hX e_z1 hl.1 (Nat.le_of_ble_eq_true rfl) ⟨(Nat.le_of_ble_eq_true rfl), (Nat.le_of_ble_eq_true rfl)⟩ dL_fill_5 ⟨(Nat.le_of_ble_eq_true rfl), (Nat.le_of_ble_eq_true rfl)⟩) hS hP hD hA [0, 1, 2, 3, 4, 5, 6, 7, 8, 9, 10, 11, 12] [13, 14, 15, 16, 17, 18, 19, 20, 21, 22, 23, 24, 25, 26] rfl rfl (by decide) (by decide) [14, 15, 16, 17, 18, 19, 20, 21, 22, 23, 24, 25, 26, 0, 1, 2, 3, 4, 5, 6, 7, 8, 9, 10, 11, 12, 13] (by decide) (wO cI cS cL sv gx og ((z1.2, u.1.2), u.2)) rfl (fun H locs hP hD hS => ?_)
    refine lv_i2l hx hb dL_fill_8 rfl ?_
    refine va_last hx hb hK hP hD hS 26 2 rfl rfl (vp_in_of_not (i := 0) (n := 1) (by decide)) dL_fill_9 (fun H locs hP hD hS => ?_)
    have hP : va_P G vwCl (wO cI cS cL sv gx og ((z1.2, u.1.2), vp_updL u.2 (0 : Int32).toNatClampNeg z1.1.toInt64)) H := hP
    have hD : va_D A (wO cI cS cL sv gx og ((z1.2, u.1.2), vp_updL u.2 (0 : Int32).toNatClampNeg z1.1.toInt64)) := hD
    refine lv_goto (tgt := 21) hx hb dL_fill_10 (by decide) ?_
    refine lv_iconst (v := 0) hx hb dL_fill_21 (by decide) ?_
    exact retMk hQ S hr hlocks hK hN hP hD hS h (Nat.le_of_ble_eq_true rfl) (Nat.le_of_ble_eq_true rfl) dL_fill_22

theorem cc_L_21 {p : Program} {l : Launch} {e : Env} {R : Room} {s : State} {m : MethodId} {args : Array Value} {below : List Frame} {meth : Method} {c : Code} {H : Heap} {locs : List Loc} {cells slots : Nat} {cc : ByteArray} {pc nL : Nat} {ls : Array Slot} {rest : List Value} {G : va_G} {A : Nat → Prop} {B0 : Nat} (sv : Nat) (gx : Nat → Nat) {cI cS : ClassId} {v : THS}  {r : (Nat × (THS)) ⊕ (Int32 × THS)} (hst : l.stackTraces = false) (S : CallFix p m c cc nL s args bwL RL) (hK : va_K G vwCl (tysW cI cS) s) (hN : NW s) (hP : va_P G vwCl (wHS cI cS sv gx v) H) (hD : va_D A (wHS cI cS sv gx v)) (hS : va_S A s.heap H locs) (hAB : ∀ q, A q → B0 ≤ q) (hB : B0 ≤ s.heap.size) (hX : XT B0 s s.heap) (hf : fX4_insert v = some r) (hsz : ls.size = nL) (hsk : (rest.map fun v => v.category).sum ≤ 8) (hR : rmX4_insert.frames + 1 ≤ R.frames ∧ 8 + (2 + 11) + rmX4_insert.locals ≤ R.locals) (hdg : decode cc pc = .ok (.invokevirtual 21, 3)) (hcs : cells + 1 ≤ R.cells ∧ slots + 6 ≤ R.slots) : vx_Run p l e R s m args below meth c H locs cells slots 1 6 (F0 m pc ls (.ref (gx 0) :: rest)) rest (va_Qi (fun r' u' => r = .inr (r', u')) (PoM G (tysW cI cS) (va_A (wHS cI cS sv gx v) H.size) (wHS cI cS sv gx)) (va_A (wHS cI cS sv gx v) H.size) (#[.ref (gx 0)] : Array Value)) (XCw G (va_A (wHS cI cS sv gx v) H.size) (wHS cI cS sv gx) r) (va_A (wHS cI cS sv gx v) H.size) :=
  vx_runV (As := []) (rest := rest) S (kX4_insert l hst G cI cS sv gx H.size B0 v r hf) (cwV 0 S.2.2.2.2 (gdVL ql_10 ql_11 ql_12 (bwL_of q_76) (bwL_of q_205)) rfl rfl rfl (by decide +kernel) hR) (pvX (q := (RX4, TX4, 8)) hK hN hP hD hS hAB hB hX (ci := 4) (q0 := 0) rfl rfl) rfl rfl hsz rfl (lv_room hsk) hdg hcs
def fL_insert (u : THS × OutR) : Option (Int32 × (THS × OutR)) := (fX4_insert u.1).bind fun o => Sum.elim (fun q => (if q.1 = 2 then some ((1 : Int32), (q.2, u.2)) else none)) (fun z => some ((0 : Int32), (z.2, vp_updL u.2 (0 : Int32).toNatClampNeg z.1.toInt64))) o
abbrev rmL_insert : Room := { frames := 7, cells := 1, slots := 6, locals := 137 }
set_option maxRecDepth 100000 in
set_option maxHeartbeats 4000000 in
theorem kL_insert (l : Launch) (hst : l.stackTraces = false) (G : va_G) (cI cS cL : ClassId) (sv : Nat) (gx : Nat → Nat) (og : Nat) (sz B0 : Nat) (u : THS × OutR) (r : Int32 × (THS × OutR)) (hf : fL_insert u = some r) : Met l yL_insert (.codeWith yL_insert cL_insert 3 (some .int) [(0, 8, 11, 15)] :: bwL) rmL_insert (va_Pc [.ref (gx 0), .ref og] (PreL G (tysL cI cS cL) (wO cI cS cL sv gx og u) sz B0)) (va_Qi (fun r' u' => (r', u') = r) (PoM G (tysL cI cS cL) (va_A (wO cI cS cL sv gx og u) sz) (wO cI cS cL sv gx og)) (va_A (wO cI cS cL sv gx og u) sz)) 1 6 (va_A (wO cI cS cL sv gx og u) sz) := by
  refine enterW (own := RL) (by decide) rfl (Nat.le_of_ble_eq_true rfl) ?_
  intro p e s m args below meth c A Q hAe hQ S hr hlocks htab hP hK hN hC hD hA hS hX hAB hB ls hl
  rw [hAe] at hQ
  have hx := S.1; have hb := S.2.1; have hml := S.2.2.1; have hown := S.2.2.2.1; have hq := S.2.2.2.2
  have hl : lv_has ls 3 [(0, .ref (gx 0)), (1, .ref og)] := hl
  have h := hf
  unfold fL_insert at h
  refine lv_aload_n hx hb dL_insert_0 rfl (lv_at hl 1 rfl) ?_
  refine lv_iconst (v := 0) hx hb dL_insert_1 (by decide) ?_
  refine lv_aload_n hx hb dL_insert_2 rfl (lv_at hl 0 rfl) ?_
  rcases elr h with ⟨q1, e_q1, h⟩ | ⟨z1, e_z1, h⟩
  · by_cases c0 : q1.1 = 2
    · have h := (if_pos c0).symm.trans h
      refine xcatchI (cc_L_21 sv gx hst S (hK.sub [0, 1] rfl) hN (hP.sub [0, 1, 2, 3, 4, 5, 6, 7, 8, 9, 10, 11, 12, 13, 14, 15, 16, 17, 18, 19, 20, 21, 22, 23, 24, 25] rfl) (hD.sub [0, 1, 2, 3, 4, 5, 6, 7, 8, 9, 10, 11, 12, 13, 14, 15, 16, 17, 18, 19, 20, 21, 22, 23, 24, 25] (by decide) rfl) hS hAB hB hX e_q1 hl.1 (Nat.le_of_ble_eq_true rfl) ⟨(Nat.le_of_ble_eq_true rfl), (Nat.le_of_ble_eq_true rfl)⟩ dL_insert_3 ⟨(Nat.le_of_ble_eq_true rfl), (Nat.le_of_ble_eq_true rfl)⟩) hS hP hD hA [0, 1, 2, 3, 4, 5, 6, 7, 8, 9, 10, 11, 12, 13, 14, 15, 16, 17, 18, 19, 20, 21, 22, 23, 24, 25] [26] rfl rfl (by decide) (by decide) [1, 2, 3, 4, 5, 6, 7, 8, 9, 10, 11, 12, 13, 14, 15, 16, 17, 18, 19, 20, 21, 22, 23, 24, 25, 26, 0] (by decide) (wO cI cS cL sv gx og (q1.2, u.2)) rfl (name := exN 2) (E := exN 2) (by rw [c0]) hown [] ⟨0, 8, 11, 15⟩ [] htab (fun z hz => nomatch hz) (by decide) (by decide) (hq _ ql_2) (va_Nw.use rfl (hX.2.2.2.1 2)) (fun q9 H locs hP hD hS => ?_)
      refine lv_astore_n (lv' := [(2, .ref q9), (0, .ref (gx 0)), (1, .ref og)]) hx hb dL_insert_11 rfl hl (by decide) rfl (fun ls hl => ?_)
      refine lv_iconst (v := 1) hx hb dL_insert_12 (by decide) ?_
      exact retMk hQ S hr hlocks hK hN hP hD hS h (Nat.le_of_ble_eq_true rfl) (Nat.le_of_ble_eq_true rfl) dL_insert_13
    have h := (if_neg c0).symm.trans h
    cases h
  · refine xcontI (cc_L_21 sv gx hst S (hK.sub [0, 1] rfl) hN (hP.sub [0, 1, 2, 3, 4, 5, 6, 7, 8, 9, 10, 11, 12, 13, 14, 15, 16, 17, 18, 19, 20, 21, 22, 23, 24, 25] rfl) (hD.sub [0, 1, 2, 3, 4, 5, 6, 7, 8, 9, 10, 11, 12, 13, 14, 15, 16, 17, 18, 19, 20, 21, 22, 23, 24, 25] (by decide) rfl) hS hAB hB hX e_z1 hl.1 (Nat.le_of_ble_eq_true rfl) ⟨(Nat.le_of_ble_eq_true rfl), (Nat.le_of_ble_eq_true rfl)⟩ dL_insert_3 ⟨(Nat.le_of_ble_eq_true rfl), (Nat.le_of_ble_eq_true rfl)⟩) hS hP hD hA [0, 1, 2, 3, 4, 5, 6, 7, 8, 9, 10, 11, 12, 13, 14, 15, 16, 17, 18, 19, 20, 21, 22, 23, 24, 25] [26] rfl rfl (by decide) (by decide) [1, 2, 3, 4, 5, 6, 7, 8, 9, 10, 11, 12, 13, 14, 15, 16, 17, 18, 19, 20, 21, 22, 23, 24, 25, 26, 0] (by decide) (wO cI cS cL sv gx og (z1.2, u.2)) rfl (fun H locs hP hD hS => ?_)
    refine lv_i2l hx hb dL_insert_6 rfl ?_
    refine va_last hx hb hK hP hD hS 26 2 rfl rfl (vp_in_of_not (i := 0) (n := 1) (by decide)) dL_insert_7 (fun H locs hP hD hS => ?_)
    have hP : va_P G vwCl (wO cI cS cL sv gx og (z1.2, vp_updL u.2 (0 : Int32).toNatClampNeg z1.1.toInt64)) H := hP
    have hD : va_D A (wO cI cS cL sv gx og (z1.2, vp_updL u.2 (0 : Int32).toNatClampNeg z1.1.toInt64)) := hD
    refine lv_goto (tgt := 14) hx hb dL_insert_8 (by decide) ?_
    refine lv_iconst (v := 0) hx hb dL_insert_14 (by decide) ?_
    exact retMk hQ S hr hlocks hK hN hP hD hS h (Nat.le_of_ble_eq_true rfl) (Nat.le_of_ble_eq_true rfl) dL_insert_15

theorem cc_L_25 {p : Program} {l : Launch} {e : Env} {R : Room} {s : State} {m : MethodId} {args : Array Value} {below : List Frame} {meth : Method} {c : Code} {H : Heap} {locs : List Loc} {cells slots : Nat} {cc : ByteArray} {pc nL : Nat} {ls : Array Slot} {rest : List Value} {G : va_G} {A : Nat → Prop} {B0 : Nat} (sv : Nat) (gx : Nat → Nat) {cI cS : ClassId} {v : THS} {p0 : Int32} {r : (Nat × (THS)) ⊕ (Int32 × THS)} (hst : l.stackTraces = false) (S : CallFix p m c cc nL s args bwL RL) (hK : va_K G vwCl (tysW cI cS) s) (hN : NW s) (hP : va_P G vwCl (wHS cI cS sv gx v) H) (hD : va_D A (wHS cI cS sv gx v)) (hS : va_S A s.heap H locs) (hAB : ∀ q, A q → B0 ≤ q) (hB : B0 ≤ s.heap.size) (hX : XT B0 s s.heap) (hf : fX4_update v p0 = some r) (hsz : ls.size = nL) (hsk : (rest.map fun v => v.category).sum ≤ 8) (hR : rmX4_update.frames + 1 ≤ R.frames ∧ 8 + (3 + 11) + rmX4_update.locals ≤ R.locals) (hdg : decode cc pc = .ok (.invokevirtual 25, 3)) (hcs : cells + 2 ≤ R.cells ∧ slots + 12 ≤ R.slots) : vx_Run p l e R s m args below meth c H locs cells slots 2 12 (F0 m pc ls (.int p0 :: .ref (gx 0) :: rest)) rest (va_Qi (fun r' u' => r = .inr (r', u')) (PoM G (tysW cI cS) (va_A (wHS cI cS sv gx v) H.size) (wHS cI cS sv gx)) (va_A (wHS cI cS sv gx v) H.size) (#[.ref (gx 0), .int p0] : Array Value)) (XCw G (va_A (wHS cI cS sv gx v) H.size) (wHS cI cS sv gx) r) (va_A (wHS cI cS sv gx v) H.size) :=
  vx_runV (As := [.int p0]) (rest := rest) S (kX4_update l hst G cI cS sv gx H.size B0 v p0 r hf) (cwV 1 S.2.2.2.2 (gdVL ql_15 ql_16 ql_17 (bwL_of q_76) (bwL_of q_271)) rfl rfl rfl (by decide +kernel) hR) (pvX (q := (RX4, TX4, 8)) hK hN hP hD hS hAB hB hX (ci := 4) (q0 := 0) rfl rfl) rfl rfl hsz rfl (lv_room hsk) hdg hcs
def fL_update (u : THS × OutR) (p0 : Int32) : Option (Int32 × (THS × OutR)) := (fX4_update u.1 p0).bind fun o => Sum.elim (fun q => (if q.1 = 3 then some ((1 : Int32), (q.2, u.2)) else (if q.1 = 2 then some ((2 : Int32), (q.2, u.2)) else none))) (fun z => some ((0 : Int32), (z.2, vp_updL u.2 (0 : Int32).toNatClampNeg z.1.toInt64))) o
abbrev rmL_update : Room := { frames := 8, cells := 2, slots := 12, locals := 164 }
set_option maxRecDepth 100000 in
set_option maxHeartbeats 4000000 in
theorem kL_update (l : Launch) (hst : l.stackTraces = false) (G : va_G) (cI cS cL : ClassId) (sv : Nat) (gx : Nat → Nat) (og : Nat) (sz B0 : Nat) (u : THS × OutR) (p0 : Int32) (r : Int32 × (THS × OutR)) (hf : fL_update u p0 = some r) : Met l yL_update (.codeWith yL_update cL_update 4 (some .int) [(0, 9, 12, 28), (0, 9, 15, 15)] :: bwL) rmL_update (va_Pc [.ref (gx 0), .int p0, .ref og] (PreL G (tysL cI cS cL) (wO cI cS cL sv gx og u) sz B0)) (va_Qi (fun r' u' => (r', u') = r) (PoM G (tysL cI cS cL) (va_A (wO cI cS cL sv gx og u) sz) (wO cI cS cL sv gx og)) (va_A (wO cI cS cL sv gx og u) sz)) 2 12 (va_A (wO cI cS cL sv gx og u) sz) := by
  refine enterW (own := RL) (by decide) rfl (Nat.le_of_ble_eq_true rfl) ?_
  intro p e s m args below meth c A Q hAe hQ S hr hlocks htab hP hK hN hC hD hA hS hX hAB hB ls hl
  rw [hAe] at hQ
  have hx := S.1; have hb := S.2.1; have hml := S.2.2.1; have hown := S.2.2.2.1; have hq := S.2.2.2.2
  have hl : lv_has ls 4 [(0, .ref (gx 0)), (1, .int p0), (2, .ref og)] := hl
  have h := hf
  unfold fL_update at h
  refine lv_aload_n hx hb dL_update_0 rfl (lv_at hl 2 rfl) ?_
  refine lv_iconst (v := 0) hx hb dL_update_1 (by decide) ?_
  refine lv_aload_n hx hb dL_update_2 rfl (lv_at hl 0 rfl) ?_
  refine lv_iload_n hx hb dL_update_3 rfl (lv_at hl 1 rfl) ?_
  rcases elr h with ⟨q1, e_q1, h⟩ | ⟨z1, e_z1, h⟩
  · by_cases c0 : q1.1 = 3
    · have h := (if_pos c0).symm.trans h
      refine xcatchI (cc_L_25 sv gx hst S (hK.sub [0, 1] rfl) hN (hP.sub [0, 1, 2, 3, 4, 5, 6, 7, 8, 9, 10, 11, 12, 13, 14, 15, 16, 17, 18, 19, 20, 21, 22, 23, 24, 25] rfl) (hD.sub [0, 1, 2, 3, 4, 5, 6, 7, 8, 9, 10, 11, 12, 13, 14, 15, 16, 17, 18, 19, 20, 21, 22, 23, 24, 25] (by decide) rfl) hS hAB hB hX e_q1 hl.1 (Nat.le_of_ble_eq_true rfl) ⟨(Nat.le_of_ble_eq_true rfl), (Nat.le_of_ble_eq_true rfl)⟩ dL_update_4 ⟨(Nat.le_of_ble_eq_true rfl), (Nat.le_of_ble_eq_true rfl)⟩) hS hP hD hA [0, 1, 2, 3, 4, 5, 6, 7, 8, 9, 10, 11, 12, 13, 14, 15, 16, 17, 18, 19, 20, 21, 22, 23, 24, 25] [26] rfl rfl (by decide) (by decide) [1, 2, 3, 4, 5, 6, 7, 8, 9, 10, 11, 12, 13, 14, 15, 16, 17, 18, 19, 20, 21, 22, 23, 24, 25, 26, 0] (by decide) (wO cI cS cL sv gx og (q1.2, u.2)) rfl (name := exN 3) (E := exN 3) (by rw [c0]) hown [] ⟨0, 9, 12, 28⟩ [⟨0, 9, 15, 15⟩] htab (fun z hz => nomatch hz) (by decide) (by decide) (hq _ ql_14) (va_Nw.use rfl (hX.2.2.2.1 3)) (fun q9 H locs hP hD hS => ?_)
      refine lv_astore_n (lv' := [(3, .ref q9), (0, .ref (gx 0)), (1, .int p0), (2, .ref og)]) hx hb dL_update_12 rfl hl (by decide) rfl (fun ls hl => ?_)
      refine lv_iconst (v := 1) hx hb dL_update_13 (by decide) ?_
      exact retMk hQ S hr hlocks hK hN hP hD hS h (Nat.le_of_ble_eq_true rfl) (Nat.le_of_ble_eq_true rfl) dL_update_14
    have h := (if_neg c0).symm.trans h
    by_cases c1 : q1.1 = 2
    · have h := (if_pos c1).symm.trans h
      refine xcatchI (cc_L_25 sv gx hst S (hK.sub [0, 1] rfl) hN (hP.sub [0, 1, 2, 3, 4, 5, 6, 7, 8, 9, 10, 11, 12, 13, 14, 15, 16, 17, 18, 19, 20, 21, 22, 23, 24, 25] rfl) (hD.sub [0, 1, 2, 3, 4, 5, 6, 7, 8, 9, 10, 11, 12, 13, 14, 15, 16, 17, 18, 19, 20, 21, 22, 23, 24, 25] (by decide) rfl) hS hAB hB hX e_q1 hl.1 (Nat.le_of_ble_eq_true rfl) ⟨(Nat.le_of_ble_eq_true rfl), (Nat.le_of_ble_eq_true rfl)⟩ dL_update_4 ⟨(Nat.le_of_ble_eq_true rfl), (Nat.le_of_ble_eq_true rfl)⟩) hS hP hD hA [0, 1, 2, 3, 4, 5, 6, 7, 8, 9, 10, 11, 12, 13, 14, 15, 16, 17, 18, 19, 20, 21, 22, 23, 24, 25] [26] rfl rfl (by decide) (by decide) [1, 2, 3, 4, 5, 6, 7, 8, 9, 10, 11, 12, 13, 14, 15, 16, 17, 18, 19, 20, 21, 22, 23, 24, 25, 26, 0] (by decide) (wO cI cS cL sv gx og (q1.2, u.2)) rfl (name := exN 2) (E := exN 2) (by rw [c1]) hown [⟨0, 9, 12, 28⟩] ⟨0, 9, 15, 15⟩ [] htab (fun z hz => Or.inr (by cases List.mem_singleton.mp hz; exact ⟨by decide, exN 3, hq _ ql_14, hC.2.1⟩)) (by decide) (by decide) (hq _ ql_2) (va_Nw.use rfl (hX.2.2.2.1 2)) (fun q9 H locs hP hD hS => ?_)
      refine lv_astore_n (lv' := [(3, .ref q9), (0, .ref (gx 0)), (1, .int p0), (2, .ref og)]) hx hb dL_update_15 rfl hl (by decide) rfl (fun ls hl => ?_)
      refine lv_iconst (v := 2) hx hb dL_update_16 (by decide) ?_
      exact retMk hQ S hr hlocks hK hN hP hD hS h (Nat.le_of_ble_eq_true rfl) (Nat.le_of_ble_eq_true rfl) dL_update_17
    have h := (if_neg c1).symm.trans h
    cases h
  · refine xcontI (cc_L_25 sv gx hst S (hK.sub [0, 1] rfl) hN (hP.sub [0, 1, 2, 3, 4, 5, 6, 7, 8, 9, 10, 11, 12, 13, 14, 15, 16, 17, 18, 19, 20, 21, 22, 23, 24, 25] rfl) (hD.sub [0, 1, 2, 3, 4, 5, 6, 7, 8, 9, 10, 11, 12, 13, 14, 15, 16, 17, 18, 19, 20, 21, 22, 23, 24, 25] (by decide) rfl) hS hAB hB hX e_z1 hl.1 (Nat.le_of_ble_eq_true rfl) ⟨(Nat.le_of_ble_eq_true rfl), (Nat.le_of_ble_eq_true rfl)⟩ dL_update_4 ⟨(Nat.le_of_ble_eq_true rfl), (Nat.le_of_ble_eq_true rfl)⟩) hS hP hD hA [0, 1, 2, 3, 4, 5, 6, 7, 8, 9, 10, 11, 12, 13, 14, 15, 16, 17, 18, 19, 20, 21, 22, 23, 24, 25] [26] rfl rfl (by decide) (by decide) [1, 2, 3, 4, 5, 6, 7, 8, 9, 10, 11, 12, 13, 14, 15, 16, 17, 18, 19, 20, 21, 22, 23, 24, 25, 26, 0] (by decide) (wO cI cS cL sv gx og (z1.2, u.2)) rfl (fun H locs hP hD hS => ?_)
    refine lv_i2l hx hb dL_update_7 rfl ?_
    refine va_last hx hb hK hP hD hS 26 2 rfl rfl (vp_in_of_not (i := 0) (n := 1) (by decide)) dL_update_8 (fun H locs hP hD hS => ?_)
    have hP : va_P G vwCl (wO cI cS cL sv gx og (z1.2, vp_updL u.2 (0 : Int32).toNatClampNeg z1.1.toInt64)) H := hP
    have hD : va_D A (wO cI cS cL sv gx og (z1.2, vp_updL u.2 (0 : Int32).toNatClampNeg z1.1.toInt64)) := hD
    refine lv_goto (tgt := 18) hx hb dL_update_9 (by decide) ?_
    refine lv_iconst (v := 0) hx hb dL_update_18 (by decide) ?_
    exact retMk hQ S hr hlocks hK hN hP hD hS h (Nat.le_of_ble_eq_true rfl) (Nat.le_of_ble_eq_true rfl) dL_update_19

theorem cc_L_30 {p : Program} {l : Launch} {e : Env} {R : Room} {s : State} {m : MethodId} {args : Array Value} {below : List Frame} {meth : Method} {c : Code} {H : Heap} {locs : List Loc} {cells slots : Nat} {cc : ByteArray} {pc nL : Nat} {ls : Array Slot} {rest : List Value} {G : va_G} {A : Nat → Prop} {B0 : Nat} (sv : Nat) (gx : Nat → Nat) {cI cS : ClassId} {v : THS} {p0 : Int32} {r : (Nat × (THS)) ⊕ (Int32 × THS)} (hst : l.stackTraces = false) (S : CallFix p m c cc nL s args bwL RL) (hK : va_K G vwCl (tysW cI cS) s) (hN : NW s) (hP : va_P G vwCl (wHS cI cS sv gx v) H) (hD : va_D A (wHS cI cS sv gx v)) (hS : va_S A s.heap H locs) (hAB : ∀ q, A q → B0 ≤ q) (hB : B0 ≤ s.heap.size) (hX : XT B0 s s.heap) (hf : fX4_delete v p0 = some r) (hsz : ls.size = nL) (hsk : (rest.map fun v => v.category).sum ≤ 8) (hR : rmX4_delete.frames + 1 ≤ R.frames ∧ 8 + (3 + 11) + rmX4_delete.locals ≤ R.locals) (hdg : decode cc pc = .ok (.invokevirtual 30, 3)) (hcs : cells + 1 ≤ R.cells ∧ slots + 6 ≤ R.slots) : vx_Run p l e R s m args below meth c H locs cells slots 1 6 (F0 m pc ls (.int p0 :: .ref (gx 0) :: rest)) rest (va_Qi (fun r' u' => r = .inr (r', u')) (PoM G (tysW cI cS) (va_A (wHS cI cS sv gx v) H.size) (wHS cI cS sv gx)) (va_A (wHS cI cS sv gx v) H.size) (#[.ref (gx 0), .int p0] : Array Value)) (XCw G (va_A (wHS cI cS sv gx v) H.size) (wHS cI cS sv gx) r) (va_A (wHS cI cS sv gx v) H.size) :=
  vx_runV (As := [.int p0]) (rest := rest) S (kX4_delete l hst G cI cS sv gx H.size B0 v p0 r hf) (cwV 1 S.2.2.2.2 (gdVL ql_19 ql_20 ql_21 (bwL_of q_76) (bwL_of q_280)) rfl rfl rfl (by decide +kernel) hR) (pvX (q := (RX4, TX4, 8)) hK hN hP hD hS hAB hB hX (ci := 4) (q0 := 0) rfl rfl) rfl rfl hsz rfl (lv_room hsk) hdg hcs
def fL_delete (u : THS × OutR) (p0 : Int32) : Option (Int32 × (THS × OutR)) := (fX4_delete u.1 p0).bind fun o => Sum.elim (fun q => (if q.1 = 3 then some ((1 : Int32), (q.2, u.2)) else none)) (fun z => some ((0 : Int32), (z.2, vp_updL u.2 (0 : Int32).toNatClampNeg z.1.toInt64))) o
abbrev rmL_delete : Room := { frames := 8, cells := 1, slots := 6, locals := 143 }
set_option maxRecDepth 100000 in
set_option maxHeartbeats 4000000 in
theorem kL_delete (l : Launch) (hst : l.stackTraces = false) (G : va_G) (cI cS cL : ClassId) (sv : Nat) (gx : Nat → Nat) (og : Nat) (sz B0 : Nat) (u : THS × OutR) (p0 : Int32) (r : Int32 × (THS × OutR)) (hf : fL_delete u p0 = some r) : Met l yL_delete (.codeWith yL_delete cL_delete 4 (some .int) [(0, 9, 12, 28)] :: bwL) rmL_delete (va_Pc [.ref (gx 0), .int p0, .ref og] (PreL G (tysL cI cS cL) (wO cI cS cL sv gx og u) sz B0)) (va_Qi (fun r' u' => (r', u') = r) (PoM G (tysL cI cS cL) (va_A (wO cI cS cL sv gx og u) sz) (wO cI cS cL sv gx og)) (va_A (wO cI cS cL sv gx og u) sz)) 1 6 (va_A (wO cI cS cL sv gx og u) sz) := by
  refine enterW (own := RL) (by decide) rfl (Nat.le_of_ble_eq_true rfl) ?_
  intro p e s m args below meth c A Q hAe hQ S hr hlocks htab hP hK hN hC hD hA hS hX hAB hB ls hl
  rw [hAe] at hQ
  have hx := S.1; have hb := S.2.1; have hml := S.2.2.1; have hown := S.2.2.2.1; have hq := S.2.2.2.2
  have hl : lv_has ls 4 [(0, .ref (gx 0)), (1, .int p0), (2, .ref og)] := hl
  have h := hf
  unfold fL_delete at h
  refine lv_aload_n hx hb dL_delete_0 rfl (lv_at hl 2 rfl) ?_
  refine lv_iconst (v := 0) hx hb dL_delete_1 (by decide) ?_
  refine lv_aload_n hx hb dL_delete_2 rfl (lv_at hl 0 rfl) ?_
  refine lv_iload_n hx hb dL_delete_3 rfl (lv_at hl 1 rfl) ?_
  rcases elr h with ⟨q1, e_q1, h⟩ | ⟨z1, e_z1, h⟩
  · by_cases c0 : q1.1 = 3
    · have h := (if_pos c0).symm.trans h
      refine xcatchI (cc_L_30 sv gx hst S (hK.sub [0, 1] rfl) hN (hP.sub [0, 1, 2, 3, 4, 5, 6, 7, 8, 9, 10, 11, 12, 13, 14, 15, 16, 17, 18, 19, 20, 21, 22, 23, 24, 25] rfl) (hD.sub [0, 1, 2, 3, 4, 5, 6, 7, 8, 9, 10, 11, 12, 13, 14, 15, 16, 17, 18, 19, 20, 21, 22, 23, 24, 25] (by decide) rfl) hS hAB hB hX e_q1 hl.1 (Nat.le_of_ble_eq_true rfl) ⟨(Nat.le_of_ble_eq_true rfl), (Nat.le_of_ble_eq_true rfl)⟩ dL_delete_4 ⟨(Nat.le_of_ble_eq_true rfl), (Nat.le_of_ble_eq_true rfl)⟩) hS hP hD hA [0, 1, 2, 3, 4, 5, 6, 7, 8, 9, 10, 11, 12, 13, 14, 15, 16, 17, 18, 19, 20, 21, 22, 23, 24, 25] [26] rfl rfl (by decide) (by decide) [1, 2, 3, 4, 5, 6, 7, 8, 9, 10, 11, 12, 13, 14, 15, 16, 17, 18, 19, 20, 21, 22, 23, 24, 25, 26, 0] (by decide) (wO cI cS cL sv gx og (q1.2, u.2)) rfl (name := exN 3) (E := exN 3) (by rw [c0]) hown [] ⟨0, 9, 12, 28⟩ [] htab (fun z hz => nomatch hz) (by decide) (by decide) (hq _ ql_14) (va_Nw.use rfl (hX.2.2.2.1 3)) (fun q9 H locs hP hD hS => ?_)
      refine lv_astore_n (lv' := [(3, .ref q9), (0, .ref (gx 0)), (1, .int p0), (2, .ref og)]) hx hb dL_delete_12 rfl hl (by decide) rfl (fun ls hl => ?_)
      refine lv_iconst (v := 1) hx hb dL_delete_13 (by decide) ?_
      exact retMk hQ S hr hlocks hK hN hP hD hS h (Nat.le_of_ble_eq_true rfl) (Nat.le_of_ble_eq_true rfl) dL_delete_14
    have h := (if_neg c0).symm.trans h
    cases h
  · refine xcontI (cc_L_30 sv gx hst S (hK.sub [0, 1] rfl) hN (hP.sub [0, 1, 2, 3, 4, 5, 6, 7, 8, 9, 10, 11, 12, 13, 14, 15, 16, 17, 18, 19, 20, 21, 22, 23, 24, 25] rfl) (hD.sub [0, 1, 2, 3, 4, 5, 6, 7, 8, 9, 10, 11, 12, 13, 14, 15, 16, 17, 18, 19, 20, 21, 22, 23, 24, 25] (by decide) rfl) hS hAB hB hX e_z1 hl.1 (Nat.le_of_ble_eq_true rfl) ⟨(Nat.le_of_ble_eq_true rfl), (Nat.le_of_ble_eq_true rfl)⟩ dL_delete_4 ⟨(Nat.le_of_ble_eq_true rfl), (Nat.le_of_ble_eq_true rfl)⟩) hS hP hD hA [0, 1, 2, 3, 4, 5, 6, 7, 8, 9, 10, 11, 12, 13, 14, 15, 16, 17, 18, 19, 20, 21, 22, 23, 24, 25] [26] rfl rfl (by decide) (by decide) [1, 2, 3, 4, 5, 6, 7, 8, 9, 10, 11, 12, 13, 14, 15, 16, 17, 18, 19, 20, 21, 22, 23, 24, 25, 26, 0] (by decide) (wO cI cS cL sv gx og (z1.2, u.2)) rfl (fun H locs hP hD hS => ?_)
    refine lv_i2l hx hb dL_delete_7 rfl ?_
    refine va_last hx hb hK hP hD hS 26 2 rfl rfl (vp_in_of_not (i := 0) (n := 1) (by decide)) dL_delete_8 (fun H locs hP hD hS => ?_)
    have hP : va_P G vwCl (wO cI cS cL sv gx og (z1.2, vp_updL u.2 (0 : Int32).toNatClampNeg z1.1.toInt64)) H := hP
    have hD : va_D A (wO cI cS cL sv gx og (z1.2, vp_updL u.2 (0 : Int32).toNatClampNeg z1.1.toInt64)) := hD
    refine lv_goto (tgt := 15) hx hb dL_delete_9 (by decide) ?_
    refine lv_iconst (v := 0) hx hb dL_delete_15 (by decide) ?_
    exact retMk hQ S hr hlocks hK hN hP hD hS h (Nat.le_of_ble_eq_true rfl) (Nat.le_of_ble_eq_true rfl) dL_delete_16

theorem cc_L_33 {p : Program} {l : Launch} {e : Env} {R : Room} {s : State} {m : MethodId} {args : Array Value} {below : List Frame} {meth : Method} {c : Code} {H : Heap} {locs : List Loc} {cells slots : Nat} {cc : ByteArray} {pc nL : Nat} {ls : Array Slot} {rest : List Value} {G : va_G} {A : Nat → Prop} {B0 : Nat} (sv : Nat) (gx : Nat → Nat) {cI cS : ClassId} {v : THS} {p0 : Int32} {r : (Nat × (THS)) ⊕ (Int32 × THS)} (hst : l.stackTraces = false) (S : CallFix p m c cc nL s args bwL RL) (hK : va_K G vwCl (tysW cI cS) s) (hN : NW s) (hP : va_P G vwCl (wHS cI cS sv gx v) H) (hD : va_D A (wHS cI cS sv gx v)) (hS : va_S A s.heap H locs) (hAB : ∀ q, A q → B0 ≤ q) (hB : B0 ≤ s.heap.size) (hX : XT B0 s s.heap) (hf : fX4_compact v p0 = some r) (hsz : ls.size = nL) (hsk : (rest.map fun v => v.category).sum ≤ 8) (hR : rmX4_compact.frames + 1 ≤ R.frames ∧ 8 + (2 + 11) + rmX4_compact.locals ≤ R.locals) (hdg : decode cc pc = .ok (.invokevirtual 33, 3)) (hcs : cells + 1 ≤ R.cells ∧ slots + 6 ≤ R.slots) : vx_Run p l e R s m args below meth c H locs cells slots 1 6 (F0 m pc ls (.int p0 :: .ref (gx 0) :: rest)) rest (va_Qi (fun r' u' => r = .inr (r', u')) (PoM G (tysW cI cS) (va_A (wHS cI cS sv gx v) H.size) (wHS cI cS sv gx)) (va_A (wHS cI cS sv gx v) H.size) (#[.ref (gx 0), .int p0] : Array Value)) (XCw G (va_A (wHS cI cS sv gx v) H.size) (wHS cI cS sv gx) r) (va_A (wHS cI cS sv gx v) H.size) :=
  vx_runV (As := [.int p0]) (rest := rest) S (kX4_compact l hst G cI cS sv gx H.size B0 v p0 r hf) (cwV 1 S.2.2.2.2 (gdVL ql_23 ql_24 ql_25 (bwL_of q_76) (bwL_of q_302)) rfl rfl rfl (by decide +kernel) hR) (pvX (q := (RX4, TX4, 8)) hK hN hP hD hS hAB hB hX (ci := 4) (q0 := 0) rfl rfl) rfl rfl hsz rfl (lv_room hsk) hdg hcs
def fL_compact (u : THS × OutR) (p0 : Int32) : Option (Int32 × (THS × OutR)) := (fX4_compact u.1 p0).bind fun o => Sum.elim (fun q => (if q.1 = 3 then some ((1 : Int32), (q.2, u.2)) else none)) (fun z => some ((0 : Int32), (z.2, vp_updL u.2 (0 : Int32).toNatClampNeg z.1.toInt64))) o
abbrev rmL_compact : Room := { frames := 8, cells := 1, slots := 6, locals := 142 }
set_option maxRecDepth 100000 in
set_option maxHeartbeats 4000000 in
theorem kL_compact (l : Launch) (hst : l.stackTraces = false) (G : va_G) (cI cS cL : ClassId) (sv : Nat) (gx : Nat → Nat) (og : Nat) (sz B0 : Nat) (u : THS × OutR) (p0 : Int32) (r : Int32 × (THS × OutR)) (hf : fL_compact u p0 = some r) : Met l yL_compact (.codeWith yL_compact cL_compact 4 (some .int) [(0, 9, 12, 28)] :: bwL) rmL_compact (va_Pc [.ref (gx 0), .int p0, .ref og] (PreL G (tysL cI cS cL) (wO cI cS cL sv gx og u) sz B0)) (va_Qi (fun r' u' => (r', u') = r) (PoM G (tysL cI cS cL) (va_A (wO cI cS cL sv gx og u) sz) (wO cI cS cL sv gx og)) (va_A (wO cI cS cL sv gx og u) sz)) 1 6 (va_A (wO cI cS cL sv gx og u) sz) := by
  refine enterW (own := RL) (by decide) rfl (Nat.le_of_ble_eq_true rfl) ?_
  intro p e s m args below meth c A Q hAe hQ S hr hlocks htab hP hK hN hC hD hA hS hX hAB hB ls hl
  rw [hAe] at hQ
  have hx := S.1; have hb := S.2.1; have hml := S.2.2.1; have hown := S.2.2.2.1; have hq := S.2.2.2.2
  have hl : lv_has ls 4 [(0, .ref (gx 0)), (1, .int p0), (2, .ref og)] := hl
  have h := hf
  unfold fL_compact at h
  refine lv_aload_n hx hb dL_compact_0 rfl (lv_at hl 2 rfl) ?_
  refine lv_iconst (v := 0) hx hb dL_compact_1 (by decide) ?_
  refine lv_aload_n hx hb dL_compact_2 rfl (lv_at hl 0 rfl) ?_
  refine lv_iload_n hx hb dL_compact_3 rfl (lv_at hl 1 rfl) ?_
  rcases elr h with ⟨q1, e_q1, h⟩ | ⟨z1, e_z1, h⟩
  · by_cases c0 : q1.1 = 3
    · have h := (if_pos c0).symm.trans h
      refine xcatchI (cc_L_33 sv gx hst S (hK.sub [0, 1] rfl) hN (hP.sub [0, 1, 2, 3, 4, 5, 6, 7, 8, 9, 10, 11, 12, 13, 14, 15, 16, 17, 18, 19, 20, 21, 22, 23, 24, 25] rfl) (hD.sub [0, 1, 2, 3, 4, 5, 6, 7, 8, 9, 10, 11, 12, 13, 14, 15, 16, 17, 18, 19, 20, 21, 22, 23, 24, 25] (by decide) rfl) hS hAB hB hX e_q1 hl.1 (Nat.le_of_ble_eq_true rfl) ⟨(Nat.le_of_ble_eq_true rfl), (Nat.le_of_ble_eq_true rfl)⟩ dL_compact_4 ⟨(Nat.le_of_ble_eq_true rfl), (Nat.le_of_ble_eq_true rfl)⟩) hS hP hD hA [0, 1, 2, 3, 4, 5, 6, 7, 8, 9, 10, 11, 12, 13, 14, 15, 16, 17, 18, 19, 20, 21, 22, 23, 24, 25] [26] rfl rfl (by decide) (by decide) [1, 2, 3, 4, 5, 6, 7, 8, 9, 10, 11, 12, 13, 14, 15, 16, 17, 18, 19, 20, 21, 22, 23, 24, 25, 26, 0] (by decide) (wO cI cS cL sv gx og (q1.2, u.2)) rfl (name := exN 3) (E := exN 3) (by rw [c0]) hown [] ⟨0, 9, 12, 28⟩ [] htab (fun z hz => nomatch hz) (by decide) (by decide) (hq _ ql_14) (va_Nw.use rfl (hX.2.2.2.1 3)) (fun q9 H locs hP hD hS => ?_)
      refine lv_astore_n (lv' := [(3, .ref q9), (0, .ref (gx 0)), (1, .int p0), (2, .ref og)]) hx hb dL_compact_12 rfl hl (by decide) rfl (fun ls hl => ?_)
      refine lv_iconst (v := 1) hx hb dL_compact_13 (by decide) ?_
      exact retMk hQ S hr hlocks hK hN hP hD hS h (Nat.le_of_ble_eq_true rfl) (Nat.le_of_ble_eq_true rfl) dL_compact_14
    have h := (if_neg c0).symm.trans h
    cases h
  · refine xcontI (cc_L_33 sv gx hst S (hK.sub [0, 1] rfl) hN (hP.sub [0, 1, 2, 3, 4, 5, 6, 7, 8, 9, 10, 11, 12, 13, 14, 15, 16, 17, 18, 19, 20, 21, 22, 23, 24, 25] rfl) (hD.sub [0, 1, 2, 3, 4, 5, 6, 7, 8, 9, 10, 11, 12, 13, 14, 15, 16, 17, 18, 19, 20, 21, 22, 23, 24, 25] (by decide) rfl) hS hAB hB hX e_z1 hl.1 (Nat.le_of_ble_eq_true rfl) ⟨(Nat.le_of_ble_eq_true rfl), (Nat.le_of_ble_eq_true rfl)⟩ dL_compact_4 ⟨(Nat.le_of_ble_eq_true rfl), (Nat.le_of_ble_eq_true rfl)⟩) hS hP hD hA [0, 1, 2, 3, 4, 5, 6, 7, 8, 9, 10, 11, 12, 13, 14, 15, 16, 17, 18, 19, 20, 21, 22, 23, 24, 25] [26] rfl rfl (by decide) (by decide) [1, 2, 3, 4, 5, 6, 7, 8, 9, 10, 11, 12, 13, 14, 15, 16, 17, 18, 19, 20, 21, 22, 23, 24, 25, 26, 0] (by decide) (wO cI cS cL sv gx og (z1.2, u.2)) rfl (fun H locs hP hD hS => ?_)
    refine lv_i2l hx hb dL_compact_7 rfl ?_
    refine va_last hx hb hK hP hD hS 26 2 rfl rfl (vp_in_of_not (i := 0) (n := 1) (by decide)) dL_compact_8 (fun H locs hP hD hS => ?_)
    have hP : va_P G vwCl (wO cI cS cL sv gx og (z1.2, vp_updL u.2 (0 : Int32).toNatClampNeg z1.1.toInt64)) H := hP
    have hD : va_D A (wO cI cS cL sv gx og (z1.2, vp_updL u.2 (0 : Int32).toNatClampNeg z1.1.toInt64)) := hD
    refine lv_goto (tgt := 15) hx hb dL_compact_9 (by decide) ?_
    refine lv_iconst (v := 0) hx hb dL_compact_15 (by decide) ?_
    exact retMk hQ S hr hlocks hK hN hP hD hS h (Nat.le_of_ble_eq_true rfl) (Nat.le_of_ble_eq_true rfl) dL_compact_16

theorem cc_L_36 {p : Program} {l : Launch} {e : Env} {R : Room} {s : State} {m : MethodId} {args : Array Value} {below : List Frame} {meth : Method} {c : Code} {H : Heap} {locs : List Loc} {cells slots : Nat} {cc : ByteArray} {pc nL : Nat} {ls : Array Slot} {rest : List Value} {G : va_G} {A : Nat → Prop} {B0 : Nat} (sv : Nat) (gx : Nat → Nat) {cI cS : ClassId} {v : TH} {p0 : Int32} {r : (Nat × (TH)) ⊕ (Int32 × TH)} (hst : l.stackTraces = false) (S : CallFix p m c cc nL s args bwL RL) (hK : va_K G vwCl (tysW cI cS) s) (hN : NW s) (hP : va_P G vwCl (wH cI sv gx v) H) (hD : va_D A (wH cI sv gx v)) (hS : va_S A s.heap H locs) (hAB : ∀ q, A q → B0 ≤ q) (hB : B0 ≤ s.heap.size) (hX : XT B0 s s.heap) (hf : fX4_length v p0 = some r) (hsz : ls.size = nL) (hsk : (rest.map fun v => v.category).sum ≤ 8) (hR : rmX4_length.frames + 1 ≤ R.frames ∧ 8 + (2 + 11) + rmX4_length.locals ≤ R.locals) (hdg : decode cc pc = .ok (.invokevirtual 36, 3)) (hcs : cells + 1 ≤ R.cells ∧ slots + 6 ≤ R.slots) : vx_Run p l e R s m args below meth c H locs cells slots 1 6 (F0 m pc ls (.int p0 :: .ref (gx 0) :: rest)) rest (va_Qi (fun r' u' => r = .inr (r', u')) (PoM G (tysW cI cS) (va_A (wH cI sv gx v) H.size) (wH cI sv gx)) (va_A (wH cI sv gx v) H.size) (#[.ref (gx 0), .int p0] : Array Value)) (XCw G (va_A (wH cI sv gx v) H.size) (wH cI sv gx) r) (va_A (wH cI sv gx v) H.size) :=
  vx_runV (As := [.int p0]) (rest := rest) S (kX4_length l hst G cI cS sv gx H.size B0 v p0 r hf) (cwV 1 S.2.2.2.2 (gdVL ql_27 ql_28 ql_29 (bwL_of q_76) (bwL_of q_308)) rfl rfl rfl (by decide +kernel) hR) (pvX (q := (RX4, TX4, 8)) hK hN hP hD hS hAB hB hX (ci := 4) (q0 := 0) rfl rfl) rfl rfl hsz rfl (lv_room hsk) hdg hcs
def fL_length (u : THS × OutR) (p0 : Int32) : Option (Int32 × (THS × OutR)) := (fX4_length u.1.1 p0).bind fun o => Sum.elim (fun q => (if q.1 = 3 then some ((1 : Int32), ((q.2, u.1.2), u.2)) else none)) (fun z => some ((0 : Int32), ((z.2, u.1.2), vp_updL u.2 (0 : Int32).toNatClampNeg z.1.toInt64))) o
abbrev rmL_length : Room := { frames := 8, cells := 1, slots := 6, locals := 142 }
set_option maxRecDepth 100000 in
set_option maxHeartbeats 4000000 in
theorem kL_length (l : Launch) (hst : l.stackTraces = false) (G : va_G) (cI cS cL : ClassId) (sv : Nat) (gx : Nat → Nat) (og : Nat) (sz B0 : Nat) (u : THS × OutR) (p0 : Int32) (r : Int32 × (THS × OutR)) (hf : fL_length u p0 = some r) : Met l yL_length (.codeWith yL_length cL_length 4 (some .int) [(0, 9, 12, 28)] :: bwL) rmL_length (va_Pc [.ref (gx 0), .int p0, .ref og] (PreL G (tysL cI cS cL) (wO cI cS cL sv gx og u) sz B0)) (va_Qi (fun r' u' => (r', u') = r) (PoM G (tysL cI cS cL) (va_A (wO cI cS cL sv gx og u) sz) (wO cI cS cL sv gx og)) (va_A (wO cI cS cL sv gx og u) sz)) 1 6 (va_A (wO cI cS cL sv gx og u) sz) := by
  refine enterW (own := RL) (by decide) rfl (Nat.le_of_ble_eq_true rfl) ?_
  intro p e s m args below meth c A Q hAe hQ S hr hlocks htab hP hK hN hC hD hA hS hX hAB hB ls hl
  rw [hAe] at hQ
  have hx := S.1; have hb := S.2.1; have hml := S.2.2.1; have hown := S.2.2.2.1; have hq := S.2.2.2.2
  have hl : lv_has ls 4 [(0, .ref (gx 0)), (1, .int p0), (2, .ref og)] := hl
  have h := hf
  unfold fL_length at h
  refine lv_aload_n hx hb dL_length_0 rfl (lv_at hl 2 rfl) ?_
  refine lv_iconst (v := 0) hx hb dL_length_1 (by decide) ?_
  refine lv_aload_n hx hb dL_length_2 rfl (lv_at hl 0 rfl) ?_
  refine lv_iload_n hx hb dL_length_3 rfl (lv_at hl 1 rfl) ?_
  rcases elr h with ⟨q1, e_q1, h⟩ | ⟨z1, e_z1, h⟩
  · by_cases c0 : q1.1 = 3
    · have h := (if_pos c0).symm.trans h
      refine xcatchI (cc_L_36 sv gx hst S (hK.sub [0, 1] rfl) hN (hP.sub [0, 1, 2, 3, 4, 5, 6, 7, 8, 9, 10, 11, 12] rfl) (hD.sub [0, 1, 2, 3, 4, 5, 6, 7, 8, 9, 10, 11, 12] (by decide) rfl) hS hAB hB hX e_q1 hl.1 (Nat.le_of_ble_eq_true rfl) ⟨(Nat.le_of_ble_eq_true rfl), (Nat.le_of_ble_eq_true rfl)⟩ dL_length_4 ⟨(Nat.le_of_ble_eq_true rfl), (Nat.le_of_ble_eq_true rfl)⟩) hS hP hD hA [0, 1, 2, 3, 4, 5, 6, 7, 8, 9, 10, 11, 12] [13, 14, 15, 16, 17, 18, 19, 20, 21, 22, 23, 24, 25, 26] rfl rfl (by decide) (by decide) [14, 15, 16, 17, 18, 19, 20, 21, 22, 23, 24, 25, 26, 0, 1, 2, 3, 4, 5, 6, 7, 8, 9, 10, 11, 12, 13] (by decide) (wO cI cS cL sv gx og ((q1.2, u.1.2), u.2)) rfl (name := exN 3) (E := exN 3) (by rw [c0]) hown [] ⟨0, 9, 12, 28⟩ [] htab (fun z hz => nomatch hz) (by decide) (by decide) (hq _ ql_14) (va_Nw.use rfl (hX.2.2.2.1 3)) (fun q9 H locs hP hD hS => ?_)
      refine lv_astore_n (lv' := [(3, .ref q9), (0, .ref (gx 0)), (1, .int p0), (2, .ref og)]) hx hb dL_length_12 rfl hl (by decide) rfl (fun ls hl => ?_)
      refine lv_iconst (v := 1) hx hb dL_length_13 (by decide) ?_
      exact retMk hQ S hr hlocks hK hN hP hD hS h (Nat.le_of_ble_eq_true rfl) (Nat.le_of_ble_eq_true rfl) dL_length_14
    have h := (if_neg c0).symm.trans h
    cases h
  · refine xcontI (cc_L_36 sv gx hst S (hK.sub [0, 1] rfl) hN (hP.sub [0, 1, 2, 3, 4, 5, 6, 7, 8, 9, 10, 11, 12] rfl) (hD.sub [0, 1, 2, 3, 4, 5, 6, 7, 8, 9, 10, 11, 12] (by decide) rfl) hS hAB hB hX e_z1 hl.1 (Nat.le_of_ble_eq_true rfl) ⟨(Nat.le_of_ble_eq_true rfl), (Nat.le_of_ble_eq_true rfl)⟩ dL_length_4 ⟨(Nat.le_of_ble_eq_true rfl), (Nat.le_of_ble_eq_true rfl)⟩) hS hP hD hA [0, 1, 2, 3, 4, 5, 6, 7, 8, 9, 10, 11, 12] [13, 14, 15, 16, 17, 18, 19, 20, 21, 22, 23, 24, 25, 26] rfl rfl (by decide) (by decide) [14, 15, 16, 17, 18, 19, 20, 21, 22, 23, 24, 25, 26, 0, 1, 2, 3, 4, 5, 6, 7, 8, 9, 10, 11, 12, 13] (by decide) (wO cI cS cL sv gx og ((z1.2, u.1.2), u.2)) rfl (fun H locs hP hD hS => ?_)
    refine lv_i2l hx hb dL_length_7 rfl ?_
    refine va_last hx hb hK hP hD hS 26 2 rfl rfl (vp_in_of_not (i := 0) (n := 1) (by decide)) dL_length_8 (fun H locs hP hD hS => ?_)
    have hP : va_P G vwCl (wO cI cS cL sv gx og ((z1.2, u.1.2), vp_updL u.2 (0 : Int32).toNatClampNeg z1.1.toInt64)) H := hP
    have hD : va_D A (wO cI cS cL sv gx og ((z1.2, u.1.2), vp_updL u.2 (0 : Int32).toNatClampNeg z1.1.toInt64)) := hD
    refine lv_goto (tgt := 15) hx hb dL_length_9 (by decide) ?_
    refine lv_iconst (v := 0) hx hb dL_length_15 (by decide) ?_
    exact retMk hQ S hr hlocks hK hN hP hD hS h (Nat.le_of_ble_eq_true rfl) (Nat.le_of_ble_eq_true rfl) dL_length_16

theorem cc_L_39 {p : Program} {l : Launch} {e : Env} {R : Room} {s : State} {m : MethodId} {args : Array Value} {below : List Frame} {meth : Method} {c : Code} {H : Heap} {locs : List Loc} {cells slots : Nat} {cc : ByteArray} {pc nL : Nat} {ls : Array Slot} {rest : List Value} {G : va_G} {A : Nat → Prop} {B0 : Nat} (sv : Nat) (gx : Nat → Nat) {cI cS : ClassId} {v : TH} {p0 : Int32} {p1 : Int32} {r : (Nat × (TH)) ⊕ (Int32 × TH)} (hst : l.stackTraces = false) (S : CallFix p m c cc nL s args bwL RL) (hK : va_K G vwCl (tysW cI cS) s) (hN : NW s) (hP : va_P G vwCl (wH cI sv gx v) H) (hD : va_D A (wH cI sv gx v)) (hS : va_S A s.heap H locs) (hAB : ∀ q, A q → B0 ≤ q) (hB : B0 ≤ s.heap.size) (hX : XT B0 s s.heap) (hf : fX4_byteOf v p0 p1 = some r) (hsz : ls.size = nL) (hsk : (rest.map fun v => v.category).sum ≤ 8) (hR : rmX4_byteOf.frames + 1 ≤ R.frames ∧ 8 + (4 + 11) + rmX4_byteOf.locals ≤ R.locals) (hdg : decode cc pc = .ok (.invokevirtual 39, 3)) (hcs : cells + 2 ≤ R.cells ∧ slots + 12 ≤ R.slots) : vx_Run p l e R s m args below meth c H locs cells slots 2 12 (F0 m pc ls (.int p1 :: .int p0 :: .ref (gx 0) :: rest)) rest (va_Qi (fun r' u' => r = .inr (r', u')) (PoM G (tysW cI cS) (va_A (wH cI sv gx v) H.size) (wH cI sv gx)) (va_A (wH cI sv gx v) H.size) (#[.ref (gx 0), .int p0, .int p1] : Array Value)) (XCw G (va_A (wH cI sv gx v) H.size) (wH cI sv gx) r) (va_A (wH cI sv gx v) H.size) :=
  vx_runV (As := [.int p0, .int p1]) (rest := rest) S (kX4_byteOf l hst G cI cS sv gx H.size B0 v p0 p1 r hf) (cwV 2 S.2.2.2.2 (gdVL ql_31 ql_32 ql_33 (bwL_of q_76) (bwL_of q_309)) rfl rfl rfl (by decide +kernel) hR) (pvX (q := (RX4, TX4, 8)) hK hN hP hD hS hAB hB hX (ci := 4) (q0 := 0) rfl rfl) rfl rfl hsz rfl (lv_room hsk) hdg hcs
def fL_byteOf (u : THS × OutR) (p0 : Int32) (p1 : Int32) : Option (Int32 × (THS × OutR)) := (fX4_byteOf u.1.1 p0 p1).bind fun o => Sum.elim (fun q => (if q.1 = 3 then some ((1 : Int32), ((q.2, u.1.2), u.2)) else none)) (fun z => some ((0 : Int32), ((z.2, u.1.2), vp_updL u.2 (0 : Int32).toNatClampNeg z.1.toInt64))) o
abbrev rmL_byteOf : Room := { frames := 8, cells := 2, slots := 12, locals := 144 }
set_option maxRecDepth 100000 in
set_option maxHeartbeats 4000000 in
theorem kL_byteOf (l : Launch) (hst : l.stackTraces = false) (G : va_G) (cI cS cL : ClassId) (sv : Nat) (gx : Nat → Nat) (og : Nat) (sz B0 : Nat) (u : THS × OutR) (p0 : Int32) (p1 : Int32) (r : Int32 × (THS × OutR)) (hf : fL_byteOf u p0 p1 = some r) : Met l yL_byteOf (.codeWith yL_byteOf cL_byteOf 5 (some .int) [(0, 10, 13, 28)] :: bwL) rmL_byteOf (va_Pc [.ref (gx 0), .int p0, .int p1, .ref og] (PreL G (tysL cI cS cL) (wO cI cS cL sv gx og u) sz B0)) (va_Qi (fun r' u' => (r', u') = r) (PoM G (tysL cI cS cL) (va_A (wO cI cS cL sv gx og u) sz) (wO cI cS cL sv gx og)) (va_A (wO cI cS cL sv gx og u) sz)) 2 12 (va_A (wO cI cS cL sv gx og u) sz) := by
  refine enterW (own := RL) (by decide) rfl (Nat.le_of_ble_eq_true rfl) ?_
  intro p e s m args below meth c A Q hAe hQ S hr hlocks htab hP hK hN hC hD hA hS hX hAB hB ls hl
  rw [hAe] at hQ
  have hx := S.1; have hb := S.2.1; have hml := S.2.2.1; have hown := S.2.2.2.1; have hq := S.2.2.2.2
  have hl : lv_has ls 5 [(0, .ref (gx 0)), (1, .int p0), (2, .int p1), (3, .ref og)] := hl
  have h := hf
  unfold fL_byteOf at h
  refine lv_aload_n hx hb dL_byteOf_0 rfl (lv_at hl 3 rfl) ?_
  refine lv_iconst (v := 0) hx hb dL_byteOf_1 (by decide) ?_
  refine lv_aload_n hx hb dL_byteOf_2 rfl (lv_at hl 0 rfl) ?_
  refine lv_iload_n hx hb dL_byteOf_3 rfl (lv_at hl 1 rfl) ?_
  refine lv_iload_n hx hb dL_byteOf_4 rfl (lv_at hl 2 rfl) ?_
  rcases elr h with ⟨q1, e_q1, h⟩ | ⟨z1, e_z1, h⟩
  · by_cases c0 : q1.1 = 3
    · have h := (if_pos c0).symm.trans h
      refine xcatchI (cc_L_39 sv gx hst S (hK.sub [0, 1] rfl) hN (hP.sub [0, 1, 2, 3, 4, 5, 6, 7, 8, 9, 10, 11, 12] rfl) (hD.sub [0, 1, 2, 3, 4, 5, 6, 7, 8, 9, 10, 11, 12] (by decide) rfl) hS hAB hB hX e_q1 hl.1 (Nat.le_of_ble_eq_true rfl) ⟨(Nat.le_of_ble_eq_true rfl), (Nat.le_of_ble_eq_true rfl)⟩ dL_byteOf_5 ⟨(Nat.le_of_ble_eq_true rfl), (Nat.le_of_ble_eq_true rfl)⟩) hS hP hD hA [0, 1, 2, 3, 4, 5, 6, 7, 8, 9, 10, 11, 12] [13, 14, 15, 16, 17, 18, 19, 20, 21, 22, 23, 24, 25, 26] rfl rfl (by decide) (by decide) [14, 15, 16, 17, 18, 19, 20, 21, 22, 23, 24, 25, 26, 0, 1, 2, 3, 4, 5, 6, 7, 8, 9, 10, 11, 12, 13] (by decide) (wO cI cS cL sv gx og ((q1.2, u.1.2), u.2)) rfl (name := exN 3) (E := exN 3) (by rw [c0]) hown [] ⟨0, 10, 13, 28⟩ [] htab (fun z hz => nomatch hz) (by decide) (by decide) (hq _ ql_14) (va_Nw.use rfl (hX.2.2.2.1 3)) (fun q9 H locs hP hD hS => ?_)
      refine lv_astore (lv' := [(4, .ref q9), (0, .ref (gx 0)), (1, .int p0), (2, .int p1), (3, .ref og)]) hx hb dL_byteOf_13 hl (by decide) rfl (fun ls hl => ?_)
      refine lv_iconst (v := 1) hx hb dL_byteOf_15 (by decide) ?_
      exact retMk hQ S hr hlocks hK hN hP hD hS h (Nat.le_of_ble_eq_true rfl) (Nat.le_of_ble_eq_true rfl) dL_byteOf_16
    have h := (if_neg c0).symm.trans h
    cases h
  · refine xcontI (cc_L_39 sv gx hst S (hK.sub [0, 1] rfl) hN (hP.sub [0, 1, 2, 3, 4, 5, 6, 7, 8, 9, 10, 11, 12] rfl) (hD.sub [0, 1, 2, 3, 4, 5, 6, 7, 8, 9, 10, 11, 12] (by decide) rfl) hS hAB hB hX e_z1 hl.1 (Nat.le_of_ble_eq_true rfl) ⟨(Nat.le_of_ble_eq_true rfl), (Nat.le_of_ble_eq_true rfl)⟩ dL_byteOf_5 ⟨(Nat.le_of_ble_eq_true rfl), (Nat.le_of_ble_eq_true rfl)⟩) hS hP hD hA [0, 1, 2, 3, 4, 5, 6, 7, 8, 9, 10, 11, 12] [13, 14, 15, 16, 17, 18, 19, 20, 21, 22, 23, 24, 25, 26] rfl rfl (by decide) (by decide) [14, 15, 16, 17, 18, 19, 20, 21, 22, 23, 24, 25, 26, 0, 1, 2, 3, 4, 5, 6, 7, 8, 9, 10, 11, 12, 13] (by decide) (wO cI cS cL sv gx og ((z1.2, u.1.2), u.2)) rfl (fun H locs hP hD hS => ?_)
    refine lv_i2l hx hb dL_byteOf_8 rfl ?_
    refine va_last hx hb hK hP hD hS 26 2 rfl rfl (vp_in_of_not (i := 0) (n := 1) (by decide)) dL_byteOf_9 (fun H locs hP hD hS => ?_)
    have hP : va_P G vwCl (wO cI cS cL sv gx og ((z1.2, u.1.2), vp_updL u.2 (0 : Int32).toNatClampNeg z1.1.toInt64)) H := hP
    have hD : va_D A (wO cI cS cL sv gx og ((z1.2, u.1.2), vp_updL u.2 (0 : Int32).toNatClampNeg z1.1.toInt64)) := hD
    refine lv_goto (tgt := 17) hx hb dL_byteOf_10 (by decide) ?_
    refine lv_iconst (v := 0) hx hb dL_byteOf_17 (by decide) ?_
    exact retMk hQ S hr hlocks hK hN hP hD hS h (Nat.le_of_ble_eq_true rfl) (Nat.le_of_ble_eq_true rfl) dL_byteOf_18

theorem cc_L_42 {p : Program} {l : Launch} {e : Env} {R : Room} {s : State} {m : MethodId} {args : Array Value} {below : List Frame} {meth : Method} {c : Code} {H : Heap} {locs : List Loc} {cells slots : Nat} {cc : ByteArray} {pc nL : Nat} {ls : Array Slot} {rest : List Value} {G : va_G} {A : Nat → Prop} {B0 : Nat} (sv : Nat) (gx : Nat → Nat) {cI cS : ClassId} {v : TH} {p0 : Int32} {r : (Nat × (TH)) ⊕ (Int32 × TH)} (hst : l.stackTraces = false) (S : CallFix p m c cc nL s args bwL RL) (hK : va_K G vwCl (tysW cI cS) s) (hN : NW s) (hP : va_P G vwCl (wH cI sv gx v) H) (hD : va_D A (wH cI sv gx v)) (hS : va_S A s.heap H locs) (hAB : ∀ q, A q → B0 ≤ q) (hB : B0 ≤ s.heap.size) (hX : XT B0 s s.heap) (hf : fX4_placeOf v p0 = some r) (hsz : ls.size = nL) (hsk : (rest.map fun v => v.category).sum ≤ 8) (hR : rmX4_placeOf.frames + 1 ≤ R.frames ∧ 8 + (2 + 11) + rmX4_placeOf.locals ≤ R.locals) (hdg : decode cc pc = .ok (.invokevirtual 42, 3)) (hcs : cells + 1 ≤ R.cells ∧ slots + 6 ≤ R.slots) : vx_Run p l e R s m args below meth c H locs cells slots 1 6 (F0 m pc ls (.int p0 :: .ref (gx 0) :: rest)) rest (va_Qi (fun r' u' => r = .inr (r', u')) (PoM G (tysW cI cS) (va_A (wH cI sv gx v) H.size) (wH cI sv gx)) (va_A (wH cI sv gx v) H.size) (#[.ref (gx 0), .int p0] : Array Value)) (XCw G (va_A (wH cI sv gx v) H.size) (wH cI sv gx) r) (va_A (wH cI sv gx v) H.size) :=
  vx_runV (As := [.int p0]) (rest := rest) S (kX4_placeOf l hst G cI cS sv gx H.size B0 v p0 r hf) (cwV 1 S.2.2.2.2 (gdVL ql_35 ql_36 ql_37 (bwL_of q_76) (bwL_of q_310)) rfl rfl rfl (by decide +kernel) hR) (pvX (q := (RX4, TX4, 8)) hK hN hP hD hS hAB hB hX (ci := 4) (q0 := 0) rfl rfl) rfl rfl hsz rfl (lv_room hsk) hdg hcs
def fL_placeOf (u : THS × OutR) (p0 : Int32) : Option (Int32 × (THS × OutR)) := (fX4_placeOf u.1.1 p0).bind fun o => Sum.elim (fun q => (if q.1 = 3 then some ((1 : Int32), ((q.2, u.1.2), u.2)) else none)) (fun z => some ((0 : Int32), ((z.2, u.1.2), vp_updL u.2 (0 : Int32).toNatClampNeg z.1.toInt64))) o
abbrev rmL_placeOf : Room := { frames := 8, cells := 1, slots := 6, locals := 142 }
set_option maxRecDepth 100000 in
set_option maxHeartbeats 4000000 in
theorem kL_placeOf (l : Launch) (hst : l.stackTraces = false) (G : va_G) (cI cS cL : ClassId) (sv : Nat) (gx : Nat → Nat) (og : Nat) (sz B0 : Nat) (u : THS × OutR) (p0 : Int32) (r : Int32 × (THS × OutR)) (hf : fL_placeOf u p0 = some r) : Met l yL_placeOf (.codeWith yL_placeOf cL_placeOf 4 (some .int) [(0, 9, 12, 28)] :: bwL) rmL_placeOf (va_Pc [.ref (gx 0), .int p0, .ref og] (PreL G (tysL cI cS cL) (wO cI cS cL sv gx og u) sz B0)) (va_Qi (fun r' u' => (r', u') = r) (PoM G (tysL cI cS cL) (va_A (wO cI cS cL sv gx og u) sz) (wO cI cS cL sv gx og)) (va_A (wO cI cS cL sv gx og u) sz)) 1 6 (va_A (wO cI cS cL sv gx og u) sz) := by
  refine enterW (own := RL) (by decide) rfl (Nat.le_of_ble_eq_true rfl) ?_
  intro p e s m args below meth c A Q hAe hQ S hr hlocks htab hP hK hN hC hD hA hS hX hAB hB ls hl
  rw [hAe] at hQ
  have hx := S.1; have hb := S.2.1; have hml := S.2.2.1; have hown := S.2.2.2.1; have hq := S.2.2.2.2
  have hl : lv_has ls 4 [(0, .ref (gx 0)), (1, .int p0), (2, .ref og)] := hl
  have h := hf
  unfold fL_placeOf at h
  refine lv_aload_n hx hb dL_placeOf_0 rfl (lv_at hl 2 rfl) ?_
  refine lv_iconst (v := 0) hx hb dL_placeOf_1 (by decide) ?_
  refine lv_aload_n hx hb dL_placeOf_2 rfl (lv_at hl 0 rfl) ?_
  refine lv_iload_n hx hb dL_placeOf_3 rfl (lv_at hl 1 rfl) ?_
  rcases elr h with ⟨q1, e_q1, h⟩ | ⟨z1, e_z1, h⟩
  · by_cases c0 : q1.1 = 3
    · have h := (if_pos c0).symm.trans h
      refine xcatchI (cc_L_42 sv gx hst S (hK.sub [0, 1] rfl) hN (hP.sub [0, 1, 2, 3, 4, 5, 6, 7, 8, 9, 10, 11, 12] rfl) (hD.sub [0, 1, 2, 3, 4, 5, 6, 7, 8, 9, 10, 11, 12] (by decide) rfl) hS hAB hB hX e_q1 hl.1 (Nat.le_of_ble_eq_true rfl) ⟨(Nat.le_of_ble_eq_true rfl), (Nat.le_of_ble_eq_true rfl)⟩ dL_placeOf_4 ⟨(Nat.le_of_ble_eq_true rfl), (Nat.le_of_ble_eq_true rfl)⟩) hS hP hD hA [0, 1, 2, 3, 4, 5, 6, 7, 8, 9, 10, 11, 12] [13, 14, 15, 16, 17, 18, 19, 20, 21, 22, 23, 24, 25, 26] rfl rfl (by decide) (by decide) [14, 15, 16, 17, 18, 19, 20, 21, 22, 23, 24, 25, 26, 0, 1, 2, 3, 4, 5, 6, 7, 8, 9, 10, 11, 12, 13] (by decide) (wO cI cS cL sv gx og ((q1.2, u.1.2), u.2)) rfl (name := exN 3) (E := exN 3) (by rw [c0]) hown [] ⟨0, 9, 12, 28⟩ [] htab (fun z hz => nomatch hz) (by decide) (by decide) (hq _ ql_14) (va_Nw.use rfl (hX.2.2.2.1 3)) (fun q9 H locs hP hD hS => ?_)
      refine lv_astore_n (lv' := [(3, .ref q9), (0, .ref (gx 0)), (1, .int p0), (2, .ref og)]) hx hb dL_placeOf_12 rfl hl (by decide) rfl (fun ls hl => ?_)
      refine lv_iconst (v := 1) hx hb dL_placeOf_13 (by decide) ?_
      exact retMk hQ S hr hlocks hK hN hP hD hS h (Nat.le_of_ble_eq_true rfl) (Nat.le_of_ble_eq_true rfl) dL_placeOf_14
    have h := (if_neg c0).symm.trans h
    cases h
  · refine xcontI (cc_L_42 sv gx hst S (hK.sub [0, 1] rfl) hN (hP.sub [0, 1, 2, 3, 4, 5, 6, 7, 8, 9, 10, 11, 12] rfl) (hD.sub [0, 1, 2, 3, 4, 5, 6, 7, 8, 9, 10, 11, 12] (by decide) rfl) hS hAB hB hX e_z1 hl.1 (Nat.le_of_ble_eq_true rfl) ⟨(Nat.le_of_ble_eq_true rfl), (Nat.le_of_ble_eq_true rfl)⟩ dL_placeOf_4 ⟨(Nat.le_of_ble_eq_true rfl), (Nat.le_of_ble_eq_true rfl)⟩) hS hP hD hA [0, 1, 2, 3, 4, 5, 6, 7, 8, 9, 10, 11, 12] [13, 14, 15, 16, 17, 18, 19, 20, 21, 22, 23, 24, 25, 26] rfl rfl (by decide) (by decide) [14, 15, 16, 17, 18, 19, 20, 21, 22, 23, 24, 25, 26, 0, 1, 2, 3, 4, 5, 6, 7, 8, 9, 10, 11, 12, 13] (by decide) (wO cI cS cL sv gx og ((z1.2, u.1.2), u.2)) rfl (fun H locs hP hD hS => ?_)
    refine lv_i2l hx hb dL_placeOf_7 rfl ?_
    refine va_last hx hb hK hP hD hS 26 2 rfl rfl (vp_in_of_not (i := 0) (n := 1) (by decide)) dL_placeOf_8 (fun H locs hP hD hS => ?_)
    have hP : va_P G vwCl (wO cI cS cL sv gx og ((z1.2, u.1.2), vp_updL u.2 (0 : Int32).toNatClampNeg z1.1.toInt64)) H := hP
    have hD : va_D A (wO cI cS cL sv gx og ((z1.2, u.1.2), vp_updL u.2 (0 : Int32).toNatClampNeg z1.1.toInt64)) := hD
    refine lv_goto (tgt := 15) hx hb dL_placeOf_9 (by decide) ?_
    refine lv_iconst (v := 0) hx hb dL_placeOf_15 (by decide) ?_
    exact retMk hQ S hr hlocks hK hN hP hD hS h (Nat.le_of_ble_eq_true rfl) (Nat.le_of_ble_eq_true rfl) dL_placeOf_16

theorem cc_L_45 {p : Program} {l : Launch} {e : Env} {R : Room} {s : State} {m : MethodId} {args : Array Value} {below : List Frame} {meth : Method} {c : Code} {H : Heap} {locs : List Loc} {cells slots : Nat} {cc : ByteArray} {pc nL : Nat} {ls : Array Slot} {rest : List Value} {G : va_G} {A : Nat → Prop} {B0 : Nat} (sv : Nat) (gx : Nat → Nat) {cI cS : ClassId} {v : TH} {p0 : Int32} {p1 : Int32} {r : (Nat × (TH)) ⊕ (Int32 × TH)} (hst : l.stackTraces = false) (S : CallFix p m c cc nL s args bwL RL) (hK : va_K G vwCl (tysW cI cS) s) (hN : NW s) (hP : va_P G vwCl (wH cI sv gx v) H) (hD : va_D A (wH cI sv gx v)) (hS : va_S A s.heap H locs) (hAB : ∀ q, A q → B0 ≤ q) (hB : B0 ≤ s.heap.size) (hX : XT B0 s s.heap) (hf : fX4_pageByte v p0 p1 = some r) (hsz : ls.size = nL) (hsk : (rest.map fun v => v.category).sum ≤ 8) (hR : rmX4_pageByte.frames + 1 ≤ R.frames ∧ 8 + (3 + 11) + rmX4_pageByte.locals ≤ R.locals) (hdg : decode cc pc = .ok (.invokevirtual 45, 3)) (hcs : cells + 2 ≤ R.cells ∧ slots + 12 ≤ R.slots) : vx_Run p l e R s m args below meth c H locs cells slots 2 12 (F0 m pc ls (.int p1 :: .int p0 :: .ref (gx 0) :: rest)) rest (va_Qi (fun r' u' => r = .inr (r', u')) (PoM G (tysW cI cS) (va_A (wH cI sv gx v) H.size) (wH cI sv gx)) (va_A (wH cI sv gx v) H.size) (#[.ref (gx 0), .int p0, .int p1] : Array Value)) (XCw G (va_A (wH cI sv gx v) H.size) (wH cI sv gx) r) (va_A (wH cI sv gx v) H.size) :=
  vx_runV (As := [.int p0, .int p1]) (rest := rest) S (kX4_pageByte l hst G cI cS sv gx H.size B0 v p0 p1 r hf) (cwV 2 S.2.2.2.2 (gdVL ql_40 ql_41 ql_42 (bwL_of q_76) (bwL_of q_317)) rfl rfl rfl (by decide +kernel) hR) (pvX (q := (RX4, TX4, 8)) hK hN hP hD hS hAB hB hX (ci := 4) (q0 := 0) rfl rfl) rfl rfl hsz rfl (lv_room hsk) hdg hcs
def fL_pageByte (u : THS × OutR) (p0 : Int32) (p1 : Int32) : Option (Int32 × (THS × OutR)) := (fX4_pageByte u.1.1 p0 p1).bind fun o => Sum.elim (fun q => (if q.1 = 3 then some ((1 : Int32), ((q.2, u.1.2), u.2)) else none)) (fun z => some ((0 : Int32), ((z.2, u.1.2), vp_updL u.2 (0 : Int32).toNatClampNeg z.1.toInt64))) o
abbrev rmL_pageByte : Room := { frames := 8, cells := 2, slots := 12, locals := 143 }
set_option maxRecDepth 100000 in
set_option maxHeartbeats 4000000 in
theorem kL_pageByte (l : Launch) (hst : l.stackTraces = false) (G : va_G) (cI cS cL : ClassId) (sv : Nat) (gx : Nat → Nat) (og : Nat) (sz B0 : Nat) (u : THS × OutR) (p0 : Int32) (p1 : Int32) (r : Int32 × (THS × OutR)) (hf : fL_pageByte u p0 p1 = some r) : Met l yL_pageByte (.codeWith yL_pageByte cL_pageByte 5 (some .int) [(0, 10, 13, 28)] :: bwL) rmL_pageByte (va_Pc [.ref (gx 0), .int p0, .int p1, .ref og] (PreL G (tysL cI cS cL) (wO cI cS cL sv gx og u) sz B0)) (va_Qi (fun r' u' => (r', u') = r) (PoM G (tysL cI cS cL) (va_A (wO cI cS cL sv gx og u) sz) (wO cI cS cL sv gx og)) (va_A (wO cI cS cL sv gx og u) sz)) 2 12 (va_A (wO cI cS cL sv gx og u) sz) := by
  refine enterW (own := RL) (by decide) rfl (Nat.le_of_ble_eq_true rfl) ?_
  intro p e s m args below meth c A Q hAe hQ S hr hlocks htab hP hK hN hC hD hA hS hX hAB hB ls hl
  rw [hAe] at hQ
  have hx := S.1; have hb := S.2.1; have hml := S.2.2.1; have hown := S.2.2.2.1; have hq := S.2.2.2.2
  have hl : lv_has ls 5 [(0, .ref (gx 0)), (1, .int p0), (2, .int p1), (3, .ref og)] := hl
  have h := hf
  unfold fL_pageByte at h
  refine lv_aload_n hx hb dL_pageByte_0 rfl (lv_at hl 3 rfl) ?_
  refine lv_iconst (v := 0) hx hb dL_pageByte_1 (by decide) ?_
  refine lv_aload_n hx hb dL_pageByte_2 rfl (lv_at hl 0 rfl) ?_
  refine lv_iload_n hx hb dL_pageByte_3 rfl (lv_at hl 1 rfl) ?_
  refine lv_iload_n hx hb dL_pageByte_4 rfl (lv_at hl 2 rfl) ?_
  rcases elr h with ⟨q1, e_q1, h⟩ | ⟨z1, e_z1, h⟩
  · by_cases c0 : q1.1 = 3
    · have h := (if_pos c0).symm.trans h
      refine xcatchI (cc_L_45 sv gx hst S (hK.sub [0, 1] rfl) hN (hP.sub [0, 1, 2, 3, 4, 5, 6, 7, 8, 9, 10, 11, 12] rfl) (hD.sub [0, 1, 2, 3, 4, 5, 6, 7, 8, 9, 10, 11, 12] (by decide) rfl) hS hAB hB hX e_q1 hl.1 (Nat.le_of_ble_eq_true rfl) ⟨(Nat.le_of_ble_eq_true rfl), (Nat.le_of_ble_eq_true rfl)⟩ dL_pageByte_5 ⟨(Nat.le_of_ble_eq_true rfl), (Nat.le_of_ble_eq_true rfl)⟩) hS hP hD hA [0, 1, 2, 3, 4, 5, 6, 7, 8, 9, 10, 11, 12] [13, 14, 15, 16, 17, 18, 19, 20, 21, 22, 23, 24, 25, 26] rfl rfl (by decide) (by decide) [14, 15, 16, 17, 18, 19, 20, 21, 22, 23, 24, 25, 26, 0, 1, 2, 3, 4, 5, 6, 7, 8, 9, 10, 11, 12, 13] (by decide) (wO cI cS cL sv gx og ((q1.2, u.1.2), u.2)) rfl (name := exN 3) (E := exN 3) (by rw [c0]) hown [] ⟨0, 10, 13, 28⟩ [] htab (fun z hz => nomatch hz) (by decide) (by decide) (hq _ ql_14) (va_Nw.use rfl (hX.2.2.2.1 3)) (fun q9 H locs hP hD hS => ?_)
      refine lv_astore (lv' := [(4, .ref q9), (0, .ref (gx 0)), (1, .int p0), (2, .int p1), (3, .ref og)]) hx hb dL_pageByte_13 hl (by decide) rfl (fun ls hl => ?_)
      refine lv_iconst (v := 1) hx hb dL_pageByte_15 (by decide) ?_
      exact retMk hQ S hr hlocks hK hN hP hD hS h (Nat.le_of_ble_eq_true rfl) (Nat.le_of_ble_eq_true rfl) dL_pageByte_16
    have h := (if_neg c0).symm.trans h
    cases h
  · refine xcontI (cc_L_45 sv gx hst S (hK.sub [0, 1] rfl) hN (hP.sub [0, 1, 2, 3, 4, 5, 6, 7, 8, 9, 10, 11, 12] rfl) (hD.sub [0, 1, 2, 3, 4, 5, 6, 7, 8, 9, 10, 11, 12] (by decide) rfl) hS hAB hB hX e_z1 hl.1 (Nat.le_of_ble_eq_true rfl) ⟨(Nat.le_of_ble_eq_true rfl), (Nat.le_of_ble_eq_true rfl)⟩ dL_pageByte_5 ⟨(Nat.le_of_ble_eq_true rfl), (Nat.le_of_ble_eq_true rfl)⟩) hS hP hD hA [0, 1, 2, 3, 4, 5, 6, 7, 8, 9, 10, 11, 12] [13, 14, 15, 16, 17, 18, 19, 20, 21, 22, 23, 24, 25, 26] rfl rfl (by decide) (by decide) [14, 15, 16, 17, 18, 19, 20, 21, 22, 23, 24, 25, 26, 0, 1, 2, 3, 4, 5, 6, 7, 8, 9, 10, 11, 12, 13] (by decide) (wO cI cS cL sv gx og ((z1.2, u.1.2), u.2)) rfl (fun H locs hP hD hS => ?_)
    refine lv_i2l hx hb dL_pageByte_8 rfl ?_
    refine va_last hx hb hK hP hD hS 26 2 rfl rfl (vp_in_of_not (i := 0) (n := 1) (by decide)) dL_pageByte_9 (fun H locs hP hD hS => ?_)
    have hP : va_P G vwCl (wO cI cS cL sv gx og ((z1.2, u.1.2), vp_updL u.2 (0 : Int32).toNatClampNeg z1.1.toInt64)) H := hP
    have hD : va_D A (wO cI cS cL sv gx og ((z1.2, u.1.2), vp_updL u.2 (0 : Int32).toNatClampNeg z1.1.toInt64)) := hD
    refine lv_goto (tgt := 17) hx hb dL_pageByte_10 (by decide) ?_
    refine lv_iconst (v := 0) hx hb dL_pageByte_17 (by decide) ?_
    exact retMk hQ S hr hlocks hK hN hP hD hS h (Nat.le_of_ble_eq_true rfl) (Nat.le_of_ble_eq_true rfl) dL_pageByte_18

theorem cc_L_48 {p : Program} {l : Launch} {e : Env} {R : Room} {s : State} {m : MethodId} {args : Array Value} {below : List Frame} {meth : Method} {c : Code} {H : Heap} {locs : List Loc} {cells slots : Nat} {cc : ByteArray} {pc nL : Nat} {ls : Array Slot} {rest : List Value} {G : va_G} {A : Nat → Prop} {B0 : Nat} (sv : Nat) (gx : Nat → Nat) {cI cS : ClassId} {v : TH} {p0 : Int32} {r : (Nat × (TH)) ⊕ (Int32 × TH)} (hst : l.stackTraces = false) (S : CallFix p m c cc nL s args bwL RL) (hK : va_K G vwCl (tysW cI cS) s) (hN : NW s) (hP : va_P G vwCl (wH cI sv gx v) H) (hD : va_D A (wH cI sv gx v)) (hS : va_S A s.heap H locs) (hAB : ∀ q, A q → B0 ≤ q) (hB : B0 ≤ s.heap.size) (hX : XT B0 s s.heap) (hf : fX4_free v p0 = some r) (hsz : ls.size = nL) (hsk : (rest.map fun v => v.category).sum ≤ 8) (hR : rmX4_free.frames + 1 ≤ R.frames ∧ 8 + (2 + 11) + rmX4_free.locals ≤ R.locals) (hdg : decode cc pc = .ok (.invokevirtual 48, 3)) (hcs : cells + 1 ≤ R.cells ∧ slots + 6 ≤ R.slots) : vx_Run p l e R s m args below meth c H locs cells slots 1 6 (F0 m pc ls (.int p0 :: .ref (gx 0) :: rest)) rest (va_Qi (fun r' u' => r = .inr (r', u')) (PoM G (tysW cI cS) (va_A (wH cI sv gx v) H.size) (wH cI sv gx)) (va_A (wH cI sv gx v) H.size) (#[.ref (gx 0), .int p0] : Array Value)) (XCw G (va_A (wH cI sv gx v) H.size) (wH cI sv gx) r) (va_A (wH cI sv gx v) H.size) :=
  vx_runV (As := [.int p0]) (rest := rest) S (kX4_free l hst G cI cS sv gx H.size B0 v p0 r hf) (cwV 1 S.2.2.2.2 (gdVL ql_43 ql_44 ql_45 (bwL_of q_76) (bwL_of q_318)) rfl rfl rfl (by decide +kernel) hR) (pvX (q := (RX4, TX4, 8)) hK hN hP hD hS hAB hB hX (ci := 4) (q0 := 0) rfl rfl) rfl rfl hsz rfl (lv_room hsk) hdg hcs
def fL_free (u : THS × OutR) (p0 : Int32) : Option (Int32 × (THS × OutR)) := (fX4_free u.1.1 p0).bind fun o => Sum.elim (fun q => (if q.1 = 3 then some ((1 : Int32), ((q.2, u.1.2), u.2)) else none)) (fun z => some ((0 : Int32), ((z.2, u.1.2), vp_updL u.2 (0 : Int32).toNatClampNeg z.1.toInt64))) o
abbrev rmL_free : Room := { frames := 8, cells := 1, slots := 6, locals := 142 }
set_option maxRecDepth 100000 in
set_option maxHeartbeats 4000000 in
theorem kL_free (l : Launch) (hst : l.stackTraces = false) (G : va_G) (cI cS cL : ClassId) (sv : Nat) (gx : Nat → Nat) (og : Nat) (sz B0 : Nat) (u : THS × OutR) (p0 : Int32) (r : Int32 × (THS × OutR)) (hf : fL_free u p0 = some r) : Met l yL_free (.codeWith yL_free cL_free 4 (some .int) [(0, 9, 12, 28)] :: bwL) rmL_free (va_Pc [.ref (gx 0), .int p0, .ref og] (PreL G (tysL cI cS cL) (wO cI cS cL sv gx og u) sz B0)) (va_Qi (fun r' u' => (r', u') = r) (PoM G (tysL cI cS cL) (va_A (wO cI cS cL sv gx og u) sz) (wO cI cS cL sv gx og)) (va_A (wO cI cS cL sv gx og u) sz)) 1 6 (va_A (wO cI cS cL sv gx og u) sz) := by
  refine enterW (own := RL) (by decide) rfl (Nat.le_of_ble_eq_true rfl) ?_
  intro p e s m args below meth c A Q hAe hQ S hr hlocks htab hP hK hN hC hD hA hS hX hAB hB ls hl
  rw [hAe] at hQ
  have hx := S.1; have hb := S.2.1; have hml := S.2.2.1; have hown := S.2.2.2.1; have hq := S.2.2.2.2
  have hl : lv_has ls 4 [(0, .ref (gx 0)), (1, .int p0), (2, .ref og)] := hl
  have h := hf
  unfold fL_free at h
  refine lv_aload_n hx hb dL_free_0 rfl (lv_at hl 2 rfl) ?_
  refine lv_iconst (v := 0) hx hb dL_free_1 (by decide) ?_
  refine lv_aload_n hx hb dL_free_2 rfl (lv_at hl 0 rfl) ?_
  refine lv_iload_n hx hb dL_free_3 rfl (lv_at hl 1 rfl) ?_
  rcases elr h with ⟨q1, e_q1, h⟩ | ⟨z1, e_z1, h⟩
  · by_cases c0 : q1.1 = 3
    · have h := (if_pos c0).symm.trans h
      refine xcatchI (cc_L_48 sv gx hst S (hK.sub [0, 1] rfl) hN (hP.sub [0, 1, 2, 3, 4, 5, 6, 7, 8, 9, 10, 11, 12] rfl) (hD.sub [0, 1, 2, 3, 4, 5, 6, 7, 8, 9, 10, 11, 12] (by decide) rfl) hS hAB hB hX e_q1 hl.1 (Nat.le_of_ble_eq_true rfl) ⟨(Nat.le_of_ble_eq_true rfl), (Nat.le_of_ble_eq_true rfl)⟩ dL_free_4 ⟨(Nat.le_of_ble_eq_true rfl), (Nat.le_of_ble_eq_true rfl)⟩) hS hP hD hA [0, 1, 2, 3, 4, 5, 6, 7, 8, 9, 10, 11, 12] [13, 14, 15, 16, 17, 18, 19, 20, 21, 22, 23, 24, 25, 26] rfl rfl (by decide) (by decide) [14, 15, 16, 17, 18, 19, 20, 21, 22, 23, 24, 25, 26, 0, 1, 2, 3, 4, 5, 6, 7, 8, 9, 10, 11, 12, 13] (by decide) (wO cI cS cL sv gx og ((q1.2, u.1.2), u.2)) rfl (name := exN 3) (E := exN 3) (by rw [c0]) hown [] ⟨0, 9, 12, 28⟩ [] htab (fun z hz => nomatch hz) (by decide) (by decide) (hq _ ql_14) (va_Nw.use rfl (hX.2.2.2.1 3)) (fun q9 H locs hP hD hS => ?_)
      refine lv_astore_n (lv' := [(3, .ref q9), (0, .ref (gx 0)), (1, .int p0), (2, .ref og)]) hx hb dL_free_12 rfl hl (by decide) rfl (fun ls hl => ?_)
      refine lv_iconst (v := 1) hx hb dL_free_13 (by decide) ?_
      exact retMk hQ S hr hlocks hK hN hP hD hS h (Nat.le_of_ble_eq_true rfl) (Nat.le_of_ble_eq_true rfl) dL_free_14
    have h := (if_neg c0).symm.trans h
    cases h
  · refine xcontI (cc_L_48 sv gx hst S (hK.sub [0, 1] rfl) hN (hP.sub [0, 1, 2, 3, 4, 5, 6, 7, 8, 9, 10, 11, 12] rfl) (hD.sub [0, 1, 2, 3, 4, 5, 6, 7, 8, 9, 10, 11, 12] (by decide) rfl) hS hAB hB hX e_z1 hl.1 (Nat.le_of_ble_eq_true rfl) ⟨(Nat.le_of_ble_eq_true rfl), (Nat.le_of_ble_eq_true rfl)⟩ dL_free_4 ⟨(Nat.le_of_ble_eq_true rfl), (Nat.le_of_ble_eq_true rfl)⟩) hS hP hD hA [0, 1, 2, 3, 4, 5, 6, 7, 8, 9, 10, 11, 12] [13, 14, 15, 16, 17, 18, 19, 20, 21, 22, 23, 24, 25, 26] rfl rfl (by decide) (by decide) [14, 15, 16, 17, 18, 19, 20, 21, 22, 23, 24, 25, 26, 0, 1, 2, 3, 4, 5, 6, 7, 8, 9, 10, 11, 12, 13] (by decide) (wO cI cS cL sv gx og ((z1.2, u.1.2), u.2)) rfl (fun H locs hP hD hS => ?_)
    refine lv_i2l hx hb dL_free_7 rfl ?_
    refine va_last hx hb hK hP hD hS 26 2 rfl rfl (vp_in_of_not (i := 0) (n := 1) (by decide)) dL_free_8 (fun H locs hP hD hS => ?_)
    have hP : va_P G vwCl (wO cI cS cL sv gx og ((z1.2, u.1.2), vp_updL u.2 (0 : Int32).toNatClampNeg z1.1.toInt64)) H := hP
    have hD : va_D A (wO cI cS cL sv gx og ((z1.2, u.1.2), vp_updL u.2 (0 : Int32).toNatClampNeg z1.1.toInt64)) := hD
    refine lv_goto (tgt := 15) hx hb dL_free_9 (by decide) ?_
    refine lv_iconst (v := 0) hx hb dL_free_15 (by decide) ?_
    exact retMk hQ S hr hlocks hK hN hP hD hS h (Nat.le_of_ble_eq_true rfl) (Nat.le_of_ble_eq_true rfl) dL_free_16

theorem cc_L_51 {p : Program} {l : Launch} {e : Env} {R : Room} {s : State} {m : MethodId} {args : Array Value} {below : List Frame} {meth : Method} {c : Code} {H : Heap} {locs : List Loc} {cells slots : Nat} {cc : ByteArray} {pc nL : Nat} {ls : Array Slot} {rest : List Value} {G : va_G} {A : Nat → Prop} {B0 : Nat} (sv : Nat) (gx : Nat → Nat) {cI cS : ClassId} {v : TH} {p0 : Int32} {r : (Nat × (TH)) ⊕ (Int32 × TH)} (hst : l.stackTraces = false) (S : CallFix p m c cc nL s args bwL RL) (hK : va_K G vwCl (tysW cI cS) s) (hN : NW s) (hP : va_P G vwCl (wH cI sv gx v) H) (hD : va_D A (wH cI sv gx v)) (hS : va_S A s.heap H locs) (hAB : ∀ q, A q → B0 ≤ q) (hB : B0 ≤ s.heap.size) (hX : XT B0 s s.heap) (hf : fX4_gap v p0 = some r) (hsz : ls.size = nL) (hsk : (rest.map fun v => v.category).sum ≤ 8) (hR : rmX4_gap.frames + 1 ≤ R.frames ∧ 8 + (2 + 11) + rmX4_gap.locals ≤ R.locals) (hdg : decode cc pc = .ok (.invokevirtual 51, 3)) (hcs : cells + 1 ≤ R.cells ∧ slots + 6 ≤ R.slots) : vx_Run p l e R s m args below meth c H locs cells slots 1 6 (F0 m pc ls (.int p0 :: .ref (gx 0) :: rest)) rest (va_Qi (fun r' u' => r = .inr (r', u')) (PoM G (tysW cI cS) (va_A (wH cI sv gx v) H.size) (wH cI sv gx)) (va_A (wH cI sv gx v) H.size) (#[.ref (gx 0), .int p0] : Array Value)) (XCw G (va_A (wH cI sv gx v) H.size) (wH cI sv gx) r) (va_A (wH cI sv gx v) H.size) :=
  vx_runV (As := [.int p0]) (rest := rest) S (kX4_gap l hst G cI cS sv gx H.size B0 v p0 r hf) (cwV 1 S.2.2.2.2 (gdVL ql_47 ql_48 ql_49 (bwL_of q_76) (bwL_of q_319)) rfl rfl rfl (by decide +kernel) hR) (pvX (q := (RX4, TX4, 8)) hK hN hP hD hS hAB hB hX (ci := 4) (q0 := 0) rfl rfl) rfl rfl hsz rfl (lv_room hsk) hdg hcs
def fL_gap (u : THS × OutR) (p0 : Int32) : Option (Int32 × (THS × OutR)) := (fX4_gap u.1.1 p0).bind fun o => Sum.elim (fun q => (if q.1 = 3 then some ((1 : Int32), ((q.2, u.1.2), u.2)) else none)) (fun z => some ((0 : Int32), ((z.2, u.1.2), vp_updL u.2 (0 : Int32).toNatClampNeg z.1.toInt64))) o
abbrev rmL_gap : Room := { frames := 8, cells := 1, slots := 6, locals := 142 }
set_option maxRecDepth 100000 in
set_option maxHeartbeats 4000000 in
theorem kL_gap (l : Launch) (hst : l.stackTraces = false) (G : va_G) (cI cS cL : ClassId) (sv : Nat) (gx : Nat → Nat) (og : Nat) (sz B0 : Nat) (u : THS × OutR) (p0 : Int32) (r : Int32 × (THS × OutR)) (hf : fL_gap u p0 = some r) : Met l yL_gap (.codeWith yL_gap cL_gap 4 (some .int) [(0, 9, 12, 28)] :: bwL) rmL_gap (va_Pc [.ref (gx 0), .int p0, .ref og] (PreL G (tysL cI cS cL) (wO cI cS cL sv gx og u) sz B0)) (va_Qi (fun r' u' => (r', u') = r) (PoM G (tysL cI cS cL) (va_A (wO cI cS cL sv gx og u) sz) (wO cI cS cL sv gx og)) (va_A (wO cI cS cL sv gx og u) sz)) 1 6 (va_A (wO cI cS cL sv gx og u) sz) := by
  refine enterW (own := RL) (by decide) rfl (Nat.le_of_ble_eq_true rfl) ?_
  intro p e s m args below meth c A Q hAe hQ S hr hlocks htab hP hK hN hC hD hA hS hX hAB hB ls hl
  rw [hAe] at hQ
  have hx := S.1; have hb := S.2.1; have hml := S.2.2.1; have hown := S.2.2.2.1; have hq := S.2.2.2.2
  have hl : lv_has ls 4 [(0, .ref (gx 0)), (1, .int p0), (2, .ref og)] := hl
  have h := hf
  unfold fL_gap at h
  refine lv_aload_n hx hb dL_gap_0 rfl (lv_at hl 2 rfl) ?_
  refine lv_iconst (v := 0) hx hb dL_gap_1 (by decide) ?_
  refine lv_aload_n hx hb dL_gap_2 rfl (lv_at hl 0 rfl) ?_
  refine lv_iload_n hx hb dL_gap_3 rfl (lv_at hl 1 rfl) ?_
  rcases elr h with ⟨q1, e_q1, h⟩ | ⟨z1, e_z1, h⟩
  · by_cases c0 : q1.1 = 3
    · have h := (if_pos c0).symm.trans h
      refine xcatchI (cc_L_51 sv gx hst S (hK.sub [0, 1] rfl) hN (hP.sub [0, 1, 2, 3, 4, 5, 6, 7, 8, 9, 10, 11, 12] rfl) (hD.sub [0, 1, 2, 3, 4, 5, 6, 7, 8, 9, 10, 11, 12] (by decide) rfl) hS hAB hB hX e_q1 hl.1 (Nat.le_of_ble_eq_true rfl) ⟨(Nat.le_of_ble_eq_true rfl), (Nat.le_of_ble_eq_true rfl)⟩ dL_gap_4 ⟨(Nat.le_of_ble_eq_true rfl), (Nat.le_of_ble_eq_true rfl)⟩) hS hP hD hA [0, 1, 2, 3, 4, 5, 6, 7, 8, 9, 10, 11, 12] [13, 14, 15, 16, 17, 18, 19, 20, 21, 22, 23, 24, 25, 26] rfl rfl (by decide) (by decide) [14, 15, 16, 17, 18, 19, 20, 21, 22, 23, 24, 25, 26, 0, 1, 2, 3, 4, 5, 6, 7, 8, 9, 10, 11, 12, 13] (by decide) (wO cI cS cL sv gx og ((q1.2, u.1.2), u.2)) rfl (name := exN 3) (E := exN 3) (by rw [c0]) hown [] ⟨0, 9, 12, 28⟩ [] htab (fun z hz => nomatch hz) (by decide) (by decide) (hq _ ql_14) (va_Nw.use rfl (hX.2.2.2.1 3)) (fun q9 H locs hP hD hS => ?_)
      refine lv_astore_n (lv' := [(3, .ref q9), (0, .ref (gx 0)), (1, .int p0), (2, .ref og)]) hx hb dL_gap_12 rfl hl (by decide) rfl (fun ls hl => ?_)
      refine lv_iconst (v := 1) hx hb dL_gap_13 (by decide) ?_
      exact retMk hQ S hr hlocks hK hN hP hD hS h (Nat.le_of_ble_eq_true rfl) (Nat.le_of_ble_eq_true rfl) dL_gap_14
    have h := (if_neg c0).symm.trans h
    cases h
  · refine xcontI (cc_L_51 sv gx hst S (hK.sub [0, 1] rfl) hN (hP.sub [0, 1, 2, 3, 4, 5, 6, 7, 8, 9, 10, 11, 12] rfl) (hD.sub [0, 1, 2, 3, 4, 5, 6, 7, 8, 9, 10, 11, 12] (by decide) rfl) hS hAB hB hX e_z1 hl.1 (Nat.le_of_ble_eq_true rfl) ⟨(Nat.le_of_ble_eq_true rfl), (Nat.le_of_ble_eq_true rfl)⟩ dL_gap_4 ⟨(Nat.le_of_ble_eq_true rfl), (Nat.le_of_ble_eq_true rfl)⟩) hS hP hD hA [0, 1, 2, 3, 4, 5, 6, 7, 8, 9, 10, 11, 12] [13, 14, 15, 16, 17, 18, 19, 20, 21, 22, 23, 24, 25, 26] rfl rfl (by decide) (by decide) [14, 15, 16, 17, 18, 19, 20, 21, 22, 23, 24, 25, 26, 0, 1, 2, 3, 4, 5, 6, 7, 8, 9, 10, 11, 12, 13] (by decide) (wO cI cS cL sv gx og ((z1.2, u.1.2), u.2)) rfl (fun H locs hP hD hS => ?_)
    refine lv_i2l hx hb dL_gap_7 rfl ?_
    refine va_last hx hb hK hP hD hS 26 2 rfl rfl (vp_in_of_not (i := 0) (n := 1) (by decide)) dL_gap_8 (fun H locs hP hD hS => ?_)
    have hP : va_P G vwCl (wO cI cS cL sv gx og ((z1.2, u.1.2), vp_updL u.2 (0 : Int32).toNatClampNeg z1.1.toInt64)) H := hP
    have hD : va_D A (wO cI cS cL sv gx og ((z1.2, u.1.2), vp_updL u.2 (0 : Int32).toNatClampNeg z1.1.toInt64)) := hD
    refine lv_goto (tgt := 15) hx hb dL_gap_9 (by decide) ?_
    refine lv_iconst (v := 0) hx hb dL_gap_15 (by decide) ?_
    exact retMk hQ S hr hlocks hK hN hP hD hS h (Nat.le_of_ble_eq_true rfl) (Nat.le_of_ble_eq_true rfl) dL_gap_16

theorem cc_L_54 {p : Program} {l : Launch} {e : Env} {R : Room} {s : State} {m : MethodId} {args : Array Value} {below : List Frame} {meth : Method} {c : Code} {H : Heap} {locs : List Loc} {cells slots : Nat} {cc : ByteArray} {pc nL : Nat} {ls : Array Slot} {rest : List Value} {G : va_G} {A : Nat → Prop} {B0 : Nat} (sv : Nat) (gx : Nat → Nat) {cI cS : ClassId} {v : TH} {p0 : Int32} {r : (Nat × (TH)) ⊕ (Int32 × TH)} (hst : l.stackTraces = false) (S : CallFix p m c cc nL s args bwL RL) (hK : va_K G vwCl (tysW cI cS) s) (hN : NW s) (hP : va_P G vwCl (wH cI sv gx v) H) (hD : va_D A (wH cI sv gx v)) (hS : va_S A s.heap H locs) (hAB : ∀ q, A q → B0 ≤ q) (hB : B0 ≤ s.heap.size) (hX : XT B0 s s.heap) (hf : fX4_ifInserted v p0 = some r) (hsz : ls.size = nL) (hsk : (rest.map fun v => v.category).sum ≤ 8) (hR : rmX4_ifInserted.frames + 1 ≤ R.frames ∧ 8 + (3 + 11) + rmX4_ifInserted.locals ≤ R.locals) (hdg : decode cc pc = .ok (.invokevirtual 54, 3)) (hcs : cells + 1 ≤ R.cells ∧ slots + 6 ≤ R.slots) : vx_Run p l e R s m args below meth c H locs cells slots 1 6 (F0 m pc ls (.int p0 :: .ref (gx 0) :: rest)) rest (va_Qi (fun r' u' => r = .inr (r', u')) (PoM G (tysW cI cS) (va_A (wH cI sv gx v) H.size) (wH cI sv gx)) (va_A (wH cI sv gx v) H.size) (#[.ref (gx 0), .int p0] : Array Value)) (XCw G (va_A (wH cI sv gx v) H.size) (wH cI sv gx) r) (va_A (wH cI sv gx v) H.size) :=
  vx_runV (As := [.int p0]) (rest := rest) S (kX4_ifInserted l hst G cI cS sv gx H.size B0 v p0 r hf) (cwV 1 S.2.2.2.2 (gdVL ql_51 ql_52 ql_53 (bwL_of q_76) (bwL_of q_330)) rfl rfl rfl (by decide +kernel) hR) (pvX (q := (RX4, TX4, 8)) hK hN hP hD hS hAB hB hX (ci := 4) (q0 := 0) rfl rfl) rfl rfl hsz rfl (lv_room hsk) hdg hcs
def fL_ifInserted (u : THS × OutR) (p0 : Int32) : Option (Int32 × (THS × OutR)) := (fX4_ifInserted u.1.1 p0).bind fun o => Sum.elim (fun q => (if q.1 = 1 then some ((1 : Int32), ((q.2, u.1.2), u.2)) else none)) (fun z => some ((0 : Int32), ((z.2, u.1.2), vp_updL u.2 (0 : Int32).toNatClampNeg z.1.toInt64))) o
abbrev rmL_ifInserted : Room := { frames := 8, cells := 1, slots := 6, locals := 142 }
set_option maxRecDepth 100000 in
set_option maxHeartbeats 4000000 in
theorem kL_ifInserted (l : Launch) (hst : l.stackTraces = false) (G : va_G) (cI cS cL : ClassId) (sv : Nat) (gx : Nat → Nat) (og : Nat) (sz B0 : Nat) (u : THS × OutR) (p0 : Int32) (r : Int32 × (THS × OutR)) (hf : fL_ifInserted u p0 = some r) : Met l yL_ifInserted (.codeWith yL_ifInserted cL_ifInserted 4 (some .int) [(0, 9, 12, 13)] :: bwL) rmL_ifInserted (va_Pc [.ref (gx 0), .int p0, .ref og] (PreL G (tysL cI cS cL) (wO cI cS cL sv gx og u) sz B0)) (va_Qi (fun r' u' => (r', u') = r) (PoM G (tysL cI cS cL) (va_A (wO cI cS cL sv gx og u) sz) (wO cI cS cL sv gx og)) (va_A (wO cI cS cL sv gx og u) sz)) 1 6 (va_A (wO cI cS cL sv gx og u) sz) := by
  refine enterW (own := RL) (by decide) rfl (Nat.le_of_ble_eq_true rfl) ?_
  intro p e s m args below meth c A Q hAe hQ S hr hlocks htab hP hK hN hC hD hA hS hX hAB hB ls hl
  rw [hAe] at hQ
  have hx := S.1; have hb := S.2.1; have hml := S.2.2.1; have hown := S.2.2.2.1; have hq := S.2.2.2.2
  have hl : lv_has ls 4 [(0, .ref (gx 0)), (1, .int p0), (2, .ref og)] := hl
  have h := hf
  unfold fL_ifInserted at h
  refine lv_aload_n hx hb dL_ifInserted_0 rfl (lv_at hl 2 rfl) ?_
  refine lv_iconst (v := 0) hx hb dL_ifInserted_1 (by decide) ?_
  refine lv_aload_n hx hb dL_ifInserted_2 rfl (lv_at hl 0 rfl) ?_
  refine lv_iload_n hx hb dL_ifInserted_3 rfl (lv_at hl 1 rfl) ?_
  rcases elr h with ⟨q1, e_q1, h⟩ | ⟨z1, e_z1, h⟩
  · by_cases c0 : q1.1 = 1
    · have h := (if_pos c0).symm.trans h
      refine xcatchI (cc_L_54 sv gx hst S (hK.sub [0, 1] rfl) hN (hP.sub [0, 1, 2, 3, 4, 5, 6, 7, 8, 9, 10, 11, 12] rfl) (hD.sub [0, 1, 2, 3, 4, 5, 6, 7, 8, 9, 10, 11, 12] (by decide) rfl) hS hAB hB hX e_q1 hl.1 (Nat.le_of_ble_eq_true rfl) ⟨(Nat.le_of_ble_eq_true rfl), (Nat.le_of_ble_eq_true rfl)⟩ dL_ifInserted_4 ⟨(Nat.le_of_ble_eq_true rfl), (Nat.le_of_ble_eq_true rfl)⟩) hS hP hD hA [0, 1, 2, 3, 4, 5, 6, 7, 8, 9, 10, 11, 12] [13, 14, 15, 16, 17, 18, 19, 20, 21, 22, 23, 24, 25, 26] rfl rfl (by decide) (by decide) [14, 15, 16, 17, 18, 19, 20, 21, 22, 23, 24, 25, 26, 0, 1, 2, 3, 4, 5, 6, 7, 8, 9, 10, 11, 12, 13] (by decide) (wO cI cS cL sv gx og ((q1.2, u.1.2), u.2)) rfl (name := exN 1) (E := exN 1) (by rw [c0]) hown [] ⟨0, 9, 12, 13⟩ [] htab (fun z hz => nomatch hz) (by decide) (by decide) (hq _ ql_1) (va_Nw.use rfl (hX.2.2.2.1 1)) (fun q9 H locs hP hD hS => ?_)
      refine lv_astore_n (lv' := [(3, .ref q9), (0, .ref (gx 0)), (1, .int p0), (2, .ref og)]) hx hb dL_ifInserted_12 rfl hl (by decide) rfl (fun ls hl => ?_)
      refine lv_iconst (v := 1) hx hb dL_ifInserted_13 (by decide) ?_
      exact retMk hQ S hr hlocks hK hN hP hD hS h (Nat.le_of_ble_eq_true rfl) (Nat.le_of_ble_eq_true rfl) dL_ifInserted_14
    have h := (if_neg c0).symm.trans h
    cases h
  · refine xcontI (cc_L_54 sv gx hst S (hK.sub [0, 1] rfl) hN (hP.sub [0, 1, 2, 3, 4, 5, 6, 7, 8, 9, 10, 11, 12] rfl) (hD.sub [0, 1, 2, 3, 4, 5, 6, 7, 8, 9, 10, 11, 12] (by decide) rfl) hS hAB hB hX e_z1 hl.1 (Nat.le_of_ble_eq_true rfl) ⟨(Nat.le_of_ble_eq_true rfl), (Nat.le_of_ble_eq_true rfl)⟩ dL_ifInserted_4 ⟨(Nat.le_of_ble_eq_true rfl), (Nat.le_of_ble_eq_true rfl)⟩) hS hP hD hA [0, 1, 2, 3, 4, 5, 6, 7, 8, 9, 10, 11, 12] [13, 14, 15, 16, 17, 18, 19, 20, 21, 22, 23, 24, 25, 26] rfl rfl (by decide) (by decide) [14, 15, 16, 17, 18, 19, 20, 21, 22, 23, 24, 25, 26, 0, 1, 2, 3, 4, 5, 6, 7, 8, 9, 10, 11, 12, 13] (by decide) (wO cI cS cL sv gx og ((z1.2, u.1.2), u.2)) rfl (fun H locs hP hD hS => ?_)
    refine lv_i2l hx hb dL_ifInserted_7 rfl ?_
    refine va_last hx hb hK hP hD hS 26 2 rfl rfl (vp_in_of_not (i := 0) (n := 1) (by decide)) dL_ifInserted_8 (fun H locs hP hD hS => ?_)
    have hP : va_P G vwCl (wO cI cS cL sv gx og ((z1.2, u.1.2), vp_updL u.2 (0 : Int32).toNatClampNeg z1.1.toInt64)) H := hP
    have hD : va_D A (wO cI cS cL sv gx og ((z1.2, u.1.2), vp_updL u.2 (0 : Int32).toNatClampNeg z1.1.toInt64)) := hD
    refine lv_goto (tgt := 15) hx hb dL_ifInserted_9 (by decide) ?_
    refine lv_iconst (v := 0) hx hb dL_ifInserted_15 (by decide) ?_
    exact retMk hQ S hr hlocks hK hN hP hD hS h (Nat.le_of_ble_eq_true rfl) (Nat.le_of_ble_eq_true rfl) dL_ifInserted_16

theorem cc_L_57 {p : Program} {l : Launch} {e : Env} {R : Room} {s : State} {m : MethodId} {args : Array Value} {below : List Frame} {meth : Method} {c : Code} {H : Heap} {locs : List Loc} {cells slots : Nat} {cc : ByteArray} {pc nL : Nat} {ls : Array Slot} {rest : List Value} {G : va_G} {A : Nat → Prop} {B0 : Nat} (sv : Nat) (gx : Nat → Nat) {cI cS : ClassId} {v : TH} {p0 : Int32} {p1 : Int32} {r : (Nat × (TH)) ⊕ (Int32 × TH)} (hst : l.stackTraces = false) (S : CallFix p m c cc nL s args bwL RL) (hK : va_K G vwCl (tysW cI cS) s) (hN : NW s) (hP : va_P G vwCl (wH cI sv gx v) H) (hD : va_D A (wH cI sv gx v)) (hS : va_S A s.heap H locs) (hAB : ∀ q, A q → B0 ≤ q) (hB : B0 ≤ s.heap.size) (hX : XT B0 s s.heap) (hf : fX4_ifUpdated v p0 p1 = some r) (hsz : ls.size = nL) (hsk : (rest.map fun v => v.category).sum ≤ 8) (hR : rmX4_ifUpdated.frames + 1 ≤ R.frames ∧ 8 + (3 + 11) + rmX4_ifUpdated.locals ≤ R.locals) (hdg : decode cc pc = .ok (.invokevirtual 57, 3)) (hcs : cells + 2 ≤ R.cells ∧ slots + 12 ≤ R.slots) : vx_Run p l e R s m args below meth c H locs cells slots 2 12 (F0 m pc ls (.int p1 :: .int p0 :: .ref (gx 0) :: rest)) rest (va_Qi (fun r' u' => r = .inr (r', u')) (PoM G (tysW cI cS) (va_A (wH cI sv gx v) H.size) (wH cI sv gx)) (va_A (wH cI sv gx v) H.size) (#[.ref (gx 0), .int p0, .int p1] : Array Value)) (XCw G (va_A (wH cI sv gx v) H.size) (wH cI sv gx) r) (va_A (wH cI sv gx v) H.size) :=
  vx_runV (As := [.int p0, .int p1]) (rest := rest) S (kX4_ifUpdated l hst G cI cS sv gx H.size B0 v p0 p1 r hf) (cwV 2 S.2.2.2.2 (gdVL ql_55 ql_56 ql_57 (bwL_of q_76) (bwL_of q_331)) rfl rfl rfl (by decide +kernel) hR) (pvX (q := (RX4, TX4, 8)) hK hN hP hD hS hAB hB hX (ci := 4) (q0 := 0) rfl rfl) rfl rfl hsz rfl (lv_room hsk) hdg hcs
def fL_ifUpdated (u : THS × OutR) (p0 : Int32) (p1 : Int32) : Option (Int32 × (THS × OutR)) := (fX4_ifUpdated u.1.1 p0 p1).bind fun o => Sum.elim (fun q => (if q.1 = 3 then some ((1 : Int32), ((q.2, u.1.2), u.2)) else (if q.1 = 1 then some ((2 : Int32), ((q.2, u.1.2), u.2)) else none))) (fun z => some ((0 : Int32), ((z.2, u.1.2), vp_updL u.2 (0 : Int32).toNatClampNeg z.1.toInt64))) o
abbrev rmL_ifUpdated : Room := { frames := 8, cells := 2, slots := 12, locals := 143 }
set_option maxRecDepth 100000 in
set_option maxHeartbeats 4000000 in
theorem kL_ifUpdated (l : Launch) (hst : l.stackTraces = false) (G : va_G) (cI cS cL : ClassId) (sv : Nat) (gx : Nat → Nat) (og : Nat) (sz B0 : Nat) (u : THS × OutR) (p0 : Int32) (p1 : Int32) (r : Int32 × (THS × OutR)) (hf : fL_ifUpdated u p0 p1 = some r) : Met l yL_ifUpdated (.codeWith yL_ifUpdated cL_ifUpdated 5 (some .int) [(0, 10, 13, 28), (0, 10, 17, 13)] :: bwL) rmL_ifUpdated (va_Pc [.ref (gx 0), .int p0, .int p1, .ref og] (PreL G (tysL cI cS cL) (wO cI cS cL sv gx og u) sz B0)) (va_Qi (fun r' u' => (r', u') = r) (PoM G (tysL cI cS cL) (va_A (wO cI cS cL sv gx og u) sz) (wO cI cS cL sv gx og)) (va_A (wO cI cS cL sv gx og u) sz)) 2 12 (va_A (wO cI cS cL sv gx og u) sz) := by
  refine enterW (own := RL) (by decide) rfl (Nat.le_of_ble_eq_true rfl) ?_
  intro p e s m args below meth c A Q hAe hQ S hr hlocks htab hP hK hN hC hD hA hS hX hAB hB ls hl
  rw [hAe] at hQ
  have hx := S.1; have hb := S.2.1; have hml := S.2.2.1; have hown := S.2.2.2.1; have hq := S.2.2.2.2
  have hl : lv_has ls 5 [(0, .ref (gx 0)), (1, .int p0), (2, .int p1), (3, .ref og)] := hl
  have h := hf
  unfold fL_ifUpdated at h
  refine lv_aload_n hx hb dL_ifUpdated_0 rfl (lv_at hl 3 rfl) ?_
  refine lv_iconst (v := 0) hx hb dL_ifUpdated_1 (by decide) ?_
  refine lv_aload_n hx hb dL_ifUpdated_2 rfl (lv_at hl 0 rfl) ?_
  refine lv_iload_n hx hb dL_ifUpdated_3 rfl (lv_at hl 1 rfl) ?_
  refine lv_iload_n hx hb dL_ifUpdated_4 rfl (lv_at hl 2 rfl) ?_
  rcases elr h with ⟨q1, e_q1, h⟩ | ⟨z1, e_z1, h⟩
  · by_cases c0 : q1.1 = 3
    · have h := (if_pos c0).symm.trans h
      refine xcatchI (cc_L_57 sv gx hst S (hK.sub [0, 1] rfl) hN (hP.sub [0, 1, 2, 3, 4, 5, 6, 7, 8, 9, 10, 11, 12] rfl) (hD.sub [0, 1, 2, 3, 4, 5, 6, 7, 8, 9, 10, 11, 12] (by decide) rfl) hS hAB hB hX e_q1 hl.1 (Nat.le_of_ble_eq_true rfl) ⟨(Nat.le_of_ble_eq_true rfl), (Nat.le_of_ble_eq_true rfl)⟩ dL_ifUpdated_5 ⟨(Nat.le_of_ble_eq_true rfl), (Nat.le_of_ble_eq_true rfl)⟩) hS hP hD hA [0, 1, 2, 3, 4, 5, 6, 7, 8, 9, 10, 11, 12] [13, 14, 15, 16, 17, 18, 19, 20, 21, 22, 23, 24, 25, 26] rfl rfl (by decide) (by decide) [14, 15, 16, 17, 18, 19, 20, 21, 22, 23, 24, 25, 26, 0, 1, 2, 3, 4, 5, 6, 7, 8, 9, 10, 11, 12, 13] (by decide) (wO cI cS cL sv gx og ((q1.2, u.1.2), u.2)) rfl (name := exN 3) (E := exN 3) (by rw [c0]) hown [] ⟨0, 10, 13, 28⟩ [⟨0, 10, 17, 13⟩] htab (fun z hz => nomatch hz) (by decide) (by decide) (hq _ ql_14) (va_Nw.use rfl (hX.2.2.2.1 3)) (fun q9 H locs hP hD hS => ?_)
      refine lv_astore (lv' := [(4, .ref q9), (0, .ref (gx 0)), (1, .int p0), (2, .int p1), (3, .ref og)]) hx hb dL_ifUpdated_13 hl (by decide) rfl (fun ls hl => ?_)
      refine lv_iconst (v := 1) hx hb dL_ifUpdated_15 (by decide) ?_
      exact retMk hQ S hr hlocks hK hN hP hD hS h (Nat.le_of_ble_eq_true rfl) (Nat.le_of_ble_eq_true rfl) dL_ifUpdated_16
    have h := (if_neg c0).symm.trans h
    by_cases c1 : q1.1 = 1
    · have h := (if_pos c1).symm.trans h
      refine xcatchI (cc_L_57 sv gx hst S (hK.sub [0, 1] rfl) hN (hP.sub [0, 1, 2, 3, 4, 5, 6, 7, 8, 9, 10, 11, 12] rfl) (hD.sub [0, 1, 2, 3, 4, 5, 6, 7, 8, 9, 10, 11, 12] (by decide) rfl) hS hAB hB hX e_q1 hl.1 (Nat.le_of_ble_eq_true rfl) ⟨(Nat.le_of_ble_eq_true rfl), (Nat.le_of_ble_eq_true rfl)⟩ dL_ifUpdated_5 ⟨(Nat.le_of_ble_eq_true rfl), (Nat.le_of_ble_eq_true rfl)⟩) hS hP hD hA [0, 1, 2, 3, 4, 5, 6, 7, 8, 9, 10, 11, 12] [13, 14, 15, 16, 17, 18, 19, 20, 21, 22, 23, 24, 25, 26] rfl rfl (by decide) (by decide) [14, 15, 16, 17, 18, 19, 20, 21, 22, 23, 24, 25, 26, 0, 1, 2, 3, 4, 5, 6, 7, 8, 9, 10, 11, 12, 13] (by decide) (wO cI cS cL sv gx og ((q1.2, u.1.2), u.2)) rfl (name := exN 1) (E := exN 1) (by rw [c1]) hown [⟨0, 10, 13, 28⟩] ⟨0, 10, 17, 13⟩ [] htab (fun z hz => Or.inr (by cases List.mem_singleton.mp hz; exact ⟨by decide, exN 3, hq _ ql_14, hC.2.2⟩)) (by decide) (by decide) (hq _ ql_1) (va_Nw.use rfl (hX.2.2.2.1 1)) (fun q9 H locs hP hD hS => ?_)
      refine lv_astore (lv' := [(4, .ref q9), (0, .ref (gx 0)), (1, .int p0), (2, .int p1), (3, .ref og)]) hx hb dL_ifUpdated_17 hl (by decide) rfl (fun ls hl => ?_)
      refine lv_iconst (v := 2) hx hb dL_ifUpdated_19 (by decide) ?_
      exact retMk hQ S hr hlocks hK hN hP hD hS h (Nat.le_of_ble_eq_true rfl) (Nat.le_of_ble_eq_true rfl) dL_ifUpdated_20
    have h := (if_neg c1).symm.trans h
    cases h
  · refine xcontI (cc_L_57 sv gx hst S (hK.sub [0, 1] rfl) hN (hP.sub [0, 1, 2, 3, 4, 5, 6, 7, 8, 9, 10, 11, 12] rfl) (hD.sub [0, 1, 2, 3, 4, 5, 6, 7, 8, 9, 10, 11, 12] (by decide) rfl) hS hAB hB hX e_z1 hl.1 (Nat.le_of_ble_eq_true rfl) ⟨(Nat.le_of_ble_eq_true rfl), (Nat.le_of_ble_eq_true rfl)⟩ dL_ifUpdated_5 ⟨(Nat.le_of_ble_eq_true rfl), (Nat.le_of_ble_eq_true rfl)⟩) hS hP hD hA [0, 1, 2, 3, 4, 5, 6, 7, 8, 9, 10, 11, 12] [13, 14, 15, 16, 17, 18, 19, 20, 21, 22, 23, 24, 25, 26] rfl rfl (by decide) (by decide) [14, 15, 16, 17, 18, 19, 20, 21, 22, 23, 24, 25, 26, 0, 1, 2, 3, 4, 5, 6, 7, 8, 9, 10, 11, 12, 13] (by decide) (wO cI cS cL sv gx og ((z1.2, u.1.2), u.2)) rfl (fun H locs hP hD hS => ?_)
    refine lv_i2l hx hb dL_ifUpdated_8 rfl ?_
    refine va_last hx hb hK hP hD hS 26 2 rfl rfl (vp_in_of_not (i := 0) (n := 1) (by decide)) dL_ifUpdated_9 (fun H locs hP hD hS => ?_)
    have hP : va_P G vwCl (wO cI cS cL sv gx og ((z1.2, u.1.2), vp_updL u.2 (0 : Int32).toNatClampNeg z1.1.toInt64)) H := hP
    have hD : va_D A (wO cI cS cL sv gx og ((z1.2, u.1.2), vp_updL u.2 (0 : Int32).toNatClampNeg z1.1.toInt64)) := hD
    refine lv_goto (tgt := 21) hx hb dL_ifUpdated_10 (by decide) ?_
    refine lv_iconst (v := 0) hx hb dL_ifUpdated_21 (by decide) ?_
    exact retMk hQ S hr hlocks hK hN hP hD hS h (Nat.le_of_ble_eq_true rfl) (Nat.le_of_ble_eq_true rfl) dL_ifUpdated_22

theorem cc_L_60 {p : Program} {l : Launch} {e : Env} {R : Room} {s : State} {m : MethodId} {args : Array Value} {below : List Frame} {meth : Method} {c : Code} {H : Heap} {locs : List Loc} {cells slots : Nat} {cc : ByteArray} {pc nL : Nat} {ls : Array Slot} {rest : List Value} {G : va_G} {A : Nat → Prop} {B0 : Nat} (sv : Nat) (gx : Nat → Nat) {cI cS : ClassId} {v : TH} {p0 : Int32} {r : (Nat × (TH)) ⊕ (Int32 × TH)} (hst : l.stackTraces = false) (S : CallFix p m c cc nL s args bwL RL) (hK : va_K G vwCl (tysW cI cS) s) (hN : NW s) (hP : va_P G vwCl (wH cI sv gx v) H) (hD : va_D A (wH cI sv gx v)) (hS : va_S A s.heap H locs) (hAB : ∀ q, A q → B0 ≤ q) (hB : B0 ≤ s.heap.size) (hX : XT B0 s s.heap) (hf : fX4_greatestAtHome v p0 = some r) (hsz : ls.size = nL) (hsk : (rest.map fun v => v.category).sum ≤ 8) (hR : rmX4_greatestAtHome.frames + 1 ≤ R.frames ∧ 8 + (2 + 11) + rmX4_greatestAtHome.locals ≤ R.locals) (hdg : decode cc pc = .ok (.invokevirtual 60, 3)) (hcs : cells + 1 ≤ R.cells ∧ slots + 6 ≤ R.slots) : vx_Run p l e R s m args below meth c H locs cells slots 1 6 (F0 m pc ls (.int p0 :: .ref (gx 0) :: rest)) rest (va_Qi (fun r' u' => r = .inr (r', u')) (PoM G (tysW cI cS) (va_A (wH cI sv gx v) H.size) (wH cI sv gx)) (va_A (wH cI sv gx v) H.size) (#[.ref (gx 0), .int p0] : Array Value)) (XCw G (va_A (wH cI sv gx v) H.size) (wH cI sv gx) r) (va_A (wH cI sv gx v) H.size) :=
  vx_runV (As := [.int p0]) (rest := rest) S (kX4_greatestAtHome l hst G cI cS sv gx H.size B0 v p0 r hf) (cwV 1 S.2.2.2.2 (gdVL ql_59 ql_60 ql_61 (bwL_of q_76) (bwL_of q_333)) rfl rfl rfl (by decide +kernel) hR) (pvX (q := (RX4, TX4, 8)) hK hN hP hD hS hAB hB hX (ci := 4) (q0 := 0) rfl rfl) rfl rfl hsz rfl (lv_room hsk) hdg hcs
def fL_greatestAtHome (u : THS × OutR) (p0 : Int32) : Option (Int32 × (THS × OutR)) := (fX4_greatestAtHome u.1.1 p0).bind fun o => Sum.elim (fun q => (if q.1 = 3 then some ((1 : Int32), ((q.2, u.1.2), u.2)) else none)) (fun z => some ((0 : Int32), ((z.2, u.1.2), vp_updL u.2 (0 : Int32).toNatClampNeg z.1.toInt64))) o
abbrev rmL_greatestAtHome : Room := { frames := 8, cells := 1, slots := 6, locals := 142 }
set_option maxRecDepth 100000 in
set_option maxHeartbeats 4000000 in
theorem kL_greatestAtHome (l : Launch) (hst : l.stackTraces = false) (G : va_G) (cI cS cL : ClassId) (sv : Nat) (gx : Nat → Nat) (og : Nat) (sz B0 : Nat) (u : THS × OutR) (p0 : Int32) (r : Int32 × (THS × OutR)) (hf : fL_greatestAtHome u p0 = some r) : Met l yL_greatestAtHome (.codeWith yL_greatestAtHome cL_greatestAtHome 4 (some .int) [(0, 9, 12, 28)] :: bwL) rmL_greatestAtHome (va_Pc [.ref (gx 0), .int p0, .ref og] (PreL G (tysL cI cS cL) (wO cI cS cL sv gx og u) sz B0)) (va_Qi (fun r' u' => (r', u') = r) (PoM G (tysL cI cS cL) (va_A (wO cI cS cL sv gx og u) sz) (wO cI cS cL sv gx og)) (va_A (wO cI cS cL sv gx og u) sz)) 1 6 (va_A (wO cI cS cL sv gx og u) sz) := by
  refine enterW (own := RL) (by decide) rfl (Nat.le_of_ble_eq_true rfl) ?_
  intro p e s m args below meth c A Q hAe hQ S hr hlocks htab hP hK hN hC hD hA hS hX hAB hB ls hl
  rw [hAe] at hQ
  have hx := S.1; have hb := S.2.1; have hml := S.2.2.1; have hown := S.2.2.2.1; have hq := S.2.2.2.2
  have hl : lv_has ls 4 [(0, .ref (gx 0)), (1, .int p0), (2, .ref og)] := hl
  have h := hf
  unfold fL_greatestAtHome at h
  refine lv_aload_n hx hb dL_greatestAtHome_0 rfl (lv_at hl 2 rfl) ?_
  refine lv_iconst (v := 0) hx hb dL_greatestAtHome_1 (by decide) ?_
  refine lv_aload_n hx hb dL_greatestAtHome_2 rfl (lv_at hl 0 rfl) ?_
  refine lv_iload_n hx hb dL_greatestAtHome_3 rfl (lv_at hl 1 rfl) ?_
  rcases elr h with ⟨q1, e_q1, h⟩ | ⟨z1, e_z1, h⟩
  · by_cases c0 : q1.1 = 3
    · have h := (if_pos c0).symm.trans h
      refine xcatchI (cc_L_60 sv gx hst S (hK.sub [0, 1] rfl) hN (hP.sub [0, 1, 2, 3, 4, 5, 6, 7, 8, 9, 10, 11, 12] rfl) (hD.sub [0, 1, 2, 3, 4, 5, 6, 7, 8, 9, 10, 11, 12] (by decide) rfl) hS hAB hB hX e_q1 hl.1 (Nat.le_of_ble_eq_true rfl) ⟨(Nat.le_of_ble_eq_true rfl), (Nat.le_of_ble_eq_true rfl)⟩ dL_greatestAtHome_4 ⟨(Nat.le_of_ble_eq_true rfl), (Nat.le_of_ble_eq_true rfl)⟩) hS hP hD hA [0, 1, 2, 3, 4, 5, 6, 7, 8, 9, 10, 11, 12] [13, 14, 15, 16, 17, 18, 19, 20, 21, 22, 23, 24, 25, 26] rfl rfl (by decide) (by decide) [14, 15, 16, 17, 18, 19, 20, 21, 22, 23, 24, 25, 26, 0, 1, 2, 3, 4, 5, 6, 7, 8, 9, 10, 11, 12, 13] (by decide) (wO cI cS cL sv gx og ((q1.2, u.1.2), u.2)) rfl (name := exN 3) (E := exN 3) (by rw [c0]) hown [] ⟨0, 9, 12, 28⟩ [] htab (fun z hz => nomatch hz) (by decide) (by decide) (hq _ ql_14) (va_Nw.use rfl (hX.2.2.2.1 3)) (fun q9 H locs hP hD hS => ?_)
      refine lv_astore_n (lv' := [(3, .ref q9), (0, .ref (gx 0)), (1, .int p0), (2, .ref og)]) hx hb dL_greatestAtHome_12 rfl hl (by decide) rfl (fun ls hl => ?_)
      refine lv_iconst (v := 1) hx hb dL_greatestAtHome_13 (by decide) ?_
      exact retMk hQ S hr hlocks hK hN hP hD hS h (Nat.le_of_ble_eq_true rfl) (Nat.le_of_ble_eq_true rfl) dL_greatestAtHome_14
    have h := (if_neg c0).symm.trans h
    cases h
  · refine xcontI (cc_L_60 sv gx hst S (hK.sub [0, 1] rfl) hN (hP.sub [0, 1, 2, 3, 4, 5, 6, 7, 8, 9, 10, 11, 12] rfl) (hD.sub [0, 1, 2, 3, 4, 5, 6, 7, 8, 9, 10, 11, 12] (by decide) rfl) hS hAB hB hX e_z1 hl.1 (Nat.le_of_ble_eq_true rfl) ⟨(Nat.le_of_ble_eq_true rfl), (Nat.le_of_ble_eq_true rfl)⟩ dL_greatestAtHome_4 ⟨(Nat.le_of_ble_eq_true rfl), (Nat.le_of_ble_eq_true rfl)⟩) hS hP hD hA [0, 1, 2, 3, 4, 5, 6, 7, 8, 9, 10, 11, 12] [13, 14, 15, 16, 17, 18, 19, 20, 21, 22, 23, 24, 25, 26] rfl rfl (by decide) (by decide) [14, 15, 16, 17, 18, 19, 20, 21, 22, 23, 24, 25, 26, 0, 1, 2, 3, 4, 5, 6, 7, 8, 9, 10, 11, 12, 13] (by decide) (wO cI cS cL sv gx og ((z1.2, u.1.2), u.2)) rfl (fun H locs hP hD hS => ?_)
    refine lv_i2l hx hb dL_greatestAtHome_7 rfl ?_
    refine va_last hx hb hK hP hD hS 26 2 rfl rfl (vp_in_of_not (i := 0) (n := 1) (by decide)) dL_greatestAtHome_8 (fun H locs hP hD hS => ?_)
    have hP : va_P G vwCl (wO cI cS cL sv gx og ((z1.2, u.1.2), vp_updL u.2 (0 : Int32).toNatClampNeg z1.1.toInt64)) H := hP
    have hD : va_D A (wO cI cS cL sv gx og ((z1.2, u.1.2), vp_updL u.2 (0 : Int32).toNatClampNeg z1.1.toInt64)) := hD
    refine lv_goto (tgt := 15) hx hb dL_greatestAtHome_9 (by decide) ?_
    refine lv_iconst (v := 0) hx hb dL_greatestAtHome_15 (by decide) ?_
    exact retMk hQ S hr hlocks hK hN hP hD hS h (Nat.le_of_ble_eq_true rfl) (Nat.le_of_ble_eq_true rfl) dL_greatestAtHome_16

theorem cc_L_63 {p : Program} {l : Launch} {e : Env} {R : Room} {s : State} {m : MethodId} {args : Array Value} {below : List Frame} {meth : Method} {c : Code} {H : Heap} {locs : List Loc} {cells slots : Nat} {cc : ByteArray} {pc nL : Nat} {ls : Array Slot} {rest : List Value} {G : va_G} {A : Nat → Prop} {B0 : Nat} (sv : Nat) (gx : Nat → Nat) {cI cS : ClassId} {v : TH} {p0 : Int32} {r : (Nat × (TH)) ⊕ (Int32 × TH)} (hst : l.stackTraces = false) (S : CallFix p m c cc nL s args bwL RL) (hK : va_K G vwCl (tysW cI cS) s) (hN : NW s) (hP : va_P G vwCl (wH cI sv gx v) H) (hD : va_D A (wH cI sv gx v)) (hS : va_S A s.heap H locs) (hAB : ∀ q, A q → B0 ≤ q) (hB : B0 ≤ s.heap.size) (hX : XT B0 s s.heap) (hf : fX4_capacity v p0 = some r) (hsz : ls.size = nL) (hsk : (rest.map fun v => v.category).sum ≤ 8) (hR : rmX4_capacity.frames + 1 ≤ R.frames ∧ 8 + (5 + 11) + rmX4_capacity.locals ≤ R.locals) (hdg : decode cc pc = .ok (.invokevirtual 63, 3)) (hcs : cells + 1 ≤ R.cells ∧ slots + 6 ≤ R.slots) : vx_Run p l e R s m args below meth c H locs cells slots 1 6 (F0 m pc ls (.int p0 :: .ref (gx 0) :: rest)) rest (va_Qi (fun r' u' => r = .inr (r', u')) (PoM G (tysW cI cS) (va_A (wH cI sv gx v) H.size) (wH cI sv gx)) (va_A (wH cI sv gx v) H.size) (#[.ref (gx 0), .int p0] : Array Value)) (XCw G (va_A (wH cI sv gx v) H.size) (wH cI sv gx) r) (va_A (wH cI sv gx v) H.size) :=
  vx_runV (As := [.int p0]) (rest := rest) S (kX4_capacity l hst G cI cS sv gx H.size B0 v p0 r hf) (cwV 1 S.2.2.2.2 (gdVL ql_63 ql_64 ql_65 (bwL_of q_76) (bwL_of q_336)) rfl rfl rfl (by decide +kernel) hR) (pvX (q := (RX4, TX4, 8)) hK hN hP hD hS hAB hB hX (ci := 4) (q0 := 0) rfl rfl) rfl rfl hsz rfl (lv_room hsk) hdg hcs
def fL_capacity (u : THS × OutR) (p0 : Int32) : Option (Int32 × (THS × OutR)) := (fX4_capacity u.1.1 p0).bind fun o => Sum.elim (fun q => (if q.1 = 1 then some ((1 : Int32), ((q.2, u.1.2), u.2)) else none)) (fun z => some ((0 : Int32), ((z.2, u.1.2), vp_updL u.2 (0 : Int32).toNatClampNeg z.1.toInt64))) o
abbrev rmL_capacity : Room := { frames := 8, cells := 1, slots := 6, locals := 144 }
set_option maxRecDepth 100000 in
set_option maxHeartbeats 4000000 in
theorem kL_capacity (l : Launch) (hst : l.stackTraces = false) (G : va_G) (cI cS cL : ClassId) (sv : Nat) (gx : Nat → Nat) (og : Nat) (sz B0 : Nat) (u : THS × OutR) (p0 : Int32) (r : Int32 × (THS × OutR)) (hf : fL_capacity u p0 = some r) : Met l yL_capacity (.codeWith yL_capacity cL_capacity 4 (some .int) [(0, 9, 12, 13)] :: bwL) rmL_capacity (va_Pc [.ref (gx 0), .int p0, .ref og] (PreL G (tysL cI cS cL) (wO cI cS cL sv gx og u) sz B0)) (va_Qi (fun r' u' => (r', u') = r) (PoM G (tysL cI cS cL) (va_A (wO cI cS cL sv gx og u) sz) (wO cI cS cL sv gx og)) (va_A (wO cI cS cL sv gx og u) sz)) 1 6 (va_A (wO cI cS cL sv gx og u) sz) := by
  refine enterW (own := RL) (by decide) rfl (Nat.le_of_ble_eq_true rfl) ?_
  intro p e s m args below meth c A Q hAe hQ S hr hlocks htab hP hK hN hC hD hA hS hX hAB hB ls hl
  rw [hAe] at hQ
  have hx := S.1; have hb := S.2.1; have hml := S.2.2.1; have hown := S.2.2.2.1; have hq := S.2.2.2.2
  have hl : lv_has ls 4 [(0, .ref (gx 0)), (1, .int p0), (2, .ref og)] := hl
  have h := hf
  unfold fL_capacity at h
  refine lv_aload_n hx hb dL_capacity_0 rfl (lv_at hl 2 rfl) ?_
  refine lv_iconst (v := 0) hx hb dL_capacity_1 (by decide) ?_
  refine lv_aload_n hx hb dL_capacity_2 rfl (lv_at hl 0 rfl) ?_
  refine lv_iload_n hx hb dL_capacity_3 rfl (lv_at hl 1 rfl) ?_
  rcases elr h with ⟨q1, e_q1, h⟩ | ⟨z1, e_z1, h⟩
  · by_cases c0 : q1.1 = 1
    · have h := (if_pos c0).symm.trans h
      refine xcatchI (cc_L_63 sv gx hst S (hK.sub [0, 1] rfl) hN (hP.sub [0, 1, 2, 3, 4, 5, 6, 7, 8, 9, 10, 11, 12] rfl) (hD.sub [0, 1, 2, 3, 4, 5, 6, 7, 8, 9, 10, 11, 12] (by decide) rfl) hS hAB hB hX e_q1 hl.1 (Nat.le_of_ble_eq_true rfl) ⟨(Nat.le_of_ble_eq_true rfl), (Nat.le_of_ble_eq_true rfl)⟩ dL_capacity_4 ⟨(Nat.le_of_ble_eq_true rfl), (Nat.le_of_ble_eq_true rfl)⟩) hS hP hD hA [0, 1, 2, 3, 4, 5, 6, 7, 8, 9, 10, 11, 12] [13, 14, 15, 16, 17, 18, 19, 20, 21, 22, 23, 24, 25, 26] rfl rfl (by decide) (by decide) [14, 15, 16, 17, 18, 19, 20, 21, 22, 23, 24, 25, 26, 0, 1, 2, 3, 4, 5, 6, 7, 8, 9, 10, 11, 12, 13] (by decide) (wO cI cS cL sv gx og ((q1.2, u.1.2), u.2)) rfl (name := exN 1) (E := exN 1) (by rw [c0]) hown [] ⟨0, 9, 12, 13⟩ [] htab (fun z hz => nomatch hz) (by decide) (by decide) (hq _ ql_1) (va_Nw.use rfl (hX.2.2.2.1 1)) (fun q9 H locs hP hD hS => ?_)
      refine lv_astore_n (lv' := [(3, .ref q9), (0, .ref (gx 0)), (1, .int p0), (2, .ref og)]) hx hb dL_capacity_12 rfl hl (by decide) rfl (fun ls hl => ?_)
      refine lv_iconst (v := 1) hx hb dL_capacity_13 (by decide) ?_
      exact retMk hQ S hr hlocks hK hN hP hD hS h (Nat.le_of_ble_eq_true rfl) (Nat.le_of_ble_eq_true rfl) dL_capacity_14
    have h := (if_neg c0).symm.trans h
    cases h
  · refine xcontI (cc_L_63 sv gx hst S (hK.sub [0, 1] rfl) hN (hP.sub [0, 1, 2, 3, 4, 5, 6, 7, 8, 9, 10, 11, 12] rfl) (hD.sub [0, 1, 2, 3, 4, 5, 6, 7, 8, 9, 10, 11, 12] (by decide) rfl) hS hAB hB hX e_z1 hl.1 (Nat.le_of_ble_eq_true rfl) ⟨(Nat.le_of_ble_eq_true rfl), (Nat.le_of_ble_eq_true rfl)⟩ dL_capacity_4 ⟨(Nat.le_of_ble_eq_true rfl), (Nat.le_of_ble_eq_true rfl)⟩) hS hP hD hA [0, 1, 2, 3, 4, 5, 6, 7, 8, 9, 10, 11, 12] [13, 14, 15, 16, 17, 18, 19, 20, 21, 22, 23, 24, 25, 26] rfl rfl (by decide) (by decide) [14, 15, 16, 17, 18, 19, 20, 21, 22, 23, 24, 25, 26, 0, 1, 2, 3, 4, 5, 6, 7, 8, 9, 10, 11, 12, 13] (by decide) (wO cI cS cL sv gx og ((z1.2, u.1.2), u.2)) rfl (fun H locs hP hD hS => ?_)
    refine lv_i2l hx hb dL_capacity_7 rfl ?_
    refine va_last hx hb hK hP hD hS 26 2 rfl rfl (vp_in_of_not (i := 0) (n := 1) (by decide)) dL_capacity_8 (fun H locs hP hD hS => ?_)
    have hP : va_P G vwCl (wO cI cS cL sv gx og ((z1.2, u.1.2), vp_updL u.2 (0 : Int32).toNatClampNeg z1.1.toInt64)) H := hP
    have hD : va_D A (wO cI cS cL sv gx og ((z1.2, u.1.2), vp_updL u.2 (0 : Int32).toNatClampNeg z1.1.toInt64)) := hD
    refine lv_goto (tgt := 15) hx hb dL_capacity_9 (by decide) ?_
    refine lv_iconst (v := 0) hx hb dL_capacity_15 (by decide) ?_
    exact retMk hQ S hr hlocks hK hN hP hD hS h (Nat.le_of_ble_eq_true rfl) (Nat.le_of_ble_eq_true rfl) dL_capacity_16

theorem cc_L_66 {p : Program} {l : Launch} {e : Env} {R : Room} {s : State} {m : MethodId} {args : Array Value} {below : List Frame} {meth : Method} {c : Code} {H : Heap} {locs : List Loc} {cells slots : Nat} {cc : ByteArray} {pc nL : Nat} {ls : Array Slot} {rest : List Value} {G : va_G} {A : Nat → Prop} {B0 : Nat} (sv : Nat) (gx : Nat → Nat) {cI cS : ClassId} {v : THS}  {r : (Nat × (THS)) ⊕ (Int32 × THS)} (hst : l.stackTraces = false) (S : CallFix p m c cc nL s args bwL RL) (hK : va_K G vwCl (tysW cI cS) s) (hN : NW s) (hP : va_P G vwCl (wHS cI cS sv gx v) H) (hD : va_D A (wHS cI cS sv gx v)) (hS : va_S A s.heap H locs) (hAB : ∀ q, A q → B0 ≤ q) (hB : B0 ≤ s.heap.size) (hX : XT B0 s s.heap) (hf : fX4_run v = some r) (hsz : ls.size = nL) (hsk : (rest.map fun v => v.category).sum ≤ 8) (hR : rmX4_run.frames + 1 ≤ R.frames ∧ 8 + (5 + 11) + rmX4_run.locals ≤ R.locals) (hdg : decode cc pc = .ok (.invokevirtual 66, 3)) (hcs : cells + 1 ≤ R.cells ∧ slots + 6 ≤ R.slots) : vx_Run p l e R s m args below meth c H locs cells slots 1 6 (F0 m pc ls (.ref (gx 0) :: rest)) rest (va_Qi (fun r' u' => r = .inr (r', u')) (PoM G (tysW cI cS) (va_A (wHS cI cS sv gx v) H.size) (wHS cI cS sv gx)) (va_A (wHS cI cS sv gx v) H.size) (#[.ref (gx 0)] : Array Value)) (XCw G (va_A (wHS cI cS sv gx v) H.size) (wHS cI cS sv gx) r) (va_A (wHS cI cS sv gx v) H.size) :=
  vx_runV (As := []) (rest := rest) S (kX4_run l hst G cI cS sv gx H.size B0 v r hf) (cwV 0 S.2.2.2.2 (gdVL ql_67 ql_68 ql_69 (bwL_of q_76) (bwL_of q_357)) rfl rfl rfl (by decide +kernel) hR) (pvX (q := (RX4, TX4, 8)) hK hN hP hD hS hAB hB hX (ci := 4) (q0 := 0) rfl rfl) rfl rfl hsz rfl (lv_room hsk) hdg hcs
def fL_run (u : THS × OutR) : Option (Int32 × (THS × OutR)) := (fX4_run u.1).bind fun o => Sum.elim (fun q => (if q.1 = 1 then some ((1 : Int32), (q.2, u.2)) else none)) (fun z => some ((0 : Int32), (z.2, vp_updL u.2 (0 : Int32).toNatClampNeg z.1.toInt64))) o
abbrev rmL_run : Room := { frames := 7, cells := 1, slots := 6, locals := 192 }
set_option maxRecDepth 100000 in
set_option maxHeartbeats 4000000 in
theorem kL_run (l : Launch) (hst : l.stackTraces = false) (G : va_G) (cI cS cL : ClassId) (sv : Nat) (gx : Nat → Nat) (og : Nat) (sz B0 : Nat) (u : THS × OutR) (r : Int32 × (THS × OutR)) (hf : fL_run u = some r) : Met l yL_run (.codeWith yL_run cL_run 3 (some .int) [(0, 8, 11, 13)] :: bwL) rmL_run (va_Pc [.ref (gx 0), .ref og] (PreL G (tysL cI cS cL) (wO cI cS cL sv gx og u) sz B0)) (va_Qi (fun r' u' => (r', u') = r) (PoM G (tysL cI cS cL) (va_A (wO cI cS cL sv gx og u) sz) (wO cI cS cL sv gx og)) (va_A (wO cI cS cL sv gx og u) sz)) 1 6 (va_A (wO cI cS cL sv gx og u) sz) := by
  refine enterW (own := RL) (by decide) rfl (Nat.le_of_ble_eq_true rfl) ?_
  intro p e s m args below meth c A Q hAe hQ S hr hlocks htab hP hK hN hC hD hA hS hX hAB hB ls hl
  rw [hAe] at hQ
  have hx := S.1; have hb := S.2.1; have hml := S.2.2.1; have hown := S.2.2.2.1; have hq := S.2.2.2.2
  have hl : lv_has ls 3 [(0, .ref (gx 0)), (1, .ref og)] := hl
  have h := hf
  unfold fL_run at h
  refine lv_aload_n hx hb dL_run_0 rfl (lv_at hl 1 rfl) ?_
  refine lv_iconst (v := 0) hx hb dL_run_1 (by decide) ?_
  refine lv_aload_n hx hb dL_run_2 rfl (lv_at hl 0 rfl) ?_
  rcases elr h with ⟨q1, e_q1, h⟩ | ⟨z1, e_z1, h⟩
  · by_cases c0 : q1.1 = 1
    · have h := (if_pos c0).symm.trans h
      refine xcatchI (cc_L_66 sv gx hst S (hK.sub [0, 1] rfl) hN (hP.sub [0, 1, 2, 3, 4, 5, 6, 7, 8, 9, 10, 11, 12, 13, 14, 15, 16, 17, 18, 19, 20, 21, 22, 23, 24, 25] rfl) (hD.sub [0, 1, 2, 3, 4, 5, 6, 7, 8, 9, 10, 11, 12, 13, 14, 15, 16, 17, 18, 19, 20, 21, 22, 23, 24, 25] (by decide) rfl) hS hAB hB hX e_q1 hl.1 (Nat.le_of_ble_eq_true rfl) ⟨(Nat.le_of_ble_eq_true rfl), (Nat.le_of_ble_eq_true rfl)⟩ dL_run_3 ⟨(Nat.le_of_ble_eq_true rfl), (Nat.le_of_ble_eq_true rfl)⟩) hS hP hD hA [0, 1, 2, 3, 4, 5, 6, 7, 8, 9, 10, 11, 12, 13, 14, 15, 16, 17, 18, 19, 20, 21, 22, 23, 24, 25] [26] rfl rfl (by decide) (by decide) [1, 2, 3, 4, 5, 6, 7, 8, 9, 10, 11, 12, 13, 14, 15, 16, 17, 18, 19, 20, 21, 22, 23, 24, 25, 26, 0] (by decide) (wO cI cS cL sv gx og (q1.2, u.2)) rfl (name := exN 1) (E := exN 1) (by rw [c0]) hown [] ⟨0, 8, 11, 13⟩ [] htab (fun z hz => nomatch hz) (by decide) (by decide) (hq _ ql_1) (va_Nw.use rfl (hX.2.2.2.1 1)) (fun q9 H locs hP hD hS => ?_)
      refine lv_astore_n (lv' := [(2, .ref q9), (0, .ref (gx 0)), (1, .ref og)]) hx hb dL_run_11 rfl hl (by decide) rfl (fun ls hl => ?_)
      refine lv_iconst (v := 1) hx hb dL_run_12 (by decide) ?_
      exact retMk hQ S hr hlocks hK hN hP hD hS h (Nat.le_of_ble_eq_true rfl) (Nat.le_of_ble_eq_true rfl) dL_run_13
    have h := (if_neg c0).symm.trans h
    cases h
  · refine xcontI (cc_L_66 sv gx hst S (hK.sub [0, 1] rfl) hN (hP.sub [0, 1, 2, 3, 4, 5, 6, 7, 8, 9, 10, 11, 12, 13, 14, 15, 16, 17, 18, 19, 20, 21, 22, 23, 24, 25] rfl) (hD.sub [0, 1, 2, 3, 4, 5, 6, 7, 8, 9, 10, 11, 12, 13, 14, 15, 16, 17, 18, 19, 20, 21, 22, 23, 24, 25] (by decide) rfl) hS hAB hB hX e_z1 hl.1 (Nat.le_of_ble_eq_true rfl) ⟨(Nat.le_of_ble_eq_true rfl), (Nat.le_of_ble_eq_true rfl)⟩ dL_run_3 ⟨(Nat.le_of_ble_eq_true rfl), (Nat.le_of_ble_eq_true rfl)⟩) hS hP hD hA [0, 1, 2, 3, 4, 5, 6, 7, 8, 9, 10, 11, 12, 13, 14, 15, 16, 17, 18, 19, 20, 21, 22, 23, 24, 25] [26] rfl rfl (by decide) (by decide) [1, 2, 3, 4, 5, 6, 7, 8, 9, 10, 11, 12, 13, 14, 15, 16, 17, 18, 19, 20, 21, 22, 23, 24, 25, 26, 0] (by decide) (wO cI cS cL sv gx og (z1.2, u.2)) rfl (fun H locs hP hD hS => ?_)
    refine lv_i2l hx hb dL_run_6 rfl ?_
    refine va_last hx hb hK hP hD hS 26 2 rfl rfl (vp_in_of_not (i := 0) (n := 1) (by decide)) dL_run_7 (fun H locs hP hD hS => ?_)
    have hP : va_P G vwCl (wO cI cS cL sv gx og (z1.2, vp_updL u.2 (0 : Int32).toNatClampNeg z1.1.toInt64)) H := hP
    have hD : va_D A (wO cI cS cL sv gx og (z1.2, vp_updL u.2 (0 : Int32).toNatClampNeg z1.1.toInt64)) := hD
    refine lv_goto (tgt := 14) hx hb dL_run_8 (by decide) ?_
    refine lv_iconst (v := 0) hx hb dL_run_14 (by decide) ?_
    exact retMk hQ S hr hlocks hK hN hP hD hS h (Nat.le_of_ble_eq_true rfl) (Nat.le_of_ble_eq_true rfl) dL_run_15

theorem cc_L_69 {p : Program} {l : Launch} {e : Env} {R : Room} {s : State} {m : MethodId} {args : Array Value} {below : List Frame} {meth : Method} {c : Code} {H : Heap} {locs : List Loc} {cells slots : Nat} {cc : ByteArray} {pc nL : Nat} {ls : Array Slot} {rest : List Value} {G : va_G} {A : Nat → Prop} {B0 : Nat} (sv : Nat) (gx : Nat → Nat) {cI cS : ClassId} {v : THS}  {r : (Nat × (THS)) ⊕ (Int32 × THS)} (hst : l.stackTraces = false) (S : CallFix p m c cc nL s args bwL RL) (hK : va_K G vwCl (tysW cI cS) s) (hN : NW s) (hP : va_P G vwCl (wHS cI cS sv gx v) H) (hD : va_D A (wHS cI cS sv gx v)) (hS : va_S A s.heap H locs) (hAB : ∀ q, A q → B0 ≤ q) (hB : B0 ≤ s.heap.size) (hX : XT B0 s s.heap) (hf : fX4_undo v = some r) (hsz : ls.size = nL) (hsk : (rest.map fun v => v.category).sum ≤ 8) (hR : rmX4_undo.frames + 1 ≤ R.frames ∧ 8 + (1 + 11) + rmX4_undo.locals ≤ R.locals) (hdg : decode cc pc = .ok (.invokevirtual 69, 3)) (hcs : cells + 1 ≤ R.cells ∧ slots + 6 ≤ R.slots) : vx_Run p l e R s m args below meth c H locs cells slots 1 6 (F0 m pc ls (.ref (gx 0) :: rest)) rest (va_Qi (fun r' u' => r = .inr (r', u')) (PoM G (tysW cI cS) (va_A (wHS cI cS sv gx v) H.size) (wHS cI cS sv gx)) (va_A (wHS cI cS sv gx v) H.size) (#[.ref (gx 0)] : Array Value)) (XCw G (va_A (wHS cI cS sv gx v) H.size) (wHS cI cS sv gx) r) (va_A (wHS cI cS sv gx v) H.size) :=
  vx_runV (As := []) (rest := rest) S (kX4_undo l hst G cI cS sv gx H.size B0 v r hf) (cwV 0 S.2.2.2.2 (gdVL ql_71 ql_72 ql_73 (bwL_of q_76) (bwL_of q_358)) rfl rfl rfl (by decide +kernel) hR) (pvX (q := (RX4, TX4, 8)) hK hN hP hD hS hAB hB hX (ci := 4) (q0 := 0) rfl rfl) rfl rfl hsz rfl (lv_room hsk) hdg hcs
def fL_undo (u : THS × OutR) : Option (Int32 × (THS × OutR)) := (fX4_undo u.1).bind fun o => Sum.elim (fun q => (if q.1 = 2 then some ((1 : Int32), (q.2, u.2)) else none)) (fun z => some ((0 : Int32), (z.2, vp_updL u.2 (0 : Int32).toNatClampNeg z.1.toInt64))) o
abbrev rmL_undo : Room := { frames := 7, cells := 1, slots := 6, locals := 120 }
set_option maxRecDepth 100000 in
set_option maxHeartbeats 4000000 in
theorem kL_undo (l : Launch) (hst : l.stackTraces = false) (G : va_G) (cI cS cL : ClassId) (sv : Nat) (gx : Nat → Nat) (og : Nat) (sz B0 : Nat) (u : THS × OutR) (r : Int32 × (THS × OutR)) (hf : fL_undo u = some r) : Met l yL_undo (.codeWith yL_undo cL_undo 3 (some .int) [(0, 8, 11, 15)] :: bwL) rmL_undo (va_Pc [.ref (gx 0), .ref og] (PreL G (tysL cI cS cL) (wO cI cS cL sv gx og u) sz B0)) (va_Qi (fun r' u' => (r', u') = r) (PoM G (tysL cI cS cL) (va_A (wO cI cS cL sv gx og u) sz) (wO cI cS cL sv gx og)) (va_A (wO cI cS cL sv gx og u) sz)) 1 6 (va_A (wO cI cS cL sv gx og u) sz) := by
  refine enterW (own := RL) (by decide) rfl (Nat.le_of_ble_eq_true rfl) ?_
  intro p e s m args below meth c A Q hAe hQ S hr hlocks htab hP hK hN hC hD hA hS hX hAB hB ls hl
  rw [hAe] at hQ
  have hx := S.1; have hb := S.2.1; have hml := S.2.2.1; have hown := S.2.2.2.1; have hq := S.2.2.2.2
  have hl : lv_has ls 3 [(0, .ref (gx 0)), (1, .ref og)] := hl
  have h := hf
  unfold fL_undo at h
  refine lv_aload_n hx hb dL_undo_0 rfl (lv_at hl 1 rfl) ?_
  refine lv_iconst (v := 0) hx hb dL_undo_1 (by decide) ?_
  refine lv_aload_n hx hb dL_undo_2 rfl (lv_at hl 0 rfl) ?_
  rcases elr h with ⟨q1, e_q1, h⟩ | ⟨z1, e_z1, h⟩
  · by_cases c0 : q1.1 = 2
    · have h := (if_pos c0).symm.trans h
      refine xcatchI (cc_L_69 sv gx hst S (hK.sub [0, 1] rfl) hN (hP.sub [0, 1, 2, 3, 4, 5, 6, 7, 8, 9, 10, 11, 12, 13, 14, 15, 16, 17, 18, 19, 20, 21, 22, 23, 24, 25] rfl) (hD.sub [0, 1, 2, 3, 4, 5, 6, 7, 8, 9, 10, 11, 12, 13, 14, 15, 16, 17, 18, 19, 20, 21, 22, 23, 24, 25] (by decide) rfl) hS hAB hB hX e_q1 hl.1 (Nat.le_of_ble_eq_true rfl) ⟨(Nat.le_of_ble_eq_true rfl), (Nat.le_of_ble_eq_true rfl)⟩ dL_undo_3 ⟨(Nat.le_of_ble_eq_true rfl), (Nat.le_of_ble_eq_true rfl)⟩) hS hP hD hA [0, 1, 2, 3, 4, 5, 6, 7, 8, 9, 10, 11, 12, 13, 14, 15, 16, 17, 18, 19, 20, 21, 22, 23, 24, 25] [26] rfl rfl (by decide) (by decide) [1, 2, 3, 4, 5, 6, 7, 8, 9, 10, 11, 12, 13, 14, 15, 16, 17, 18, 19, 20, 21, 22, 23, 24, 25, 26, 0] (by decide) (wO cI cS cL sv gx og (q1.2, u.2)) rfl (name := exN 2) (E := exN 2) (by rw [c0]) hown [] ⟨0, 8, 11, 15⟩ [] htab (fun z hz => nomatch hz) (by decide) (by decide) (hq _ ql_2) (va_Nw.use rfl (hX.2.2.2.1 2)) (fun q9 H locs hP hD hS => ?_)
      refine lv_astore_n (lv' := [(2, .ref q9), (0, .ref (gx 0)), (1, .ref og)]) hx hb dL_undo_11 rfl hl (by decide) rfl (fun ls hl => ?_)
      refine lv_iconst (v := 1) hx hb dL_undo_12 (by decide) ?_
      exact retMk hQ S hr hlocks hK hN hP hD hS h (Nat.le_of_ble_eq_true rfl) (Nat.le_of_ble_eq_true rfl) dL_undo_13
    have h := (if_neg c0).symm.trans h
    cases h
  · refine xcontI (cc_L_69 sv gx hst S (hK.sub [0, 1] rfl) hN (hP.sub [0, 1, 2, 3, 4, 5, 6, 7, 8, 9, 10, 11, 12, 13, 14, 15, 16, 17, 18, 19, 20, 21, 22, 23, 24, 25] rfl) (hD.sub [0, 1, 2, 3, 4, 5, 6, 7, 8, 9, 10, 11, 12, 13, 14, 15, 16, 17, 18, 19, 20, 21, 22, 23, 24, 25] (by decide) rfl) hS hAB hB hX e_z1 hl.1 (Nat.le_of_ble_eq_true rfl) ⟨(Nat.le_of_ble_eq_true rfl), (Nat.le_of_ble_eq_true rfl)⟩ dL_undo_3 ⟨(Nat.le_of_ble_eq_true rfl), (Nat.le_of_ble_eq_true rfl)⟩) hS hP hD hA [0, 1, 2, 3, 4, 5, 6, 7, 8, 9, 10, 11, 12, 13, 14, 15, 16, 17, 18, 19, 20, 21, 22, 23, 24, 25] [26] rfl rfl (by decide) (by decide) [1, 2, 3, 4, 5, 6, 7, 8, 9, 10, 11, 12, 13, 14, 15, 16, 17, 18, 19, 20, 21, 22, 23, 24, 25, 26, 0] (by decide) (wO cI cS cL sv gx og (z1.2, u.2)) rfl (fun H locs hP hD hS => ?_)
    refine lv_i2l hx hb dL_undo_6 rfl ?_
    refine va_last hx hb hK hP hD hS 26 2 rfl rfl (vp_in_of_not (i := 0) (n := 1) (by decide)) dL_undo_7 (fun H locs hP hD hS => ?_)
    have hP : va_P G vwCl (wO cI cS cL sv gx og (z1.2, vp_updL u.2 (0 : Int32).toNatClampNeg z1.1.toInt64)) H := hP
    have hD : va_D A (wO cI cS cL sv gx og (z1.2, vp_updL u.2 (0 : Int32).toNatClampNeg z1.1.toInt64)) := hD
    refine lv_goto (tgt := 14) hx hb dL_undo_8 (by decide) ?_
    refine lv_iconst (v := 0) hx hb dL_undo_14 (by decide) ?_
    exact retMk hQ S hr hlocks hK hN hP hD hS h (Nat.le_of_ble_eq_true rfl) (Nat.le_of_ble_eq_true rfl) dL_undo_15
