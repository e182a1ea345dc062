def fL_up (p0 : Int32) (p1 : Int32) : Option (Int32) := (if p1 = 0 then none else some ((p0 &&& (2147483647 : Int32)) - (p0 &&& (2147483647 : Int32)) / p1 * p1))
abbrev rmL_up : Room := { frames := 0, cells := 0, slots := 0, locals := 0 }
set_option maxRecDepth 100000 in
set_option maxHeartbeats 4000000 in
theorem kL_up (l : Launch) (G : va_G) (cI cS : ClassId) (p0 : Int32) (p1 : Int32) (r : Int32) (hf : fL_up p0 p1 = some r) : Met l yL_up (.code yL_up cL_up 2 (some .int) :: bw) rmL_up (va_Pc [.int p0, .int p1] (PreR G (tysW cI cS) wE)) (vp_Si (fun r' => r' = r)) 0 0 (fun _ => False) := by
  refine enterR (own := RL) (by decide) rfl rfl (Nat.le_of_ble_eq_true rfl) ?_
  intro p e s m args below meth c Q hQ S hr hlocks hP hK hN ls hl
  have hx := S.1; have hb := S.2.1; have hml := S.2.2.1; have hown := S.2.2.2.1; have hq := S.2.2.2.2
  have hl : lv_has ls 2 [(0, .int p0), (1, .int p1)] := hl
  have h := hf
  unfold fL_up at h
  refine lv_iload_n hx hb dL_up_0 rfl (lv_at hl 0 rfl) ?_
  refine lv_ldc (v := 2147483647) hx hb hown (hq _ q_327) dL_up_1 ?_
  refine lv_iand hx hb dL_up_3 ?_
  refine lv_iload_n hx hb dL_up_4 rfl (lv_at hl 1 rfl) ?_
  by_cases c1 : p1 = 0
  · have h := (if_pos c1).symm.trans h
    cases h
  have h := (if_neg c1).symm.trans h
  refine lv_irem hx hb dL_up_5 c1 ?_
  exact retR hQ S hr hlocks h dL_up_6

theorem cc_L_15 {p : Program} {l : Launch} {e : Env} {R : Room} {s : State} {m : MethodId} {args : Array Value} {below : List Frame} {meth : Method} {c : Code} {H : Heap} {locs : List Loc} {cells slots : Nat} {cc : ByteArray} {pc nL : Nat} {ls : Array Slot} {rest : List Value} {G : va_G} (sv : Nat) (ga : Nat → Nat) {cI cS : ClassId} {u : TH}  {p0 : Int32} {r : Int32} (S : CallFix p m c cc nL s args bw RL) (hK : va_K G vwCl (tysW cI cS) s) (hN : NW s) (hP : va_P G vwCl (wH cI sv ga u) H) (hf : fX4_next u p0 = some r) (hsz : ls.size = nL) (hst : (rest.map fun v => v.category).sum ≤ 8) (hR : rmX4_next.frames + 1 ≤ R.frames ∧ 8 + (6 + 11) + rmX4_next.locals ≤ R.locals) (hdg : decode cc pc = .ok (.invokevirtual 15, 3)) (hcs : cells + 0 ≤ R.cells ∧ slots + 0 ≤ R.slots) : va_Run p l e R s m args below meth c H locs cells slots 0 0 (F0 m pc ls (.int p0 :: .ref (ga 0) :: rest)) rest (vp_Si (fun r' => r' = r) (#[.ref (ga 0), .int p0] : Array Value)) (fun _ => False) :=
  va_runV (As := [.int p0]) (rest := rest) S (kX4_next l G cI cS sv ga u p0 r hf) (cwV 1 S.2.2.2.2 (gdV q_329 q_330 q_331 q_49 q_288) rfl rfl rfl (by decide +kernel) hR) (pvR (q := (RX4, TX4, 8)) hK hN hP (ci := 4) (q0 := 0) rfl rfl) rfl rfl hsz rfl (lv_room hst) hdg hcs
theorem cc_L_19 {p : Program} {l : Launch} {e : Env} {R : Room} {s : State} {m : MethodId} {args : Array Value} {below : List Frame} {meth : Method} {c : Code} {H : Heap} {locs : List Loc} {cells slots : Nat} {cc : ByteArray} {pc nL : Nat} {ls : Array Slot} {rest : List Value} {G : va_G} (sv : Nat) (ga : Nat → Nat) {cI cS : ClassId} {u : TH}  {p0 : Int32} {r : Int32} (S : CallFix p m c cc nL s args bw RL) (hK : va_K G vwCl (tysW cI cS) s) (hN : NW s) (hP : va_P G vwCl (wH cI sv ga u) H) (hf : fX4_rowAt u p0 = some r) (hsz : ls.size = nL) (hst : (rest.map fun v => v.category).sum ≤ 8) (hR : rmX4_rowAt.frames + 1 ≤ R.frames ∧ 8 + (3 + 11) + rmX4_rowAt.locals ≤ R.locals) (hdg : decode cc pc = .ok (.invokevirtual 19, 3)) (hcs : cells + 0 ≤ R.cells ∧ slots + 0 ≤ R.slots) : va_Run p l e R s m args below meth c H locs cells slots 0 0 (F0 m pc ls (.int p0 :: .ref (ga 0) :: rest)) rest (vp_Si (fun r' => r' = r) (#[.ref (ga 0), .int p0] : Array Value)) (fun _ => False) :=
  va_runV (As := [.int p0]) (rest := rest) S (kX4_rowAt l G cI cS sv ga u p0 r hf) (cwV 1 S.2.2.2.2 (gdV q_332 q_286 q_287 q_49 q_284) rfl rfl rfl (by decide +kernel) hR) (pvR (q := (RX4, TX4, 8)) hK hN hP (ci := 4) (q0 := 0) rfl rfl) rfl rfl hsz rfl (lv_room hst) hdg hcs
theorem cc_L_9 {p : Program} {l : Launch} {e : Env} {R : Room} {s : State} {m : MethodId} {args : Array Value} {below : List Frame} {meth : Method} {c : Code} {H : Heap} {locs : List Loc} {cells slots : Nat} {cc : ByteArray} {pc nL : Nat} {ls : Array Slot} {rest : List Value} {G : va_G} (sv : Nat) (ga : Nat → Nat) {cI cS : ClassId} {u : TH}  {r : Int32} (S : CallFix p m c cc nL s args bw RL) (hK : va_K G vwCl (tysW cI cS) s) (hN : NW s) (hP : va_P G vwCl (wH cI sv ga u) H) (hf : fX4_rows u = some r) (hsz : ls.size = nL) (hst : (rest.map fun v => v.category).sum ≤ 8) (hR : rmX4_rows.frames + 1 ≤ R.frames ∧ 8 + (1 + 11) + rmX4_rows.locals ≤ R.locals) (hdg : decode cc pc = .ok (.invokevirtual 9, 3)) (hcs : cells + 0 ≤ R.cells ∧ slots + 0 ≤ R.slots) : va_Run p l e R s m args below meth c H locs cells slots 0 0 (F0 m pc ls (.ref (ga 0) :: rest)) rest (vp_Si (fun r' => r' = r) (#[.ref (ga 0)] : Array Value)) (fun _ => False) :=
  va_runV (As := []) (rest := rest) S (kX4_rows l G cI cS sv ga u r hf) (cwV 0 S.2.2.2.2 (gdV q_328 q_313 q_314 q_49 q_280) rfl rfl rfl (by decide +kernel) hR) (pvR (q := (RX4, TX4, 8)) hK hN hP (ci := 4) (q0 := 0) rfl rfl) rfl rfl hsz rfl (lv_room hst) hdg hcs
def fL_row_j29 (u : TH) (x2 : Int32) : Option (Int32) := (if 0 ≤ x2 then ((fX4_rowAt u x2).bind fun z2 => some z2) else some x2)
def fL_row_s4 (u : TH) (x1 : Int32) (x2 : Int32) (x3 : Int32) : Option ((Int32 × Int32 × Int32) ⊕ (Int32)) := (if x1 < x3 then some (.inr x2) else ((fX4_rows u).bind fun z4 => (if z4 ≤ x3 then some (.inr x2) else ((fX4_next u x2).bind fun z6 => some (.inl (x1, z6, (x3 + 1)))))))
def fL_row (u : TH) (p1 : Int32) : Option (Int32) := ((itr (fun a : Int32 × Int32 × Int32 => fL_row_s4 u a.1 a.2.1 a.2.2) FU (p1, ((-1) : Int32), (0 : Int32))).bind fun b7 => fL_row_j29 u b7)
abbrev rmL_row : Room := { frames := 5, cells := 0, slots := 0, locals := 117 }
set_option maxRecDepth 100000 in
set_option maxHeartbeats 4000000 in
theorem kL_row (l : Launch) (G : va_G) (cI cS : ClassId) (sv : Nat) (ga : Nat → Nat) (u : TH) (p1 : Int32) (r : Int32) (hf : fL_row u p1 = some r) : Met l yL_row (.code yL_row cL_row 4 (some .int) :: bw) rmL_row (va_Pc [.ref (ga 0), .int p1] (PreR G (tysW cI cS) (wH cI sv ga u))) (vp_Si (fun r' => r' = r)) 0 0 (fun _ => False) := by
  refine enterR (own := RL) (by decide) rfl rfl (Nat.le_of_ble_eq_true rfl) ?_
  intro p e s m args below meth c Q hQ S hr hlocks hP hK hN ls hl
  have hx := S.1; have hb := S.2.1; have hml := S.2.2.1; have hown := S.2.2.2.1; have hq := S.2.2.2.2
  have hl : lv_has ls 4 [(0, .ref (ga 0)), (1, .int p1)] := hl
  have h := hf
  unfold fL_row at h
  have J29 : ∀ (x2 : Int32) , fL_row_j29 u x2 = some r → ∀ ls : Array Slot, lv_has ls 4 [(0, .ref (ga 0)), (2, .int x2)] → W p l e rmL_row s m args below meth c s.heap [] 0 0 Q (F0 m 29 ls []) := by
    intro x2 h
    unfold fL_row_j29 at h
    intro ls hl
    refine lv_iload_n hx hb dL_row_29 rfl (lv_at hl 1 rfl) ?_
    refine lv_if_ge (tgt := 37) hx hb dL_row_30 (by decide) (fun c1 => ?_) (fun c1 => ?_)
    · have h := (if_pos c1).symm.trans h
      refine lv_aload_n hx hb dL_row_37 rfl (lv_at hl 0 rfl) ?_
      refine lv_iload_n hx hb dL_row_38 rfl (lv_at hl 1 rfl) ?_
      obtain ⟨z2, e_z2, h⟩ := bnd h
      refine roI (cc_L_19 sv ga S hK hN hP e_z2 hl.1 (Nat.le_of_ble_eq_true rfl) ⟨Nat.le_of_ble_eq_true rfl, Nat.le_of_ble_eq_true rfl⟩ dL_row_39 ⟨Nat.le_of_ble_eq_true rfl, Nat.le_of_ble_eq_true rfl⟩) ?_
      exact retR hQ S hr hlocks h dL_row_42
    · have h := (if_neg c1).symm.trans h
      refine lv_iload_n hx hb dL_row_33 rfl (lv_at hl 1 rfl) ?_
      refine lv_goto (tgt := 42) hx hb dL_row_34 (by decide) ?_
      exact retR hQ S hr hlocks h dL_row_42
  have L4 : ∀ (n9 : Nat) (a9 : Int32 × Int32 × Int32) (b9 : Int32), itr (fun a : Int32 × Int32 × Int32 => fL_row_s4 u a.1 a.2.1 a.2.2) n9 a9 = some b9 → (fun b : Int32 => ∀ ls : Array Slot, lv_has ls 4 [(0, .ref (ga 0)), (2, .int b)] → W p l e rmL_row s m args below meth c s.heap [] 0 0 Q (F0 m 29 ls [])) b9 → (fun a : Int32 × Int32 × Int32 => ∀ ls : Array Slot, lv_has ls 4 [(0, .ref (ga 0)), (1, .int a.1), (2, .int a.2.1), (3, .int a.2.2)] → W p l e rmL_row s m args below meth c s.heap [] 0 0 Q (F0 m 4 ls [])) a9 := by
    refine itr_ind (Inv := (fun a : Int32 × Int32 × Int32 => ∀ ls : Array Slot, lv_has ls 4 [(0, .ref (ga 0)), (1, .int a.1), (2, .int a.2.1), (3, .int a.2.2)] → W p l e rmL_row s m args below meth c s.heap [] 0 0 Q (F0 m 4 ls []))) (Ex := (fun b : Int32 => ∀ ls : Array Slot, lv_has ls 4 [(0, .ref (ga 0)), (2, .int b)] → W p l e rmL_row s m args below meth c s.heap [] 0 0 Q (F0 m 29 ls []))) ?_
    rintro ⟨x1, x2, x3⟩ z h hI hE
    have h : fL_row_s4 u x1 x2 x3 = some z := h
    unfold fL_row_s4 at h
    show ∀ ls : Array Slot, lv_has ls 4 [(0, .ref (ga 0)), (1, .int x1), (2, .int x2), (3, .int x3)] → W p l e rmL_row s m args below meth c s.heap [] 0 0 Q (F0 m 4 ls [])
    intro ls hl
    refine lv_iload_n hx hb dL_row_4 rfl (lv_at hl 3 rfl) ?_
    refine lv_iload_n hx hb dL_row_5 rfl (lv_at hl 1 rfl) ?_
    refine lv_icmp_gt (tgt := 29) hx hb dL_row_6 (by decide) (fun c3 => ?_) (fun c3 => ?_)
    · have h := (if_pos c3).symm.trans h
      exact hE _ (Option.some.inj h) _ (lv_sub hl [0, 2] rfl)
    · have h := (if_neg c3).symm.trans h
      refine lv_iload_n hx hb dL_row_9 rfl (lv_at hl 3 rfl) ?_
      refine lv_aload_n hx hb dL_row_10 rfl (lv_at hl 0 rfl) ?_
      obtain ⟨z4, e_z4, h⟩ := bnd h
      refine roI (cc_L_9 sv ga S hK hN hP e_z4 hl.1 (Nat.le_of_ble_eq_true rfl) ⟨Nat.le_of_ble_eq_true rfl, Nat.le_of_ble_eq_true rfl⟩ dL_row_11 ⟨Nat.le_of_ble_eq_true rfl, Nat.le_of_ble_eq_true rfl⟩) ?_
      refine lv_icmp_ge (tgt := 29) hx hb dL_row_14 (by decide) (fun c5 => ?_) (fun c5 => ?_)
      · have h := (if_pos c5).symm.trans h
        exact hE _ (Option.some.inj h) _ (lv_sub hl [0, 2] rfl)
      · have h := (if_neg c5).symm.trans h
        refine lv_aload_n hx hb dL_row_17 rfl (lv_at hl 0 rfl) ?_
        refine lv_iload_n hx hb dL_row_18 rfl (lv_at hl 2 rfl) ?_
        obtain ⟨z6, e_z6, h⟩ := bnd h
        refine roI (cc_L_15 sv ga S hK hN hP e_z6 hl.1 (Nat.le_of_ble_eq_true rfl) ⟨Nat.le_of_ble_eq_true rfl, Nat.le_of_ble_eq_true rfl⟩ dL_row_19 ⟨Nat.le_of_ble_eq_true rfl, Nat.le_of_ble_eq_true rfl⟩) ?_
        refine lv_istore_n (lv' := [(2, .int z6), (0, .ref (ga 0)), (1, .int x1), (3, .int x3)]) hx hb dL_row_22 rfl hl (by decide) rfl (fun ls hl => ?_)
        refine lv_iinc (v := (x3 + 1)) (lv' := [(3, .int (x3 + 1)), (2, .int z6), (0, .ref (ga 0)), (1, .int x1)]) hx hb dL_row_23 hl (k := 3) rfl rfl (by decide) rfl (fun ls hl => ?_)
        refine lv_goto (tgt := 4) hx hb dL_row_26 (by decide) ?_
        exact hI _ (Option.some.inj h) _ (lv_sub hl [2, 3, 1, 0] rfl)
  refine lv_iconst (v := (-1)) hx hb dL_row_0 (by decide) ?_
  refine lv_istore_n (lv' := [(2, .int ((-1) : Int32)), (0, .ref (ga 0)), (1, .int p1)]) hx hb dL_row_1 rfl hl (by decide) rfl (fun ls hl => ?_)
  refine lv_iconst (v := 0) hx hb dL_row_2 (by decide) ?_
  refine lv_istore_n (lv' := [(3, .int (0 : Int32)), (2, .int ((-1) : Int32)), (0, .ref (ga 0)), (1, .int p1)]) hx hb dL_row_3 rfl hl (by decide) rfl (fun ls hl => ?_)
  obtain ⟨b7, e_b7, h⟩ := bnd h
  refine L4 _ _ _ e_b7 ?_ _ (lv_sub hl [2, 3, 1, 0] rfl)
  intro ls hl
  exact J29 b7 h _ (lv_sub hl [0, 1] rfl)

theorem cc_L_24 {p : Program} {l : Launch} {e : Env} {R : Room} {s : State} {m : MethodId} {args : Array Value} {below : List Frame} {meth : Method} {c : Code} {H : Heap} {locs : List Loc} {cells slots : Nat} {cc : ByteArray} {pc nL : Nat} {ls : Array Slot} {rest : List Value} {G : va_G} (sv : Nat) (ga : Nat → Nat) {cI cS : ClassId} {u : TH}  {r : Int32} (S : CallFix p m c cc nL s args bw RL) (hK : va_K G vwCl (tysW cI cS) s) (hN : NW s) (hP : va_P G vwCl (wH cI sv ga u) H) (hf : fX4_pages u = some r) (hsz : ls.size = nL) (hst : (rest.map fun v => v.category).sum ≤ 8) (hR : rmX4_pages.frames + 1 ≤ R.frames ∧ 8 + (1 + 11) + rmX4_pages.locals ≤ R.locals) (hdg : decode cc pc = .ok (.invokevirtual 24, 3)) (hcs : cells + 0 ≤ R.cells ∧ slots + 0 ≤ R.slots) : va_Run p l e R s m args below meth c H locs cells slots 0 0 (F0 m pc ls (.ref (ga 0) :: rest)) rest (vp_Si (fun r' => r' = r) (#[.ref (ga 0)] : Array Value)) (fun _ => False) :=
  va_runV (As := []) (rest := rest) S (kX4_pages l G cI cS sv ga u r hf) (cwV 0 S.2.2.2.2 (gdV q_337 q_338 q_339 q_49 q_289) rfl rfl rfl (by decide +kernel) hR) (pvR (q := (RX4, TX4, 8)) hK hN hP (ci := 4) (q0 := 0) rfl rfl) rfl rfl hsz rfl (lv_room hst) hdg hcs
theorem cc_L_27 {p : Program} {l : Launch} {e : Env} {R : Room} {s : State} {m : MethodId} {args : Array Value} {below : List Frame} {meth : Method} {c : Code} {H : Heap} {locs : List Loc} {cells slots : Nat} {cc : ByteArray} {pc nL : Nat} {ls : Array Slot} {rest : List Value} {G : va_G} (sv : Nat) (ga : Nat → Nat) {cI cS : ClassId} {u : TH}  {p0 : Int32} {r : Int32} (S : CallFix p m c cc nL s args bw RL) (hK : va_K G vwCl (tysW cI cS) s) (hN : NW s) (hP : va_P G vwCl (wH cI sv ga u) H) (hf : fX4_isRow u p0 = some r) (hsz : ls.size = nL) (hst : (rest.map fun v => v.category).sum ≤ 8) (hR : rmX4_isRow.frames + 1 ≤ R.frames ∧ 8 + (3 + 11) + rmX4_isRow.locals ≤ R.locals) (hdg : decode cc pc = .ok (.invokevirtual 27, 3)) (hcs : cells + 0 ≤ R.cells ∧ slots + 0 ≤ R.slots) : va_Run p l e R s m args below meth c H locs cells slots 0 0 (F0 m pc ls (.int p0 :: .ref (ga 0) :: rest)) rest (vp_Si (fun r' => r' = r) (#[.ref (ga 0), .int p0] : Array Value)) (fun _ => False) :=
  va_runV (As := [.int p0]) (rest := rest) S (kX4_isRow l G cI cS sv ga u p0 r hf) (cwV 1 S.2.2.2.2 (gdV q_340 q_191 q_192 q_49 q_187) rfl rfl rfl (by decide +kernel) hR) (pvR (q := (RX4, TX4, 8)) hK hN hP (ci := 4) (q0 := 0) rfl rfl) rfl rfl hsz rfl (lv_room hst) hdg hcs
theorem cc_L_33 {p : Program} {l : Launch} {e : Env} {R : Room} {s : State} {m : MethodId} {args : Array Value} {below : List Frame} {meth : Method} {c : Code} {H : Heap} {locs : List Loc} {cells slots : Nat} {cc : ByteArray} {pc nL : Nat} {ls : Array Slot} {rest : List Value} {G : va_G} (sv : Nat) (ga : Nat → Nat) {cI cS : ClassId} {u : TH}  {p0 : Int32} {r : Int32} (S : CallFix p m c cc nL s args bw RL) (hK : va_K G vwCl (tysW cI cS) s) (hN : NW s) (hP : va_P G vwCl (wH cI sv ga u) H) (hf : fX4_length u p0 = some r) (hsz : ls.size = nL) (hst : (rest.map fun v => v.category).sum ≤ 8) (hR : rmX4_length.frames + 1 ≤ R.frames ∧ 8 + (2 + 11) + rmX4_length.locals ≤ R.locals) (hdg : decode cc pc = .ok (.invokevirtual 33, 3)) (hcs : cells + 0 ≤ R.cells ∧ slots + 0 ≤ R.slots) : va_Run p l e R s m args below meth c H locs cells slots 0 0 (F0 m pc ls (.int p0 :: .ref (ga 0) :: rest)) rest (vp_Si (fun r' => r' = r) (#[.ref (ga 0), .int p0] : Array Value)) (fun _ => False) :=
  va_runV (As := [.int p0]) (rest := rest) S (kX4_length l G cI cS sv ga u p0 r hf) (cwV 1 S.2.2.2.2 (gdV q_341 q_342 q_343 q_49 q_281) rfl rfl rfl (by decide +kernel) hR) (pvR (q := (RX4, TX4, 8)) hK hN hP (ci := 4) (q0 := 0) rfl rfl) rfl rfl hsz rfl (lv_room hst) hdg hcs
theorem cc_L_38 {p : Program} {l : Launch} {e : Env} {R : Room} {s : State} {m : MethodId} {args : Array Value} {below : List Frame} {meth : Method} {c : Code} {H : Heap} {locs : List Loc} {cells slots : Nat} {cc : ByteArray} {pc nL : Nat} {ls : Array Slot} {rest : List Value} {G : va_G} (sv : Nat) (ga : Nat → Nat) {cI cS : ClassId} {u : TH}  {p0 : Int32} {p1 : Int32} {r : Int32} (S : CallFix p m c cc nL s args bw RL) (hK : va_K G vwCl (tysW cI cS) s) (hN : NW s) (hP : va_P G vwCl (wH cI sv ga u) H) (hf : fX4_byteOf u p0 p1 = some r) (hsz : ls.size = nL) (hst : (rest.map fun v => v.category).sum ≤ 8) (hR : rmX4_byteOf.frames + 1 ≤ R.frames ∧ 8 + (4 + 11) + rmX4_byteOf.locals ≤ R.locals) (hdg : decode cc pc = .ok (.invokevirtual 38, 3)) (hcs : cells + 0 ≤ R.cells ∧ slots + 0 ≤ R.slots) : va_Run p l e R s m args below meth c H locs cells slots 0 0 (F0 m pc ls (.int p1 :: .int p0 :: .ref (ga 0) :: rest)) rest (vp_Si (fun r' => r' = r) (#[.ref (ga 0), .int p0, .int p1] : Array Value)) (fun _ => False) :=
  va_runV (As := [.int p0, .int p1]) (rest := rest) S (kX4_byteOf l G cI cS sv ga u p0 p1 r hf) (cwV 2 S.2.2.2.2 (gdV q_344 q_345 q_346 q_49 q_282) rfl rfl rfl (by decide +kernel) hR) (pvR (q := (RX4, TX4, 8)) hK hN hP (ci := 4) (q0 := 0) rfl rfl) rfl rfl hsz rfl (lv_room hst) hdg hcs
def fL_stored_j92 (u : TH) (x1 : Int32) (x2 : Int64) (x4 : Int32) : Option ((Int32 × Int64 × Int32) ⊕ (Int64)) := some (.inl (x1, x2, (x4 + 1)))
def fL_stored_s59 (u : TH) (x1 : Int32) (x2 : Int64) (x4 : Int32) (x5 : Int32) : Option ((Int32 × Int64 × Int32 × Int32) ⊕ (Int32 × Int64 × Int32)) := ((fX4_length u x4).bind fun z1 => (if z1 ≤ x5 then some (.inr (x1, x2, x4)) else ((fX4_byteOf u x4 x5).bind fun z3 => some (.inl (x1, (((257 : Int64) * x2) + z3.toInt64), x4, (x5 + 1))))))
def fL_stored_s7 (u : TH) (x1 : Int32) (x2 : Int64) (x4 : Int32) : Option ((Int32 × Int64 × Int32) ⊕ (Int64)) := ((fX4_pages u).bind fun z4 => (if ((100 : Int32) * z4) ≤ x4 then some (.inr x2) else (if x4 = x1 then fL_stored_j92 u x1 x2 x4 else ((fX4_isRow u x4).bind fun z7 => (if z7 = 0 then fL_stored_j92 u x1 x2 x4 else ((fX4_length u x4).bind fun z9 => ((itr (fun a : Int32 × Int64 × Int32 × Int32 => fL_stored_s59 u a.1 a.2.1 a.2.2.1 a.2.2.2) FU (x1, (((1009 : Int64) * (((1009 : Int64) * x2) + x4.toInt64)) + z9.toInt64), x4, (0 : Int32))).bind fun b10 => fL_stored_j92 u b10.1 b10.2.1 b10.2.2)))))))
def fL_stored (u : TH) (p1 : Int32) : Option (Int64) := ((itr (fun a : Int32 × Int64 × Int32 => fL_stored_s7 u a.1 a.2.1 a.2.2) FU (p1, (47 : Int64), (0 : Int32))).bind fun b11 => some b11)
abbrev rmL_stored : Room := { frames := 6, cells := 0, slots := 0, locals := 136 }
set_option maxRecDepth 100000 in
set_option maxHeartbeats 4000000 in
theorem kL_stored (l : Launch) (G : va_G) (cI cS : ClassId) (sv : Nat) (ga : Nat → Nat) (u : TH) (p1 : Int32) (r : Int64) (hf : fL_stored u p1 = some r) : Met l yL_stored (.code yL_stored cL_stored 6 (some .long) :: bw) rmL_stored (va_Pc [.ref (ga 0), .int p1] (PreR G (tysW cI cS) (wH cI sv ga u))) (vp_Sl (fun r' => r' = r)) 0 0 (fun _ => False) := by
  refine enterG (own := RL) (by decide) rfl (Nat.le_of_ble_eq_true rfl) ?_
  intro p e s m args below meth c Q hQ S hr hlocks hP hK hN ls hl
  have hx := S.1; have hb := S.2.1; have hml := S.2.2.1; have hown := S.2.2.2.1; have hq := S.2.2.2.2
  have hl : lv_has ls 6 [(0, .ref (ga 0)), (1, .int p1)] := hl
  have h := hf
  unfold fL_stored at h
  have L7 : ∀ (n9 : Nat) (a9 : Int32 × Int64 × Int32) (b9 : Int64), itr (fun a : Int32 × Int64 × Int32 => fL_stored_s7 u a.1 a.2.1 a.2.2) n9 a9 = some b9 → (fun b : Int64 => ∀ ls : Array Slot, lv_has ls 6 [(2, .long b)] → W p l e rmL_stored s m args below meth c s.heap [] 0 0 Q (F0 m 98 ls [])) b9 → (fun a : Int32 × Int64 × Int32 => ∀ ls : Array Slot, lv_has ls 6 [(0, .ref (ga 0)), (1, .int a.1), (2, .long a.2.1), (4, .int a.2.2)] → W p l e rmL_stored s m args below meth c s.heap [] 0 0 Q (F0 m 7 ls [])) a9 := by
    refine itr_ind (Inv := (fun a : Int32 × Int64 × Int32 => ∀ ls : Array Slot, lv_has ls 6 [(0, .ref (ga 0)), (1, .int a.1), (2, .long a.2.1), (4, .int a.2.2)] → W p l e rmL_stored s m args below meth c s.heap [] 0 0 Q (F0 m 7 ls []))) (Ex := (fun b : Int64 => ∀ ls : Array Slot, lv_has ls 6 [(2, .long b)] → W p l e rmL_stored s m args below meth c s.heap [] 0 0 Q (F0 m 98 ls []))) ?_
    rintro ⟨x1, x2, x4⟩ z h hI hE
    have h : fL_stored_s7 u x1 x2 x4 = some z := h
    unfold fL_stored_s7 at h
    show ∀ ls : Array Slot, lv_has ls 6 [(0, .ref (ga 0)), (1, .int x1), (2, .long x2), (4, .int x4)] → W p l e rmL_stored s m args below meth c s.heap [] 0 0 Q (F0 m 7 ls [])
    have J92 : ∀ (x1 : Int32) (x2 : Int64) (x4 : Int32) , fL_stored_j92 u x1 x2 x4 = some z → ∀ ls : Array Slot, lv_has ls 6 [(0, .ref (ga 0)), (1, .int x1), (2, .long x2), (4, .int x4)] → W p l e rmL_stored s m args below meth c s.heap [] 0 0 Q (F0 m 92 ls []) := by
      intro x1 x2 x4 h
      unfold fL_stored_j92 at h
      intro ls hl
      refine lv_iinc (v := (x4 + 1)) (lv' := [(4, .int (x4 + 1)), (0, .ref (ga 0)), (1, .int x1), (2, .long x2)]) hx hb dL_stored_92 hl (k := 3) rfl rfl (by decide) rfl (fun ls hl => ?_)
      refine lv_goto (tgt := 7) hx hb dL_stored_95 (by decide) ?_
      exact hI _ (Option.some.inj h) _ (lv_sub hl [1, 2, 3, 0] rfl)
    have L59 : ∀ (n9 : Nat) (a9 : Int32 × Int64 × Int32 × Int32) (b9 : Int32 × Int64 × Int32), itr (fun a : Int32 × Int64 × Int32 × Int32 => fL_stored_s59 u a.1 a.2.1 a.2.2.1 a.2.2.2) n9 a9 = some b9 → (fun b : Int32 × Int64 × Int32 => ∀ ls : Array Slot, lv_has ls 6 [(0, .ref (ga 0)), (1, .int b.1), (2, .long b.2.1), (4, .int b.2.2)] → W p l e rmL_stored s m args below meth c s.heap [] 0 0 Q (F0 m 92 ls [])) b9 → (fun a : Int32 × Int64 × Int32 × Int32 => ∀ ls : Array Slot, lv_has ls 6 [(0, .ref (ga 0)), (1, .int a.1), (2, .long a.2.1), (4, .int a.2.2.1), (5, .int a.2.2.2)] → W p l e rmL_stored s m args below meth c s.heap [] 0 0 Q (F0 m 59 ls [])) a9 := by
      refine itr_ind (Inv := (fun a : Int32 × Int64 × Int32 × Int32 => ∀ ls : Array Slot, lv_has ls 6 [(0, .ref (ga 0)), (1, .int a.1), (2, .long a.2.1), (4, .int a.2.2.1), (5, .int a.2.2.2)] → W p l e rmL_stored s m args below meth c s.heap [] 0 0 Q (F0 m 59 ls []))) (Ex := (fun b : Int32 × Int64 × Int32 => ∀ ls : Array Slot, lv_has ls 6 [(0, .ref (ga 0)), (1, .int b.1), (2, .long b.2.1), (4, .int b.2.2)] → W p l e rmL_stored s m args below meth c s.heap [] 0 0 Q (F0 m 92 ls []))) ?_
      rintro ⟨x1, x2, x4, x5⟩ z h hI hE
      have h : fL_stored_s59 u x1 x2 x4 x5 = some z := h
      unfold fL_stored_s59 at h
      show ∀ ls : Array Slot, lv_has ls 6 [(0, .ref (ga 0)), (1, .int x1), (2, .long x2), (4, .int x4), (5, .int x5)] → W p l e rmL_stored s m args below meth c s.heap [] 0 0 Q (F0 m 59 ls [])
      intro ls hl
      refine lv_iload hx hb dL_stored_59 (lv_at hl 4 rfl) ?_
      refine lv_aload_n hx hb dL_stored_61 rfl (lv_at hl 0 rfl) ?_
      refine lv_iload hx hb dL_stored_62 (lv_at hl 3 rfl) ?_
      obtain ⟨z1, e_z1, h⟩ := bnd h
      refine roI (cc_L_33 sv ga S hK hN hP e_z1 hl.1 (Nat.le_of_ble_eq_true rfl) ⟨Nat.le_of_ble_eq_true rfl, Nat.le_of_ble_eq_true rfl⟩ dL_stored_64 ⟨Nat.le_of_ble_eq_true rfl, Nat.le_of_ble_eq_true rfl⟩) ?_
      refine lv_icmp_ge (tgt := 92) hx hb dL_stored_67 (by decide) (fun c2 => ?_) (fun c2 => ?_)
      · have h := (if_pos c2).symm.trans h
        exact hE _ (Option.some.inj h) _ (lv_sub hl [0, 1, 2, 3] rfl)
      · have h := (if_neg c2).symm.trans h
        refine lv_ldc2 (v := 257) hx hb hown (hq _ q_336) dL_stored_70 ?_
        refine lv_lload_n hx hb dL_stored_73 rfl (lv_at hl 2 rfl) ?_
        refine lv_lmul hx hb dL_stored_74 ?_
        refine lv_aload_n hx hb dL_stored_75 rfl (lv_at hl 0 rfl) ?_
        refine lv_iload hx hb dL_stored_76 (lv_at hl 3 rfl) ?_
        refine lv_iload hx hb dL_stored_78 (lv_at hl 4 rfl) ?_
        obtain ⟨z3, e_z3, h⟩ := bnd h
        refine roI (cc_L_38 sv ga S hK hN hP e_z3 hl.1 (Nat.le_of_ble_eq_true rfl) ⟨Nat.le_of_ble_eq_true rfl, Nat.le_of_ble_eq_true rfl⟩ dL_stored_80 ⟨Nat.le_of_ble_eq_true rfl, Nat.le_of_ble_eq_true rfl⟩) ?_
        refine lv_i2l hx hb dL_stored_83 rfl ?_
        refine lv_ladd hx hb dL_stored_84 ?_
        refine lv_lstore_n (lv' := [(2, .long (((257 : Int64) * x2) + z3.toInt64)), (0, .ref (ga 0)), (1, .int x1), (4, .int x4), (5, .int x5)]) hx hb dL_stored_85 rfl hl (by decide) rfl (fun ls hl => ?_)
        refine lv_iinc (v := (x5 + 1)) (lv' := [(5, .int (x5 + 1)), (2, .long (((257 : Int64) * x2) + z3.toInt64)), (0, .ref (ga 0)), (1, .int x1), (4, .int x4)]) hx hb dL_stored_86 hl (k := 4) rfl rfl (by decide) rfl (fun ls hl => ?_)
        refine lv_goto (tgt := 59) hx hb dL_stored_89 (by decide) ?_
        exact hI _ (Option.some.inj h) _ (lv_sub hl [2, 3, 1, 4, 0] rfl)
    intro ls hl
    refine lv_iload hx hb dL_stored_7 (lv_at hl 3 rfl) ?_
    refine lv_bipush (v := 100) hx hb dL_stored_9 (by decide) ?_
    refine lv_aload_n hx hb dL_stored_11 rfl (lv_at hl 0 rfl) ?_
    obtain ⟨z4, e_z4, h⟩ := bnd h
    refine roI (cc_L_24 sv ga S hK hN hP e_z4 hl.1 (Nat.le_of_ble_eq_true rfl) ⟨Nat.le_of_ble_eq_true rfl, Nat.le_of_ble_eq_true rfl⟩ dL_stored_12 ⟨Nat.le_of_ble_eq_true rfl, Nat.le_of_ble_eq_true rfl⟩) ?_
    refine lv_imul hx hb dL_stored_15 ?_
    refine lv_icmp_ge (tgt := 98) hx hb dL_stored_16 (by decide) (fun c5 => ?_) (fun c5 => ?_)
    · have h := (if_pos c5).symm.trans h
      exact hE _ (Option.some.inj h) _ (lv_sub hl [2] rfl)
    · have h := (if_neg c5).symm.trans h
      refine lv_iload hx hb dL_stored_19 (lv_at hl 3 rfl) ?_
      refine lv_iload_n hx hb dL_stored_21 rfl (lv_at hl 1 rfl) ?_
      refine lv_icmp_eq (tgt := 92) hx hb dL_stored_22 (by decide) (fun c6 => ?_) (fun c6 => ?_)
      · have h := (if_pos c6).symm.trans h
        exact J92 x1 x2 x4 h _ (lv_sub hl [0, 1, 2, 3] rfl)
      · have h := (if_neg c6).symm.trans h
        refine lv_aload_n hx hb dL_stored_25 rfl (lv_at hl 0 rfl) ?_
        refine lv_iload hx hb dL_stored_26 (lv_at hl 3 rfl) ?_
        obtain ⟨z7, e_z7, h⟩ := bnd h
        refine roI (cc_L_27 sv ga S hK hN hP e_z7 hl.1 (Nat.le_of_ble_eq_true rfl) ⟨Nat.le_of_ble_eq_true rfl, Nat.le_of_ble_eq_true rfl⟩ dL_stored_28 ⟨Nat.le_of_ble_eq_true rfl, Nat.le_of_ble_eq_true rfl⟩) ?_
        refine lv_if_eq (tgt := 92) hx hb dL_stored_31 (by decide) (fun c8 => ?_) (fun c8 => ?_)
        · have h := (if_pos c8).symm.trans h
          exact J92 x1 x2 x4 h _ (lv_sub hl [0, 1, 2, 3] rfl)
        · have h := (if_neg c8).symm.trans h
          refine lv_ldc2 (v := 1009) hx hb hown (hq _ q_335) dL_stored_34 ?_
          refine lv_ldc2 (v := 1009) hx hb hown (hq _ q_335) dL_stored_37 ?_
          refine lv_lload_n hx hb dL_stored_40 rfl (lv_at hl 2 rfl) ?_
          refine lv_lmul hx hb dL_stored_41 ?_
          refine lv_iload hx hb dL_stored_42 (lv_at hl 3 rfl) ?_
          refine lv_i2l hx hb dL_stored_44 rfl ?_
          refine lv_ladd hx hb dL_stored_45 ?_
          refine lv_lmul hx hb dL_stored_46 ?_
          refine lv_aload_n hx hb dL_stored_47 rfl (lv_at hl 0 rfl) ?_
          refine lv_iload hx hb dL_stored_48 (lv_at hl 3 rfl) ?_
          obtain ⟨z9, e_z9, h⟩ := bnd h
          refine roI (cc_L_33 sv ga S hK hN hP e_z9 hl.1 (Nat.le_of_ble_eq_true rfl) ⟨Nat.le_of_ble_eq_true rfl, Nat.le_of_ble_eq_true rfl⟩ dL_stored_50 ⟨Nat.le_of_ble_eq_true rfl, Nat.le_of_ble_eq_true rfl⟩) ?_
          refine lv_i2l hx hb dL_stored_53 rfl ?_
          refine lv_ladd hx hb dL_stored_54 ?_
          refine lv_lstore_n (lv' := [(2, .long (((1009 : Int64) * (((1009 : Int64) * x2) + x4.toInt64)) + z9.toInt64)), (0, .ref (ga 0)), (1, .int x1), (4, .int x4)]) hx hb dL_stored_55 rfl hl (by decide) rfl (fun ls hl => ?_)
          refine lv_iconst (v := 0) hx hb dL_stored_56 (by decide) ?_
          refine lv_istore (lv' := [(5, .int (0 : Int32)), (2, .long (((1009 : Int64) * (((1009 : Int64) * x2) + x4.toInt64)) + z9.toInt64)), (0, .ref (ga 0)), (1, .int x1), (4, .int x4)]) hx hb dL_stored_57 hl (by decide) rfl (fun ls hl => ?_)
          obtain ⟨b10, e_b10, h⟩ := bnd h
          refine L59 _ _ _ e_b10 ?_ _ (lv_sub hl [2, 3, 1, 4, 0] rfl)
          intro ls hl
          exact J92 b10.1 b10.2.1 b10.2.2 h _ (lv_sub hl [0, 1, 2, 3] rfl)
  refine lv_ldc2 (v := 47) hx hb hown (hq _ q_334) dL_stored_0 ?_
  refine lv_lstore_n (lv' := [(2, .long (47 : Int64)), (0, .ref (ga 0)), (1, .int p1)]) hx hb dL_stored_3 rfl hl (by decide) rfl (fun ls hl => ?_)
  refine lv_iconst (v := 0) hx hb dL_stored_4 (by decide) ?_
  refine lv_istore (lv' := [(4, .int (0 : Int32)), (2, .long (47 : Int64)), (0, .ref (ga 0)), (1, .int p1)]) hx hb dL_stored_5 hl (by decide) rfl (fun ls hl => ?_)
  obtain ⟨b11, e_b11, h⟩ := bnd h
  refine L7 _ _ _ e_b11 ?_ _ (lv_sub hl [2, 3, 1, 0] rfl)
  intro ls hl
  refine lv_lload_n hx hb dL_stored_98 rfl (lv_at hl 0 rfl) ?_
  exact retRl hQ S hr hlocks h dL_stored_99

theorem cc_L_42 {p : Program} {l : Launch} {e : Env} {R : Room} {s : State} {m : MethodId} {args : Array Value} {below : List Frame} {meth : Method} {c : Code} {H : Heap} {locs : List Loc} {cells slots : Nat} {cc : ByteArray} {pc nL : Nat} {ls : Array Slot} {rest : List Value} {G : va_G} (sv : Nat) (ga : Nat → Nat) {cI cS : ClassId} {u : TH}  {p0 : Int32} {r : Int32} (S : CallFix p m c cc nL s args bw RL) (hK : va_K G vwCl (tysW cI cS) s) (hN : NW s) (hP : va_P G vwCl (wH cI sv ga u) H) (hf : fX4_kind u p0 = some r) (hsz : ls.size = nL) (hst : (rest.map fun v => v.category).sum ≤ 8) (hR : rmX4_kind.frames + 1 ≤ R.frames ∧ 8 + (5 + 11) + rmX4_kind.locals ≤ R.locals) (hdg : decode cc pc = .ok (.invokevirtual 42, 3)) (hcs : cells + 0 ≤ R.cells ∧ slots + 0 ≤ R.slots) : va_Run p l e R s m args below meth c H locs cells slots 0 0 (F0 m pc ls (.int p0 :: .ref (ga 0) :: rest)) rest (vp_Si (fun r' => r' = r) (#[.ref (ga 0), .int p0] : Array Value)) (fun _ => False) :=
  va_runV (As := [.int p0]) (rest := rest) S (kX4_kind l G cI cS sv ga u p0 r hf) (cwV 1 S.2.2.2.2 (gdV q_348 q_185 q_186 q_49 q_183) rfl rfl rfl (by decide +kernel) hR) (pvR (q := (RX4, TX4, 8)) hK hN hP (ci := 4) (q0 := 0) rfl rfl) rfl rfl hsz rfl (lv_room hst) hdg hcs
theorem cc_L_45 {p : Program} {l : Launch} {e : Env} {R : Room} {s : State} {m : MethodId} {args : Array Value} {below : List Frame} {meth : Method} {c : Code} {H : Heap} {locs : List Loc} {cells slots : Nat} {cc : ByteArray} {pc nL : Nat} {ls : Array Slot} {rest : List Value} {G : va_G} (sv : Nat) (ga : Nat → Nat) {cI cS : ClassId} {u : TH}  {p0 : Int32} {r : Int32} (S : CallFix p m c cc nL s args bw RL) (hK : va_K G vwCl (tysW cI cS) s) (hN : NW s) (hP : va_P G vwCl (wH cI sv ga u) H) (hf : fX4_placeOf u p0 = some r) (hsz : ls.size = nL) (hst : (rest.map fun v => v.category).sum ≤ 8) (hR : rmX4_placeOf.frames + 1 ≤ R.frames ∧ 8 + (2 + 11) + rmX4_placeOf.locals ≤ R.locals) (hdg : decode cc pc = .ok (.invokevirtual 45, 3)) (hcs : cells + 0 ≤ R.cells ∧ slots + 0 ≤ R.slots) : va_Run p l e R s m args below meth c H locs cells slots 0 0 (F0 m pc ls (.int p0 :: .ref (ga 0) :: rest)) rest (vp_Si (fun r' => r' = r) (#[.ref (ga 0), .int p0] : Array Value)) (fun _ => False) :=
  va_runV (As := [.int p0]) (rest := rest) S (kX4_placeOf l G cI cS sv ga u p0 r hf) (cwV 1 S.2.2.2.2 (gdV q_349 q_350 q_351 q_49 q_283) rfl rfl rfl (by decide +kernel) hR) (pvR (q := (RX4, TX4, 8)) hK hN hP (ci := 4) (q0 := 0) rfl rfl) rfl rfl hsz rfl (lv_room hst) hdg hcs
theorem cc_L_48 {p : Program} {l : Launch} {e : Env} {R : Room} {s : State} {m : MethodId} {args : Array Value} {below : List Frame} {meth : Method} {c : Code} {H : Heap} {locs : List Loc} {cells slots : Nat} {cc : ByteArray} {pc nL : Nat} {ls : Array Slot} {rest : List Value} {G : va_G} (sv : Nat) (ga : Nat → Nat) {cI cS : ClassId} {u : TH}  {r : Int32} (S : CallFix p m c cc nL s args bw RL) (hK : va_K G vwCl (tysW cI cS) s) (hN : NW s) (hP : va_P G vwCl (wH cI sv ga u) H) (hf : fX4_notes u = some r) (hsz : ls.size = nL) (hst : (rest.map fun v => v.category).sum ≤ 8) (hR : rmX4_notes.frames + 1 ≤ R.frames ∧ 8 + (1 + 11) + rmX4_notes.locals ≤ R.locals) (hdg : decode cc pc = .ok (.invokevirtual 48, 3)) (hcs : cells + 0 ≤ R.cells ∧ slots + 0 ≤ R.slots) : va_Run p l e R s m args below meth c H locs cells slots 0 0 (F0 m pc ls (.ref (ga 0) :: rest)) rest (vp_Si (fun r' => r' = r) (#[.ref (ga 0)] : Array Value)) (fun _ => False) :=
  va_runV (As := []) (rest := rest) S (kX4_notes l G cI cS sv ga u r hf) (cwV 0 S.2.2.2.2 (gdV q_352 q_316 q_317 q_49 q_292) rfl rfl rfl (by decide +kernel) hR) (pvR (q := (RX4, TX4, 8)) hK hN hP (ci := 4) (q0 := 0) rfl rfl) rfl rfl hsz rfl (lv_room hst) hdg hcs
theorem cc_L_51 {p : Program} {l : Launch} {e : Env} {R : Room} {s : State} {m : MethodId} {args : Array Value} {below : List Frame} {meth : Method} {c : Code} {H : Heap} {locs : List Loc} {cells slots : Nat} {cc : ByteArray} {pc nL : Nat} {ls : Array Slot} {rest : List Value} {G : va_G} (sv : Nat) (ga : Nat → Nat) {cI cS : ClassId} {u : TH}  {r : UInt64} (S : CallFix p m c cc nL s args bw RL) (hK : va_K G vwCl (tysW cI cS) s) (hN : NW s) (hP : va_P G vwCl (wH cI sv ga u) H) (hf : fX4_fillFactor u = some r) (hsz : ls.size = nL) (hst : (rest.map fun v => v.category).sum ≤ 8) (hR : rmX4_fillFactor.frames + 1 ≤ R.frames ∧ 8 + (3 + 11) + rmX4_fillFactor.locals ≤ R.locals) (hdg : decode cc pc = .ok (.invokevirtual 51, 3)) (hcs : cells + 0 ≤ R.cells ∧ slots + 0 ≤ R.slots) : va_Run p l e R s m args below meth c H locs cells slots 0 0 (F0 m pc ls (.ref (ga 0) :: rest)) rest (vp_Sd (fun r' => r' = r) (#[.ref (ga 0)] : Array Value)) (fun _ => False) :=
  va_runV (As := []) (rest := rest) S (kX4_fillFactor l G cI cS sv ga u r hf) (cwV 0 S.2.2.2.2 (gdV q_353 q_319 q_320 q_49 q_293) rfl rfl rfl (by decide +kernel) hR) (pvR (q := (RX4, TX4, 8)) hK hN hP (ci := 4) (q0 := 0) rfl rfl) rfl rfl hsz rfl (lv_room hst) hdg hcs
def fL_holds_j300 (u : TH) (x1 : Int32) (x2 : Int32) (x3 : Int32) (x4 : Int32) (x5 : Int32) : Option (Int32) := (if x4 = 0 then some (0 : Int32) else (if x5 = x1 then ((fX4_rows u).bind fun z3 => (if z3 = x1 then ((fX4_notes u).bind fun z5 => (if z5 = x2 then (if x3 = x2 then ((fX4_fillFactor u).bind fun z8 => (if (Op.cmpValue (FP.dcmp z8 FP.dconst0) .l) < 0 then some (0 : Int32) else ((fX4_fillFactor u).bind fun z10 => (if 0 < (Op.cmpValue (FP.dcmp z10 FP.dconst1) .g) then some (0 : Int32) else ((fX4_kind u ((-1) : Int32)).bind fun z12 => (if z12 = 0 then ((fX4_kind u (99 : Int32)).bind fun z14 => (if z14 = 0 then ((fX4_pages u).bind fun z16 => ((fX4_kind u ((100 : Int32) * z16)).bind fun z17 => (if z17 = 0 then some (1 : Int32) else some (0 : Int32)))) else some (0 : Int32))) else some (0 : Int32))))))) else some (0 : Int32)) else some (0 : Int32))) else some (0 : Int32))) else some (0 : Int32)))
def fL_holds_s275 (u : TH) (x1 : Int32) (x2 : Int32) (x3 : Int32) (x4 : Int32) (x5 : Int32) (x6 : Int32) : Option ((Int32 × Int32 × Int32 × Int32 × Int32 × Int32) ⊕ (Int32 × Int32 × Int32 × Int32 × Int32)) := (if x6 < 0 then some (.inr (x1, x2, x3, x4, x5)) else (if x1 < x5 then some (.inr (x1, x2, x3, x4, x5)) else ((fX4_next u x6).bind fun z21 => some (.inl (x1, x2, x3, x4, (x5 + 1), z21)))))
def fL_holds_j259 (u : TH) (x1 : Int32) (x2 : Int32) (x3 : Int32) (x4 : Int32) (x5 : Int32) : Option ((Int32 × Int32 × Int32 × Int32 × Int32) ⊕ (Int32 × Int32 × Int32 × Int32)) := some (.inl (x1, x2, x3, x4, (x5 + 1)))
def fL_holds_j257 (u : TH) (x1 : Int32) (x2 : Int32) (x3 : Int32) (x5 : Int32) (t0 : Int32) : Option ((Int32 × Int32 × Int32 × Int32 × Int32) ⊕ (Int32 × Int32 × Int32 × Int32)) := fL_holds_j259 u x1 x2 x3 t0 x5
def fL_holds_j256 (u : TH) (x1 : Int32) (x2 : Int32) (x3 : Int32) (x5 : Int32) : Option ((Int32 × Int32 × Int32 × Int32 × Int32) ⊕ (Int32 × Int32 × Int32 × Int32)) := fL_holds_j257 u x1 x2 x3 x5 (0 : Int32)
def fL_holds_j197 (u : TH) (x1 : Int32) (x2 : Int32) (x3 : Int32) (x5 : Int32) (x6 : Int32) (t0 : Int32) : Option ((Int32 × Int32 × Int32 × Int32 × Int32) ⊕ (Int32 × Int32 × Int32 × Int32)) := (if x6 = (2 : Int32) then ((fX4_placeOf u x5).bind fun z23 => (if t0 = 0 then fL_holds_j256 u x1 x2 x3 x5 else ((fX4_kind u z23).bind fun z25 => (if z25 = (3 : Int32) then ((fX4_rowAt u z23).bind fun z27 => (if z27 = x5 then (if (z23 / (100 : Int32)) = (x5 / (100 : Int32)) then fL_holds_j256 u x1 x2 x3 x5 else fL_holds_j257 u x1 x2 x3 x5 (1 : Int32)) else fL_holds_j256 u x1 x2 x3 x5)) else fL_holds_j256 u x1 x2 x3 x5)))) else fL_holds_j259 u x1 x2 x3 t0 x5)
def fL_holds_j196 (u : TH) (x1 : Int32) (x2 : Int32) (x3 : Int32) (x5 : Int32) (x6 : Int32) : Option ((Int32 × Int32 × Int32 × Int32 × Int32) ⊕ (Int32 × Int32 × Int32 × Int32)) := fL_holds_j197 u x1 x2 x3 x5 x6 (0 : Int32)
def fL_holds_j192 (u : TH) (x1 : Int32) (x2 : Int32) (x3 : Int32) (x5 : Int32) (x6 : Int32) : Option ((Int32 × Int32 × Int32 × Int32 × Int32) ⊕ (Int32 × Int32 × Int32 × Int32)) := fL_holds_j197 u x1 x2 x3 x5 x6 (1 : Int32)
def fL_holds_j171 (u : TH) (x1 : Int32) (x2 : Int32) (x3 : Int32) (x5 : Int32) (x6 : Int32) : Option ((Int32 × Int32 × Int32 × Int32 × Int32) ⊕ (Int32 × Int32 × Int32 × Int32)) := (if x6 = (3 : Int32) then ((fX4_rowAt u x5).bind fun z31 => ((fX4_placeOf u z31).bind fun z32 => (if z32 = x5 then fL_holds_j192 u x1 x2 x3 x5 x6 else fL_holds_j196 u x1 x2 x3 x5 x6))) else fL_holds_j192 u x1 x2 x3 x5 x6)
def fL_holds_j149 (u : TH) (x1 : Int32) (x2 : Int32) (x3 : Int32) (x5 : Int32) (x6 : Int32) : Option ((Int32 × Int32 × Int32 × Int32 × Int32) ⊕ (Int32 × Int32 × Int32 × Int32)) := (if x6 = (1 : Int32) then fL_holds_j171 u x1 x2 x3 x5 x6 else (if x6 = (3 : Int32) then fL_holds_j171 u x1 x2 x3 x5 x6 else ((fX4_rowAt u x5).bind fun z36 => (if z36 = ((-1) : Int32) then fL_holds_j171 u x1 x2 x3 x5 x6 else fL_holds_j196 u x1 x2 x3 x5 x6))))
def fL_holds_j103 (u : TH) (x1 : Int32) (x2 : Int32) (x4 : Int32) (x5 : Int32) (x6 : Int32) (x7 : Int32) (t0 : Int32) (t1 : Int32) : Option ((Int32 × Int32 × Int32 × Int32 × Int32) ⊕ (Int32 × Int32 × Int32 × Int32)) := (if x4 = 0 then fL_holds_j196 u x1 x2 (t1 + t0) x5 x6 else ((fX4_isRow u x5).bind fun z39 => (if z39 = x7 then (if x6 = (1 : Int32) then ((fX4_placeOf u x5).bind fun z42 => (if z42 = x5 then ((fX4_rowAt u x5).bind fun z44 => (if z44 = x5 then fL_holds_j149 u x1 x2 (t1 + t0) x5 x6 else fL_holds_j196 u x1 x2 (t1 + t0) x5 x6)) else fL_holds_j196 u x1 x2 (t1 + t0) x5 x6)) else fL_holds_j149 u x1 x2 (t1 + t0) x5 x6) else fL_holds_j196 u x1 x2 (t1 + t0) x5 x6)))
def fL_holds_j89 (u : TH) (x1 : Int32) (x3 : Int32) (x4 : Int32) (x5 : Int32) (x6 : Int32) (x7 : Int32) (t0 : Int32) (t1 : Int32) : Option ((Int32 × Int32 × Int32 × Int32 × Int32) ⊕ (Int32 × Int32 × Int32 × Int32)) := (if x6 = (3 : Int32) then fL_holds_j103 u x1 (t1 + t0) x4 x5 x6 x7 (1 : Int32) x3 else fL_holds_j103 u x1 (t1 + t0) x4 x5 x6 x7 (0 : Int32) x3)
def fL_holds_j75 (u : TH) (x2 : Int32) (x3 : Int32) (x4 : Int32) (x5 : Int32) (x6 : Int32) (x7 : Int32) (t0 : Int32) (t1 : Int32) : Option ((Int32 × Int32 × Int32 × Int32 × Int32) ⊕ (Int32 × Int32 × Int32 × Int32)) := (if x6 = (2 : Int32) then fL_holds_j89 u (t1 + t0) x3 x4 x5 x6 x7 (1 : Int32) x2 else fL_holds_j89 u (t1 + t0) x3 x4 x5 x6 x7 (0 : Int32) x2)
def fL_holds_j62 (u : TH) (x1 : Int32) (x2 : Int32) (x3 : Int32) (x4 : Int32) (x5 : Int32) (x6 : Int32) (t0 : Int32) : Option ((Int32 × Int32 × Int32 × Int32 × Int32) ⊕ (Int32 × Int32 × Int32 × Int32)) := (if t0 = 0 then fL_holds_j75 u x2 x3 x4 x5 x6 t0 (0 : Int32) x1 else fL_holds_j75 u x2 x3 x4 x5 x6 t0 (1 : Int32) x1)
def fL_holds_j57 (u : TH) (x1 : Int32) (x2 : Int32) (x3 : Int32) (x4 : Int32) (x5 : Int32) (x6 : Int32) : Option ((Int32 × Int32 × Int32 × Int32 × Int32) ⊕ (Int32 × Int32 × Int32 × Int32)) := fL_holds_j62 u x1 x2 x3 x4 x5 x6 (1 : Int32)
def fL_holds_s25 (u : TH) (x1 : Int32) (x2 : Int32) (x3 : Int32) (x4 : Int32) (x5 : Int32) : Option ((Int32 × Int32 × Int32 × Int32 × Int32) ⊕ (Int32 × Int32 × Int32 × Int32)) := ((fX4_pages u).bind fun z49 => (if ((100 : Int32) * z49) ≤ x5 then some (.inr (x1, x2, x3, x4)) else ((fX4_kind u x5).bind fun z51 => (if z51 = (1 : Int32) then fL_holds_j57 u x1 x2 x3 x4 x5 z51 else (if z51 = (2 : Int32) then fL_holds_j57 u x1 x2 x3 x4 x5 z51 else fL_holds_j62 u x1 x2 x3 x4 x5 z51 (0 : Int32))))))
def fL_holds_j20 (u : TH) (x1 : Int32) (x2 : Int32) (x3 : Int32) (t0 : Int32) : Option (Int32) := ((itr (fun a : Int32 × Int32 × Int32 × Int32 × Int32 => fL_holds_s25 u a.1 a.2.1 a.2.2.1 a.2.2.2.1 a.2.2.2.2) FU (x1, x2, x3, t0, (0 : Int32))).bind fun b54 => ((fX4_next u ((-1) : Int32)).bind fun z55 => ((itr (fun a : Int32 × Int32 × Int32 × Int32 × Int32 × Int32 => fL_holds_s275 u a.1 a.2.1 a.2.2.1 a.2.2.2.1 a.2.2.2.2.1 a.2.2.2.2.2) FU (b54.1, b54.2.1, b54.2.2.1, b54.2.2.2, (0 : Int32), z55)).bind fun b56 => fL_holds_j300 u b56.1 b56.2.1 b56.2.2.1 b56.2.2.2.1 b56.2.2.2.2)))
def fL_holds (u : TH) : Option (Int32) := ((fX4_pages u).bind fun z57 => (if (8 : Int32) < z57 then fL_holds_j20 u (0 : Int32) (0 : Int32) (0 : Int32) (0 : Int32) else fL_holds_j20 u (0 : Int32) (0 : Int32) (0 : Int32) (1 : Int32)))
abbrev rmL_holds : Room := { frames := 6, cells := 0, slots := 0, locals := 134 }
set_option maxRecDepth 100000 in
set_option maxHeartbeats 4000000 in
theorem kL_holds (l : Launch) (G : va_G) (cI cS : ClassId) (sv : Nat) (ga : Nat → Nat) (u : TH) (r : Int32) (hf : fL_holds u = some r) : Met l yL_holds (.code yL_holds cL_holds 9 (some .boolean) :: bw) rmL_holds (va_Pc [.ref (ga 0)] (PreR G (tysW cI cS) (wH cI sv ga u))) (vp_Si (fun r' => r' = r)) 0 0 (fun _ => False) := by
  refine enterR (own := RL) (by decide) rfl rfl (Nat.le_of_ble_eq_true rfl) ?_
  intro p e s m args below meth c Q hQ S hr hlocks hP hK hN ls hl
  have hx := S.1; have hb := S.2.1; have hml := S.2.2.1; have hown := S.2.2.2.1; have hq := S.2.2.2.2
  have hl : lv_has ls 9 [(0, .ref (ga 0))] := hl
  have h := hf
  unfold fL_holds at h
  have J300 : ∀ (x1 : Int32) (x2 : Int32) (x3 : Int32) (x4 : Int32) (x5 : Int32) , fL_holds_j300 u x1 x2 x3 x4 x5 = some r → ∀ ls : Array Slot, lv_has ls 9 [(0, .ref (ga 0)), (1, .int x1), (2, .int x2), (3, .int x3), (4, .int x4), (5, .int x5)] → W p l e rmL_holds s m args below meth c s.heap [] 0 0 Q (F0 m 300 ls []) := by
    intro x1 x2 x3 x4 x5 h
    unfold fL_holds_j300 at h
    intro ls hl
    refine lv_iload hx hb dL_holds_300 (lv_at hl 4 rfl) ?_
    refine lv_if_eq (tgt := 385) hx hb dL_holds_302 (by decide) (fun c1 => ?_) (fun c1 => ?_)
    · have h := (if_pos c1).symm.trans h
      refine lv_iconst (v := 0) hx hb dL_holds_385 (by decide) ?_
      exact retRz hQ S hr hlocks rfl h dL_holds_386
    · have h := (if_neg c1).symm.trans h
      refine lv_iload hx hb dL_holds_305 (lv_at hl 5 rfl) ?_
      refine lv_iload_n hx hb dL_holds_307 rfl (lv_at hl 1 rfl) ?_
      refine lv_icmp_ne (tgt := 385) hx hb dL_holds_308 (by decide) (fun c2 => ?_) (fun c2 => ?_)
      · have h := (if_neg c2).symm.trans h
        refine lv_iconst (v := 0) hx hb dL_holds_385 (by decide) ?_
        exact retRz hQ S hr hlocks rfl h dL_holds_386
      · have h := (if_pos c2).symm.trans h
        refine lv_aload_n hx hb dL_holds_311 rfl (lv_at hl 0 rfl) ?_
        obtain ⟨z3, e_z3, h⟩ := bnd h
        refine roI (cc_L_9 sv ga S hK hN hP e_z3 hl.1 (Nat.le_of_ble_eq_true rfl) ⟨Nat.le_of_ble_eq_true rfl, Nat.le_of_ble_eq_true rfl⟩ dL_holds_312 ⟨Nat.le_of_ble_eq_true rfl, Nat.le_of_ble_eq_true rfl⟩) ?_
        refine lv_iload_n hx hb dL_holds_315 rfl (lv_at hl 1 rfl) ?_
        refine lv_icmp_ne (tgt := 385) hx hb dL_holds_316 (by decide) (fun c4 => ?_) (fun c4 => ?_)
        · have h := (if_neg c4).symm.trans h
          refine lv_iconst (v := 0) hx hb dL_holds_385 (by decide) ?_
          exact retRz hQ S hr hlocks rfl h dL_holds_386
        · have h := (if_pos c4).symm.trans h
          refine lv_aload_n hx hb dL_holds_319 rfl (lv_at hl 0 rfl) ?_
          obtain ⟨z5, e_z5, h⟩ := bnd h
          refine roI (cc_L_48 sv ga S hK hN hP e_z5 hl.1 (Nat.le_of_ble_eq_true rfl) ⟨Nat.le_of_ble_eq_true rfl, Nat.le_of_ble_eq_true rfl⟩ dL_holds_320 ⟨Nat.le_of_ble_eq_true rfl, Nat.le_of_ble_eq_true rfl⟩) ?_
          refine lv_iload_n hx hb dL_holds_323 rfl (lv_at hl 2 rfl) ?_
          refine lv_icmp_ne (tgt := 385) hx hb dL_holds_324 (by decide) (fun c6 => ?_) (fun c6 => ?_)
          · have h := (if_neg c6).symm.trans h
            refine lv_iconst (v := 0) hx hb dL_holds_385 (by decide) ?_
            exact retRz hQ S hr hlocks rfl h dL_holds_386
          · have h := (if_pos c6).symm.trans h
            refine lv_iload_n hx hb dL_holds_327 rfl (lv_at hl 3 rfl) ?_
            refine lv_iload_n hx hb dL_holds_328 rfl (lv_at hl 2 rfl) ?_
            refine lv_icmp_ne (tgt := 385) hx hb dL_holds_329 (by decide) (fun c7 => ?_) (fun c7 => ?_)
            · have h := (if_neg c7).symm.trans h
              refine lv_iconst (v := 0) hx hb dL_holds_385 (by decide) ?_
              exact retRz hQ S hr hlocks rfl h dL_holds_386
            · have h := (if_pos c7).symm.trans h
              refine lv_aload_n hx hb dL_holds_332 rfl (lv_at hl 0 rfl) ?_
              obtain ⟨z8, e_z8, h⟩ := bnd h
              refine roD (cc_L_51 sv ga S hK hN hP e_z8 hl.1 (Nat.le_of_ble_eq_true rfl) ⟨Nat.le_of_ble_eq_true rfl, Nat.le_of_ble_eq_true rfl⟩ dL_holds_333 ⟨Nat.le_of_ble_eq_true rfl, Nat.le_of_ble_eq_true rfl⟩) ?_
              refine lv_dconst0 hx hb dL_holds_336 ?_
              refine lv_dcmp hx hb dL_holds_337 ?_
              refine lv_if_lt (tgt := 385) hx hb dL_holds_338 (by decide) (fun c9 => ?_) (fun c9 => ?_)
              · have h := (if_pos c9).symm.trans h
                refine lv_iconst (v := 0) hx hb dL_holds_385 (by decide) ?_
                exact retRz hQ S hr hlocks rfl h dL_holds_386
              · have h := (if_neg c9).symm.trans h
                refine lv_aload_n hx hb dL_holds_341 rfl (lv_at hl 0 rfl) ?_
                obtain ⟨z10, e_z10, h⟩ := bnd h
                refine roD (cc_L_51 sv ga S hK hN hP e_z10 hl.1 (Nat.le_of_ble_eq_true rfl) ⟨Nat.le_of_ble_eq_true rfl, Nat.le_of_ble_eq_true rfl⟩ dL_holds_342 ⟨Nat.le_of_ble_eq_true rfl, Nat.le_of_ble_eq_true rfl⟩) ?_
                refine lv_dconst1 hx hb dL_holds_345 ?_
                refine lv_dcmp hx hb dL_holds_346 ?_
                refine lv_if_gt (tgt := 385) hx hb dL_holds_347 (by decide) (fun c11 => ?_) (fun c11 => ?_)
                · have h := (if_pos c11).symm.trans h
                  refine lv_iconst (v := 0) hx hb dL_holds_385 (by decide) ?_
                  exact retRz hQ S hr hlocks rfl h dL_holds_386
                · have h := (if_neg c11).symm.trans h
                  refine lv_aload_n hx hb dL_holds_350 rfl (lv_at hl 0 rfl) ?_
                  refine lv_iconst (v := (-1)) hx hb dL_holds_351 (by decide) ?_
                  obtain ⟨z12, e_z12, h⟩ := bnd h
                  refine roI (cc_L_42 sv ga S hK hN hP e_z12 hl.1 (Nat.le_of_ble_eq_true rfl) ⟨Nat.le_of_ble_eq_true rfl, Nat.le_of_ble_eq_true rfl⟩ dL_holds_352 ⟨Nat.le_of_ble_eq_true rfl, Nat.le_of_ble_eq_true rfl⟩) ?_
                  refine lv_if_ne (tgt := 385) hx hb dL_holds_355 (by decide) (fun c13 => ?_) (fun c13 => ?_)
                  · have h := (if_neg c13).symm.trans h
                    refine lv_iconst (v := 0) hx hb dL_holds_385 (by decide) ?_
                    exact retRz hQ S hr hlocks rfl h dL_holds_386
                  · have h := (if_pos c13).symm.trans h
                    refine lv_aload_n hx hb dL_holds_358 rfl (lv_at hl 0 rfl) ?_
                    refine lv_bipush (v := 99) hx hb dL_holds_359 (by decide) ?_
                    obtain ⟨z14, e_z14, h⟩ := bnd h
                    refine roI (cc_L_42 sv ga S hK hN hP e_z14 hl.1 (Nat.le_of_ble_eq_true rfl) ⟨Nat.le_of_ble_eq_true rfl, Nat.le_of_ble_eq_true rfl⟩ dL_holds_361 ⟨Nat.le_of_ble_eq_true rfl, Nat.le_of_ble_eq_true rfl⟩) ?_
                    refine lv_if_ne (tgt := 385) hx hb dL_holds_364 (by decide) (fun c15 => ?_) (fun c15 => ?_)
                    · have h := (if_neg c15).symm.trans h
                      refine lv_iconst (v := 0) hx hb dL_holds_385 (by decide) ?_
                      exact retRz hQ S hr hlocks rfl h dL_holds_386
                    · have h := (if_pos c15).symm.trans h
                      refine lv_aload_n hx hb dL_holds_367 rfl (lv_at hl 0 rfl) ?_
                      refine lv_bipush (v := 100) hx hb dL_holds_368 (by decide) ?_
                      refine lv_aload_n hx hb dL_holds_370 rfl (lv_at hl 0 rfl) ?_
                      obtain ⟨z16, e_z16, h⟩ := bnd h
                      refine roI (cc_L_24 sv ga S hK hN hP e_z16 hl.1 (Nat.le_of_ble_eq_true rfl) ⟨Nat.le_of_ble_eq_true rfl, Nat.le_of_ble_eq_true rfl⟩ dL_holds_371 ⟨Nat.le_of_ble_eq_true rfl, Nat.le_of_ble_eq_true rfl⟩) ?_
                      refine lv_imul hx hb dL_holds_374 ?_
                      obtain ⟨z17, e_z17, h⟩ := bnd h
                      refine roI (cc_L_42 sv ga S hK hN hP e_z17 hl.1 (Nat.le_of_ble_eq_true rfl) ⟨Nat.le_of_ble_eq_true rfl, Nat.le_of_ble_eq_true rfl⟩ dL_holds_375 ⟨Nat.le_of_ble_eq_true rfl, Nat.le_of_ble_eq_true rfl⟩) ?_
                      refine lv_if_ne (tgt := 385) hx hb dL_holds_378 (by decide) (fun c18 => ?_) (fun c18 => ?_)
                      · have h := (if_neg c18).symm.trans h
                        refine lv_iconst (v := 0) hx hb dL_holds_385 (by decide) ?_
                        exact retRz hQ S hr hlocks rfl h dL_holds_386
                      · have h := (if_pos c18).symm.trans h
                        refine lv_iconst (v := 1) hx hb dL_holds_381 (by decide) ?_
                        refine lv_goto (tgt := 386) hx hb dL_holds_382 (by decide) ?_
                        exact retRz hQ S hr hlocks rfl h dL_holds_386
  have L275 : ∀ (n9 : Nat) (a9 : Int32 × Int32 × Int32 × Int32 × Int32 × Int32) (b9 : Int32 × Int32 × Int32 × Int32 × Int32), itr (fun a : Int32 × Int32 × Int32 × Int32 × Int32 × Int32 => fL_holds_s275 u a.1 a.2.1 a.2.2.1 a.2.2.2.1 a.2.2.2.2.1 a.2.2.2.2.2) n9 a9 = some b9 → (fun b : Int32 × Int32 × Int32 × Int32 × Int32 => ∀ ls : Array Slot, lv_has ls 9 [(0, .ref (ga 0)), (1, .int b.1), (2, .int b.2.1), (3, .int b.2.2.1), (4, .int b.2.2.2.1), (5, .int b.2.2.2.2)] → W p l e rmL_holds s m args below meth c s.heap [] 0 0 Q (F0 m 300 ls [])) b9 → (fun a : Int32 × Int32 × Int32 × Int32 × Int32 × Int32 => ∀ ls : Array Slot, lv_has ls 9 [(0, .ref (ga 0)), (1, .int a.1), (2, .int a.2.1), (3, .int a.2.2.1), (4, .int a.2.2.2.1), (5, .int a.2.2.2.2.1), (6, .int a.2.2.2.2.2)] → W p l e rmL_holds s m args below meth c s.heap [] 0 0 Q (F0 m 275 ls [])) a9 := by
    refine itr_ind (Inv := (fun a : Int32 × Int32 × Int32 × Int32 × Int32 × Int32 => ∀ ls : Array Slot, lv_has ls 9 [(0, .ref (ga 0)), (1, .int a.1), (2, .int a.2.1), (3, .int a.2.2.1), (4, .int a.2.2.2.1), (5, .int a.2.2.2.2.1), (6, .int a.2.2.2.2.2)] → W p l e rmL_holds s m args below meth c s.heap [] 0 0 Q (F0 m 275 ls []))) (Ex := (fun b : Int32 × Int32 × Int32 × Int32 × Int32 => ∀ ls : Array Slot, lv_has ls 9 [(0, .ref (ga 0)), (1, .int b.1), (2, .int b.2.1), (3, .int b.2.2.1), (4, .int b.2.2.2.1), (5, .int b.2.2.2.2)] → W p l e rmL_holds s m args below meth c s.heap [] 0 0 Q (F0 m 300 ls []))) ?_
    rintro ⟨x1, x2, x3, x4, x5, x6⟩ z h hI hE
    have h : fL_holds_s275 u x1 x2 x3 x4 x5 x6 = some z := h
    unfold fL_holds_s275 at h
    show ∀ ls : Array Slot, lv_has ls 9 [(0, .ref (ga 0)), (1, .int x1), (2, .int x2), (3, .int x3), (4, .int x4), (5, .int x5), (6, .int x6)] → W p l e rmL_holds s m args below meth c s.heap [] 0 0 Q (F0 m 275 ls [])
    intro ls hl
    refine lv_iload hx hb dL_holds_275 (lv_at hl 6 rfl) ?_
    refine lv_if_lt (tgt := 300) hx hb dL_holds_277 (by decide) (fun c19 => ?_) (fun c19 => ?_)
    · have h := (if_pos c19).symm.trans h
      exact hE _ (Option.some.inj h) _ (lv_sub hl [0, 1, 2, 3, 4, 5] rfl)
    · have h := (if_neg c19).symm.trans h
      refine lv_iload hx hb dL_holds_280 (lv_at hl 5 rfl) ?_
      refine lv_iload_n hx hb dL_holds_282 rfl (lv_at hl 1 rfl) ?_
      refine lv_icmp_gt (tgt := 300) hx hb dL_holds_283 (by decide) (fun c20 => ?_) (fun c20 => ?_)
      · have h := (if_pos c20).symm.trans h
        exact hE _ (Option.some.inj h) _ (lv_sub hl [0, 1, 2, 3, 4, 5] rfl)
      · have h := (if_neg c20).symm.trans h
        refine lv_iinc (v := (x5 + 1)) (lv' := [(5, .int (x5 + 1)), (0, .ref (ga 0)), (1, .int x1), (2, .int x2), (3, .int x3), (4, .int x4), (6, .int x6)]) hx hb dL_holds_286 hl (k := 5) rfl rfl (by decide) rfl (fun ls hl => ?_)
        refine lv_aload_n hx hb dL_holds_289 rfl (lv_at hl 1 rfl) ?_
        refine lv_iload hx hb dL_holds_290 (lv_at hl 6 rfl) ?_
        obtain ⟨z21, e_z21, h⟩ := bnd h
        refine roI (cc_L_15 sv ga S hK hN hP e_z21 hl.1 (Nat.le_of_ble_eq_true rfl) ⟨Nat.le_of_ble_eq_true rfl, Nat.le_of_ble_eq_true rfl⟩ dL_holds_292 ⟨Nat.le_of_ble_eq_true rfl, Nat.le_of_ble_eq_true rfl⟩) ?_
        refine lv_istore (lv' := [(6, .int z21), (5, .int (x5 + 1)), (0, .ref (ga 0)), (1, .int x1), (2, .int x2), (3, .int x3), (4, .int x4)]) hx hb dL_holds_295 hl (by decide) rfl (fun ls hl => ?_)
        refine lv_goto (tgt := 275) hx hb dL_holds_297 (by decide) ?_
        exact hI _ (Option.some.inj h) _ (lv_sub hl [2, 3, 4, 5, 6, 1, 0] rfl)
  have L25 : ∀ (n9 : Nat) (a9 : Int32 × Int32 × Int32 × Int32 × Int32) (b9 : Int32 × Int32 × Int32 × Int32), itr (fun a : Int32 × Int32 × Int32 × Int32 × Int32 => fL_holds_s25 u a.1 a.2.1 a.2.2.1 a.2.2.2.1 a.2.2.2.2) n9 a9 = some b9 → (fun b : Int32 × Int32 × Int32 × Int32 => ∀ ls : Array Slot, lv_has ls 9 [(0, .ref (ga 0)), (1, .int b.1), (2, .int b.2.1), (3, .int b.2.2.1), (4, .int b.2.2.2)] → W p l e rmL_holds s m args below meth c s.heap [] 0 0 Q (F0 m 265 ls [])) b9 → (fun a : Int32 × Int32 × Int32 × Int32 × Int32 => ∀ ls : Array Slot, lv_has ls 9 [(0, .ref (ga 0)), (1, .int a.1), (2, .int a.2.1), (3, .int a.2.2.1), (4, .int a.2.2.2.1), (5, .int a.2.2.2.2)] → W p l e rmL_holds s m args below meth c s.heap [] 0 0 Q (F0 m 25 ls [])) a9 := by
    refine itr_ind (Inv := (fun a : Int32 × Int32 × Int32 × Int32 × Int32 => ∀ ls : Array Slot, lv_has ls 9 [(0, .ref (ga 0)), (1, .int a.1), (2, .int a.2.1), (3, .int a.2.2.1), (4, .int a.2.2.2.1), (5, .int a.2.2.2.2)] → W p l e rmL_holds s m args below meth c s.heap [] 0 0 Q (F0 m 25 ls []))) (Ex := (fun b : Int32 × Int32 × Int32 × Int32 => ∀ ls : Array Slot, lv_has ls 9 [(0, .ref (ga 0)), (1, .int b.1), (2, .int b.2.1), (3, .int b.2.2.1), (4, .int b.2.2.2)] → W p l e rmL_holds s m args below meth c s.heap [] 0 0 Q (F0 m 265 ls []))) ?_
    rintro ⟨x1, x2, x3, x4, x5⟩ z h hI hE
    have h : fL_holds_s25 u x1 x2 x3 x4 x5 = some z := h
    unfold fL_holds_s25 at h
    show ∀ ls : Array Slot, lv_has ls 9 [(0, .ref (ga 0)), (1, .int x1), (2, .int x2), (3, .int x3), (4, .int x4), (5, .int x5)] → W p l e rmL_holds s m args below meth c s.heap [] 0 0 Q (F0 m 25 ls [])
    have J259 : ∀ (x1 : Int32) (x2 : Int32) (x3 : Int32) (x4 : Int32) (x5 : Int32) , fL_holds_j259 u x1 x2 x3 x4 x5 = some z → ∀ ls : Array Slot, lv_has ls 9 [(0, .ref (ga 0)), (1, .int x1), (2, .int x2), (3, .int x3), (4, .int x4), (5, .int x5)] → W p l e rmL_holds s m args below meth c s.heap [] 0 0 Q (F0 m 259 ls []) := by
      intro x1 x2 x3 x4 x5 h
      unfold fL_holds_j259 at h
      intro ls hl
      refine lv_iinc (v := (x5 + 1)) (lv' := [(5, .int (x5 + 1)), (0, .ref (ga 0)), (1, .int x1), (2, .int x2), (3, .int x3), (4, .int x4)]) hx hb dL_holds_259 hl (k := 5) rfl rfl (by decide) rfl (fun ls hl => ?_)
      refine lv_goto (tgt := 25) hx hb dL_holds_262 (by decide) ?_
      exact hI _ (Option.some.inj h) _ (lv_sub hl [1, 2, 3, 4, 5, 0] rfl)
    have J257 : ∀ (x1 : Int32) (x2 : Int32) (x3 : Int32) (x5 : Int32) (t0 : Int32) , fL_holds_j257 u x1 x2 x3 x5 t0 = some z → ∀ ls : Array Slot, lv_has ls 9 [(0, .ref (ga 0)), (1, .int x1), (2, .int x2), (3, .int x3), (5, .int x5)] → W p l e rmL_holds s m args below meth c s.heap [] 0 0 Q (F0 m 257 ls [.int t0]) := by
      intro x1 x2 x3 x5 t0 h
      unfold fL_holds_j257 at h
      intro ls hl
      refine lv_istore (lv' := [(4, .int t0), (0, .ref (ga 0)), (1, .int x1), (2, .int x2), (3, .int x3), (5, .int x5)]) hx hb dL_holds_257 hl (by decide) rfl (fun ls hl => ?_)
      exact J259 x1 x2 x3 t0 x5 h _ (lv_sub hl [1, 2, 3, 4, 0, 5] rfl)
    have J256 : ∀ (x1 : Int32) (x2 : Int32) (x3 : Int32) (x5 : Int32) , fL_holds_j256 u x1 x2 x3 x5 = some z → ∀ ls : Array Slot, lv_has ls 9 [(0, .ref (ga 0)), (1, .int x1), (2, .int x2), (3, .int x3), (5, .int x5)] → W p l e rmL_holds s m args below meth c s.heap [] 0 0 Q (F0 m 256 ls []) := by
      intro x1 x2 x3 x5 h
      unfold fL_holds_j256 at h
      intro ls hl
      refine lv_iconst (v := 0) hx hb dL_holds_256 (by decide) ?_
      exact J257 x1 x2 x3 x5 (0 : Int32) h _ (lv_sub hl [0, 1, 2, 3, 4] rfl)
    have J197 : ∀ (x1 : Int32) (x2 : Int32) (x3 : Int32) (x5 : Int32) (x6 : Int32) (t0 : Int32) , fL_holds_j197 u x1 x2 x3 x5 x6 t0 = some z → ∀ ls : Array Slot, lv_has ls 9 [(0, .ref (ga 0)), (1, .int x1), (2, .int x2), (3, .int x3), (5, .int x5), (6, .int x6)] → W p l e rmL_holds s m args below meth c s.heap [] 0 0 Q (F0 m 197 ls [.int t0]) := by
      intro x1 x2 x3 x5 x6 t0 h
      unfold fL_holds_j197 at h
      intro ls hl
      refine lv_istore (lv' := [(4, .int t0), (0, .ref (ga 0)), (1, .int x1), (2, .int x2), (3, .int x3), (5, .int x5), (6, .int x6)]) hx hb dL_holds_197 hl (by decide) rfl (fun ls hl => ?_)
      refine lv_iload hx hb dL_holds_199 (lv_at hl 6 rfl) ?_
      refine lv_iconst (v := 2) hx hb dL_holds_201 (by decide) ?_
      refine lv_icmp_ne (tgt := 259) hx hb dL_holds_202 (by decide) (fun c22 => ?_) (fun c22 => ?_)
      · have h := (if_neg c22).symm.trans h
        exact J259 x1 x2 x3 t0 x5 h _ (lv_sub hl [1, 2, 3, 4, 0, 5] rfl)
      · have h := (if_pos c22).symm.trans h
        refine lv_aload_n hx hb dL_holds_205 rfl (lv_at hl 1 rfl) ?_
        refine lv_iload hx hb dL_holds_206 (lv_at hl 5 rfl) ?_
        obtain ⟨z23, e_z23, h⟩ := bnd h
        refine roI (cc_L_45 sv ga S hK hN hP e_z23 hl.1 (Nat.le_of_ble_eq_true rfl) ⟨Nat.le_of_ble_eq_true rfl, Nat.le_of_ble_eq_true rfl⟩ dL_holds_208 ⟨Nat.le_of_ble_eq_true rfl, Nat.le_of_ble_eq_true rfl⟩) ?_
        refine lv_istore (lv' := [(8, .int z23), (4, .int t0), (0, .ref (ga 0)), (1, .int x1), (2, .int x2), (3, .int x3), (5, .int x5), (6, .int x6)]) hx hb dL_holds_211 hl (by decide) rfl (fun ls hl => ?_)
        refine lv_iload hx hb dL_holds_213 (lv_at hl 1 rfl) ?_
        refine lv_if_eq (tgt := 256) hx hb dL_holds_215 (by decide) (fun c24 => ?_) (fun c24 => ?_)
        · have h := (if_pos c24).symm.trans h
          exact J256 x1 x2 x3 x5 h _ (lv_sub hl [2, 3, 4, 5, 6] rfl)
        · have h := (if_neg c24).symm.trans h
          refine lv_aload_n hx hb dL_holds_218 rfl (lv_at hl 2 rfl) ?_
          refine lv_iload hx hb dL_holds_219 (lv_at hl 0 rfl) ?_
          obtain ⟨z25, e_z25, h⟩ := bnd h
          refine roI (cc_L_42 sv ga S hK hN hP e_z25 hl.1 (Nat.le_of_ble_eq_true rfl) ⟨Nat.le_of_ble_eq_true rfl, Nat.le_of_ble_eq_true rfl⟩ dL_holds_221 ⟨Nat.le_of_ble_eq_true rfl, Nat.le_of_ble_eq_true rfl⟩) ?_
          refine lv_iconst (v := 3) hx hb dL_holds_224 (by decide) ?_
          refine lv_icmp_ne (tgt := 256) hx hb dL_holds_225 (by decide) (fun c26 => ?_) (fun c26 => ?_)
          · have h := (if_neg c26).symm.trans h
            exact J256 x1 x2 x3 x5 h _ (lv_sub hl [2, 3, 4, 5, 6] rfl)
          · have h := (if_pos c26).symm.trans h
            refine lv_aload_n hx hb dL_holds_228 rfl (lv_at hl 2 rfl) ?_
            refine lv_iload hx hb dL_holds_229 (lv_at hl 0 rfl) ?_
            obtain ⟨z27, e_z27, h⟩ := bnd h
            refine roI (cc_L_19 sv ga S hK hN hP e_z27 hl.1 (Nat.le_of_ble_eq_true rfl) ⟨Nat.le_of_ble_eq_true rfl, Nat.le_of_ble_eq_true rfl⟩ dL_holds_231 ⟨Nat.le_of_ble_eq_true rfl, Nat.le_of_ble_eq_true rfl⟩) ?_
            refine lv_iload hx hb dL_holds_234 (lv_at hl 6 rfl) ?_
            refine lv_icmp_ne (tgt := 256) hx hb dL_holds_236 (by decide) (fun c28 => ?_) (fun c28 => ?_)
            · have h := (if_neg c28).symm.trans h
              exact J256 x1 x2 x3 x5 h _ (lv_sub hl [2, 3, 4, 5, 6] rfl)
            · have h := (if_pos c28).symm.trans h
              refine lv_iload hx hb dL_holds_239 (lv_at hl 0 rfl) ?_
              refine lv_bipush (v := 100) hx hb dL_holds_241 (by decide) ?_
              refine lv_idiv hx hb dL_holds_243 (by decide) ?_
              refine lv_iload hx hb dL_holds_244 (lv_at hl 6 rfl) ?_
              refine lv_bipush (v := 100) hx hb dL_holds_246 (by decide) ?_
              refine lv_idiv hx hb dL_holds_248 (by decide) ?_
              refine lv_icmp_eq (tgt := 256) hx hb dL_holds_249 (by decide) (fun c29 => ?_) (fun c29 => ?_)
              · have h := (if_pos c29).symm.trans h
                exact J256 x1 x2 x3 x5 h _ (lv_sub hl [2, 3, 4, 5, 6] rfl)
              · have h := (if_neg c29).symm.trans h
                refine lv_iconst (v := 1) hx hb dL_holds_252 (by decide) ?_
                refine lv_goto (tgt := 257) hx hb dL_holds_253 (by decide) ?_
                exact J257 x1 x2 x3 x5 (1 : Int32) h _ (lv_sub hl [2, 3, 4, 5, 6] rfl)
    have J196 : ∀ (x1 : Int32) (x2 : Int32) (x3 : Int32) (x5 : Int32) (x6 : Int32) , fL_holds_j196 u x1 x2 x3 x5 x6 = some z → ∀ ls : Array Slot, lv_has ls 9 [(0, .ref (ga 0)), (1, .int x1), (2, .int x2), (3, .int x3), (5, .int x5), (6, .int x6)] → W p l e rmL_holds s m args below meth c s.heap [] 0 0 Q (F0 m 196 ls []) := by
      intro x1 x2 x3 x5 x6 h
      unfold fL_holds_j196 at h
      intro ls hl
      refine lv_iconst (v := 0) hx hb dL_holds_196 (by decide) ?_
      exact J197 x1 x2 x3 x5 x6 (0 : Int32) h _ (lv_sub hl [0, 1, 2, 3, 4, 5] rfl)
    have J192 : ∀ (x1 : Int32) (x2 : Int32) (x3 : Int32) (x5 : Int32) (x6 : Int32) , fL_holds_j192 u x1 x2 x3 x5 x6 = some z → ∀ ls : Array Slot, lv_has ls 9 [(0, .ref (ga 0)), (1, .int x1), (2, .int x2), (3, .int x3), (5, .int x5), (6, .int x6)] → W p l e rmL_holds s m args below meth c s.heap [] 0 0 Q (F0 m 192 ls []) := by
      intro x1 x2 x3 x5 x6 h
      unfold fL_holds_j192 at h
      intro ls hl
      refine lv_iconst (v := 1) hx hb dL_holds_192 (by decide) ?_
      refine lv_goto (tgt := 197) hx hb dL_holds_193 (by decide) ?_
      exact J197 x1 x2 x3 x5 x6 (1 : Int32) h _ (lv_sub hl [0, 1, 2, 3, 4, 5] rfl)
    have J171 : ∀ (x1 : Int32) (x2 : Int32) (x3 : Int32) (x5 : Int32) (x6 : Int32) , fL_holds_j171 u x1 x2 x3 x5 x6 = some z → ∀ ls : Array Slot, lv_has ls 9 [(0, .ref (ga 0)), (1, .int x1), (2, .int x2), (3, .int x3), (5, .int x5), (6, .int x6)] → W p l e rmL_holds s m args below meth c s.heap [] 0 0 Q (F0 m 171 ls []) := by
      intro x1 x2 x3 x5 x6 h
      unfold fL_holds_j171 at h
      intro ls hl
      refine lv_iload hx hb dL_holds_171 (lv_at hl 5 rfl) ?_
      refine lv_iconst (v := 3) hx hb dL_holds_173 (by decide) ?_
      refine lv_icmp_ne (tgt := 192) hx hb dL_holds_174 (by decide) (fun c30 => ?_) (fun c30 => ?_)
      · have h := (if_neg c30).symm.trans h
        exact J192 x1 x2 x3 x5 x6 h _ (lv_sub hl [0, 1, 2, 3, 4, 5] rfl)
      · have h := (if_pos c30).symm.trans h
        refine lv_aload_n hx hb dL_holds_177 rfl (lv_at hl 0 rfl) ?_
        refine lv_aload_n hx hb dL_holds_178 rfl (lv_at hl 0 rfl) ?_
        refine lv_iload hx hb dL_holds_179 (lv_at hl 4 rfl) ?_
        obtain ⟨z31, e_z31, h⟩ := bnd h
        refine roI (cc_L_19 sv ga S hK hN hP e_z31 hl.1 (Nat.le_of_ble_eq_true rfl) ⟨Nat.le_of_ble_eq_true rfl, Nat.le_of_ble_eq_true rfl⟩ dL_holds_181 ⟨Nat.le_of_ble_eq_true rfl, Nat.le_of_ble_eq_true rfl⟩) ?_
        obtain ⟨z32, e_z32, h⟩ := bnd h
        refine roI (cc_L_45 sv ga S hK hN hP e_z32 hl.1 (Nat.le_of_ble_eq_true rfl) ⟨Nat.le_of_ble_eq_true rfl, Nat.le_of_ble_eq_true rfl⟩ dL_holds_184 ⟨Nat.le_of_ble_eq_true rfl, Nat.le_of_ble_eq_true rfl⟩) ?_
        refine lv_iload hx hb dL_holds_187 (lv_at hl 4 rfl) ?_
        refine lv_icmp_ne (tgt := 196) hx hb dL_holds_189 (by decide) (fun c33 => ?_) (fun c33 => ?_)
        · have h := (if_neg c33).symm.trans h
          exact J196 x1 x2 x3 x5 x6 h _ (lv_sub hl [0, 1, 2, 3, 4, 5] rfl)
        · have h := (if_pos c33).symm.trans h
          exact J192 x1 x2 x3 x5 x6 h _ (lv_sub hl [0, 1, 2, 3, 4, 5] rfl)
    have J149 : ∀ (x1 : Int32) (x2 : Int32) (x3 : Int32) (x5 : Int32) (x6 : Int32) , fL_holds_j149 u x1 x2 x3 x5 x6 = some z → ∀ ls : Array Slot, lv_has ls 9 [(0, .ref (ga 0)), (1, .int x1), (2, .int x2), (3, .int x3), (5, .int x5), (6, .int x6)] → W p l e rmL_holds s m args below meth c s.heap [] 0 0 Q (F0 m 149 ls []) := by
      intro x1 x2 x3 x5 x6 h
      unfold fL_holds_j149 at h
      intro ls hl
      refine lv_iload hx hb dL_holds_149 (lv_at hl 5 rfl) ?_
      refine lv_iconst (v := 1) hx hb dL_holds_151 (by decide) ?_
      refine lv_icmp_eq (tgt := 171) hx hb dL_holds_152 (by decide) (fun c34 => ?_) (fun c34 => ?_)
      · have h := (if_pos c34).symm.trans h
        exact J171 x1 x2 x3 x5 x6 h _ (lv_sub hl [0, 1, 2, 3, 4, 5] rfl)
      · have h := (if_neg c34).symm.trans h
        refine lv_iload hx hb dL_holds_155 (lv_at hl 5 rfl) ?_
        refine lv_iconst (v := 3) hx hb dL_holds_157 (by decide) ?_
        refine lv_icmp_eq (tgt := 171) hx hb dL_holds_158 (by decide) (fun c35 => ?_) (fun c35 => ?_)
        · have h := (if_pos c35).symm.trans h
          exact J171 x1 x2 x3 x5 x6 h _ (lv_sub hl [0, 1, 2, 3, 4, 5] rfl)
        · have h := (if_neg c35).symm.trans h
          refine lv_aload_n hx hb dL_holds_161 rfl (lv_at hl 0 rfl) ?_
          refine lv_iload hx hb dL_holds_162 (lv_at hl 4 rfl) ?_
          obtain ⟨z36, e_z36, h⟩ := bnd h
          refine roI (cc_L_19 sv ga S hK hN hP e_z36 hl.1 (Nat.le_of_ble_eq_true rfl) ⟨Nat.le_of_ble_eq_true rfl, Nat.le_of_ble_eq_true rfl⟩ dL_holds_164 ⟨Nat.le_of_ble_eq_true rfl, Nat.le_of_ble_eq_true rfl⟩) ?_
          refine lv_iconst (v := (-1)) hx hb dL_holds_167 (by decide) ?_
          refine lv_icmp_ne (tgt := 196) hx hb dL_holds_168 (by decide) (fun c37 => ?_) (fun c37 => ?_)
          · have h := (if_neg c37).symm.trans h
            exact J196 x1 x2 x3 x5 x6 h _ (lv_sub hl [0, 1, 2, 3, 4, 5] rfl)
          · have h := (if_pos c37).symm.trans h
            exact J171 x1 x2 x3 x5 x6 h _ (lv_sub hl [0, 1, 2, 3, 4, 5] rfl)
    have J103 : ∀ (x1 : Int32) (x2 : Int32) (x4 : Int32) (x5 : Int32) (x6 : Int32) (x7 : Int32) (t0 : Int32) (t1 : Int32) , fL_holds_j103 u x1 x2 x4 x5 x6 x7 t0 t1 = some z → ∀ ls : Array Slot, lv_has ls 9 [(0, .ref (ga 0)), (1, .int x1), (2, .int x2), (4, .int x4), (5, .int x5), (6, .int x6), (7, .int x7)] → W p l e rmL_holds s m args below meth c s.heap [] 0 0 Q (F0 m 103 ls [.int t0, .int t1]) := by
      intro x1 x2 x4 x5 x6 x7 t0 t1 h
      unfold fL_holds_j103 at h
      intro ls hl
      refine lv_iadd hx hb dL_holds_103 ?_
      refine lv_istore_n (lv' := [(3, .int (t1 + t0)), (0, .ref (ga 0)), (1, .int x1), (2, .int x2), (4, .int x4), (5, .int x5), (6, .int x6), (7, .int x7)]) hx hb dL_holds_104 rfl hl (by decide) rfl (fun ls hl => ?_)
      refine lv_iload hx hb dL_holds_105 (lv_at hl 4 rfl) ?_
      refine lv_if_eq (tgt := 196) hx hb dL_holds_107 (by decide) (fun c38 => ?_) (fun c38 => ?_)
      · have h := (if_pos c38).symm.trans h
        exact J196 x1 x2 (t1 + t0) x5 x6 h _ (lv_sub hl [1, 2, 3, 0, 5, 6] rfl)
      · have h := (if_neg c38).symm.trans h
        refine lv_aload_n hx hb dL_holds_110 rfl (lv_at hl 1 rfl) ?_
        refine lv_iload hx hb dL_holds_111 (lv_at hl 5 rfl) ?_
        obtain ⟨z39, e_z39, h⟩ := bnd h
        refine roI (cc_L_27 sv ga S hK hN hP e_z39 hl.1 (Nat.le_of_ble_eq_true rfl) ⟨Nat.le_of_ble_eq_true rfl, Nat.le_of_ble_eq_true rfl⟩ dL_holds_113 ⟨Nat.le_of_ble_eq_true rfl, Nat.le_of_ble_eq_true rfl⟩) ?_
        refine lv_iload hx hb dL_holds_116 (lv_at hl 7 rfl) ?_
        refine lv_icmp_ne (tgt := 196) hx hb dL_holds_118 (by decide) (fun c40 => ?_) (fun c40 => ?_)
        · have h := (if_neg c40).symm.trans h
          exact J196 x1 x2 (t1 + t0) x5 x6 h _ (lv_sub hl [1, 2, 3, 0, 5, 6] rfl)
        · have h := (if_pos c40).symm.trans h
          refine lv_iload hx hb dL_holds_121 (lv_at hl 6 rfl) ?_
          refine lv_iconst (v := 1) hx hb dL_holds_123 (by decide) ?_
          refine lv_icmp_ne (tgt := 149) hx hb dL_holds_124 (by decide) (fun c41 => ?_) (fun c41 => ?_)
          · have h := (if_neg c41).symm.trans h
            exact J149 x1 x2 (t1 + t0) x5 x6 h _ (lv_sub hl [1, 2, 3, 0, 5, 6] rfl)
          · have h := (if_pos c41).symm.trans h
            refine lv_aload_n hx hb dL_holds_127 rfl (lv_at hl 1 rfl) ?_
            refine lv_iload hx hb dL_holds_128 (lv_at hl 5 rfl) ?_
            obtain ⟨z42, e_z42, h⟩ := bnd h
            refine roI (cc_L_45 sv ga S hK hN hP e_z42 hl.1 (Nat.le_of_ble_eq_true rfl) ⟨Nat.le_of_ble_eq_true rfl, Nat.le_of_ble_eq_true rfl⟩ dL_holds_130 ⟨Nat.le_of_ble_eq_true rfl, Nat.le_of_ble_eq_true rfl⟩) ?_
            refine lv_iload hx hb dL_holds_133 (lv_at hl 5 rfl) ?_
            refine lv_icmp_ne (tgt := 196) hx hb dL_holds_135 (by decide) (fun c43 => ?_) (fun c43 => ?_)
            · have h := (if_neg c43).symm.trans h
              exact J196 x1 x2 (t1 + t0) x5 x6 h _ (lv_sub hl [1, 2, 3, 0, 5, 6] rfl)
            · have h := (if_pos c43).symm.trans h
              refine lv_aload_n hx hb dL_holds_138 rfl (lv_at hl 1 rfl) ?_
              refine lv_iload hx hb dL_holds_139 (lv_at hl 5 rfl) ?_
              obtain ⟨z44, e_z44, h⟩ := bnd h
              refine roI (cc_L_19 sv ga S hK hN hP e_z44 hl.1 (Nat.le_of_ble_eq_true rfl) ⟨Nat.le_of_ble_eq_true rfl, Nat.le_of_ble_eq_true rfl⟩ dL_holds_141 ⟨Nat.le_of_ble_eq_true rfl, Nat.le_of_ble_eq_true rfl⟩) ?_
              refine lv_iload hx hb dL_holds_144 (lv_at hl 5 rfl) ?_
              refine lv_icmp_ne (tgt := 196) hx hb dL_holds_146 (by decide) (fun c45 => ?_) (fun c45 => ?_)
              · have h := (if_neg c45).symm.trans h
                exact J196 x1 x2 (t1 + t0) x5 x6 h _ (lv_sub hl [1, 2, 3, 0, 5, 6] rfl)
              · have h := (if_pos c45).symm.trans h
                exact J149 x1 x2 (t1 + t0) x5 x6 h _ (lv_sub hl [1, 2, 3, 0, 5, 6] rfl)
    have J89 : ∀ (x1 : Int32) (x3 : Int32) (x4 : Int32) (x5 : Int32) (x6 : Int32) (x7 : Int32) (t0 : Int32) (t1 : Int32) , fL_holds_j89 u x1 x3 x4 x5 x6 x7 t0 t1 = some z → ∀ ls : Array Slot, lv_has ls 9 [(0, .ref (ga 0)), (1, .int x1), (3, .int x3), (4, .int x4), (5, .int x5), (6, .int x6), (7, .int x7)] → W p l e rmL_holds s m args below meth c s.heap [] 0 0 Q (F0 m 89 ls [.int t0, .int t1]) := by
      intro x1 x3 x4 x5 x6 x7 t0 t1 h
      unfold fL_holds_j89 at h
      intro ls hl
      refine lv_iadd hx hb dL_holds_89 ?_
      refine lv_istore_n (lv' := [(2, .int (t1 + t0)), (0, .ref (ga 0)), (1, .int x1), (3, .int x3), (4, .int x4), (5, .int x5), (6, .int x6), (7, .int x7)]) hx hb dL_holds_90 rfl hl (by decide) rfl (fun ls hl => ?_)
      refine lv_iload_n hx hb dL_holds_91 rfl (lv_at hl 3 rfl) ?_
      refine lv_iload hx hb dL_holds_92 (lv_at hl 6 rfl) ?_
      refine lv_iconst (v := 3) hx hb dL_holds_94 (by decide) ?_
      refine lv_icmp_ne (tgt := 102) hx hb dL_holds_95 (by decide) (fun c46 => ?_) (fun c46 => ?_)
      · have h := (if_neg c46).symm.trans h
        refine lv_iconst (v := 0) hx hb dL_holds_102 (by decide) ?_
        exact J103 x1 (t1 + t0) x4 x5 x6 x7 (0 : Int32) x3 h _ (lv_sub hl [1, 2, 0, 4, 5, 6, 7] rfl)
      · have h := (if_pos c46).symm.trans h
        refine lv_iconst (v := 1) hx hb dL_holds_98 (by decide) ?_
        refine lv_goto (tgt := 103) hx hb dL_holds_99 (by decide) ?_
        exact J103 x1 (t1 + t0) x4 x5 x6 x7 (1 : Int32) x3 h _ (lv_sub hl [1, 2, 0, 4, 5, 6, 7] rfl)
    have J75 : ∀ (x2 : Int32) (x3 : Int32) (x4 : Int32) (x5 : Int32) (x6 : Int32) (x7 : Int32) (t0 : Int32) (t1 : Int32) , fL_holds_j75 u x2 x3 x4 x5 x6 x7 t0 t1 = some z → ∀ ls : Array Slot, lv_has ls 9 [(0, .ref (ga 0)), (2, .int x2), (3, .int x3), (4, .int x4), (5, .int x5), (6, .int x6), (7, .int x7)] → W p l e rmL_holds s m args below meth c s.heap [] 0 0 Q (F0 m 75 ls [.int t0, .int t1]) := by
      intro x2 x3 x4 x5 x6 x7 t0 t1 h
      unfold fL_holds_j75 at h
      intro ls hl
      refine lv_iadd hx hb dL_holds_75 ?_
      refine lv_istore_n (lv' := [(1, .int (t1 + t0)), (0, .ref (ga 0)), (2, .int x2), (3, .int x3), (4, .int x4), (5, .int x5), (6, .int x6), (7, .int x7)]) hx hb dL_holds_76 rfl hl (by decide) rfl (fun ls hl => ?_)
      refine lv_iload_n hx hb dL_holds_77 rfl (lv_at hl 2 rfl) ?_
      refine lv_iload hx hb dL_holds_78 (lv_at hl 6 rfl) ?_
      refine lv_iconst (v := 2) hx hb dL_holds_80 (by decide) ?_
      refine lv_icmp_ne (tgt := 88) hx hb dL_holds_81 (by decide) (fun c47 => ?_) (fun c47 => ?_)
      · have h := (if_neg c47).symm.trans h
        refine lv_iconst (v := 0) hx hb dL_holds_88 (by decide) ?_
        exact J89 (t1 + t0) x3 x4 x5 x6 x7 (0 : Int32) x2 h _ (lv_sub hl [1, 0, 3, 4, 5, 6, 7] rfl)
      · have h := (if_pos c47).symm.trans h
        refine lv_iconst (v := 1) hx hb dL_holds_84 (by decide) ?_
        refine lv_goto (tgt := 89) hx hb dL_holds_85 (by decide) ?_
        exact J89 (t1 + t0) x3 x4 x5 x6 x7 (1 : Int32) x2 h _ (lv_sub hl [1, 0, 3, 4, 5, 6, 7] rfl)
    have J62 : ∀ (x1 : Int32) (x2 : Int32) (x3 : Int32) (x4 : Int32) (x5 : Int32) (x6 : Int32) (t0 : Int32) , fL_holds_j62 u x1 x2 x3 x4 x5 x6 t0 = some z → ∀ ls : Array Slot, lv_has ls 9 [(0, .ref (ga 0)), (1, .int x1), (2, .int x2), (3, .int x3), (4, .int x4), (5, .int x5), (6, .int x6)] → W p l e rmL_holds s m args below meth c s.heap [] 0 0 Q (F0 m 62 ls [.int t0]) := by
      intro x1 x2 x3 x4 x5 x6 t0 h
      unfold fL_holds_j62 at h
      intro ls hl
      refine lv_istore (lv' := [(7, .int t0), (0, .ref (ga 0)), (1, .int x1), (2, .int x2), (3, .int x3), (4, .int x4), (5, .int x5), (6, .int x6)]) hx hb dL_holds_62 hl (by decide) rfl (fun ls hl => ?_)
      refine lv_iload_n hx hb dL_holds_64 rfl (lv_at hl 2 rfl) ?_
      refine lv_iload hx hb dL_holds_65 (lv_at hl 0 rfl) ?_
      refine lv_if_eq (tgt := 74) hx hb dL_holds_67 (by decide) (fun c48 => ?_) (fun c48 => ?_)
      · have h := (if_pos c48).symm.trans h
        refine lv_iconst (v := 0) hx hb dL_holds_74 (by decide) ?_
        exact J75 x2 x3 x4 x5 x6 t0 (0 : Int32) x1 h _ (lv_sub hl [1, 3, 4, 5, 6, 7, 0] rfl)
      · have h := (if_neg c48).symm.trans h
        refine lv_iconst (v := 1) hx hb dL_holds_70 (by decide) ?_
        refine lv_goto (tgt := 75) hx hb dL_holds_71 (by decide) ?_
        exact J75 x2 x3 x4 x5 x6 t0 (1 : Int32) x1 h _ (lv_sub hl [1, 3, 4, 5, 6, 7, 0] rfl)
    have J57 : ∀ (x1 : Int32) (x2 : Int32) (x3 : Int32) (x4 : Int32) (x5 : Int32) (x6 : Int32) , fL_holds_j57 u x1 x2 x3 x4 x5 x6 = some z → ∀ ls : Array Slot, lv_has ls 9 [(0, .ref (ga 0)), (1, .int x1), (2, .int x2), (3, .int x3), (4, .int x4), (5, .int x5), (6, .int x6)] → W p l e rmL_holds s m args below meth c s.heap [] 0 0 Q (F0 m 57 ls []) := by
      intro x1 x2 x3 x4 x5 x6 h
      unfold fL_holds_j57 at h
      intro ls hl
      refine lv_iconst (v := 1) hx hb dL_holds_57 (by decide) ?_
      refine lv_goto (tgt := 62) hx hb dL_holds_58 (by decide) ?_
      exact J62 x1 x2 x3 x4 x5 x6 (1 : Int32) h _ (lv_sub hl [0, 1, 2, 3, 4, 5, 6] rfl)
    intro ls hl
    refine lv_iload hx hb dL_holds_25 (lv_at hl 5 rfl) ?_
    refine lv_bipush (v := 100) hx hb dL_holds_27 (by decide) ?_
    refine lv_aload_n hx hb dL_holds_29 rfl (lv_at hl 0 rfl) ?_
    obtain ⟨z49, e_z49, h⟩ := bnd h
    refine roI (cc_L_24 sv ga S hK hN hP e_z49 hl.1 (Nat.le_of_ble_eq_true rfl) ⟨Nat.le_of_ble_eq_true rfl, Nat.le_of_ble_eq_true rfl⟩ dL_holds_30 ⟨Nat.le_of_ble_eq_true rfl, Nat.le_of_ble_eq_true rfl⟩) ?_
    refine lv_imul hx hb dL_holds_33 ?_
    refine lv_icmp_ge (tgt := 265) hx hb dL_holds_34 (by decide) (fun c50 => ?_) (fun c50 => ?_)
    · have h := (if_pos c50).symm.trans h
      exact hE _ (Option.some.inj h) _ (lv_sub hl [0, 1, 2, 3, 4] rfl)
    · have h := (if_neg c50).symm.trans h
      refine lv_aload_n hx hb dL_holds_37 rfl (lv_at hl 0 rfl) ?_
      refine lv_iload hx hb dL_holds_38 (lv_at hl 5 rfl) ?_
      obtain ⟨z51, e_z51, h⟩ := bnd h
      refine roI (cc_L_42 sv ga S hK hN hP e_z51 hl.1 (Nat.le_of_ble_eq_true rfl) ⟨Nat.le_of_ble_eq_true rfl, Nat.le_of_ble_eq_true rfl⟩ dL_holds_40 ⟨Nat.le_of_ble_eq_true rfl, Nat.le_of_ble_eq_true rfl⟩) ?_
      refine lv_istore (lv' := [(6, .int z51), (0, .ref (ga 0)), (1, .int x1), (2, .int x2), (3, .int x3), (4, .int x4), (5, .int x5)]) hx hb dL_holds_43 hl (by decide) rfl (fun ls hl => ?_)
      refine lv_iload hx hb dL_holds_45 (lv_at hl 0 rfl) ?_
      refine lv_iconst (v := 1) hx hb dL_holds_47 (by decide) ?_
      refine lv_icmp_eq (tgt := 57) hx hb dL_holds_48 (by decide) (fun c52 => ?_) (fun c52 => ?_)
      · have h := (if_pos c52).symm.trans h
        exact J57 x1 x2 x3 x4 x5 z51 h _ (lv_sub hl [1, 2, 3, 4, 5, 6, 0] rfl)
      · have h := (if_neg c52).symm.trans h
        refine lv_iload hx hb dL_holds_51 (lv_at hl 0 rfl) ?_
        refine lv_iconst (v := 2) hx hb dL_holds_53 (by decide) ?_
        refine lv_icmp_ne (tgt := 61) hx hb dL_holds_54 (by decide) (fun c53 => ?_) (fun c53 => ?_)
        · have h := (if_neg c53).symm.trans h
          refine lv_iconst (v := 0) hx hb dL_holds_61 (by decide) ?_
          exact J62 x1 x2 x3 x4 x5 z51 (0 : Int32) h _ (lv_sub hl [1, 2, 3, 4, 5, 6, 0] rfl)
        · have h := (if_pos c53).symm.trans h
          exact J57 x1 x2 x3 x4 x5 z51 h _ (lv_sub hl [1, 2, 3, 4, 5, 6, 0] rfl)
  have J20 : ∀ (x1 : Int32) (x2 : Int32) (x3 : Int32) (t0 : Int32) , fL_holds_j20 u x1 x2 x3 t0 = some r → ∀ ls : Array Slot, lv_has ls 9 [(0, .ref (ga 0)), (1, .int x1), (2, .int x2), (3, .int x3)] → W p l e rmL_holds s m args below meth c s.heap [] 0 0 Q (F0 m 20 ls [.int t0]) := by
    intro x1 x2 x3 t0 h
    unfold fL_holds_j20 at h
    intro ls hl
    refine lv_istore (lv' := [(4, .int t0), (0, .ref (ga 0)), (1, .int x1), (2, .int x2), (3, .int x3)]) hx hb dL_holds_20 hl (by decide) rfl (fun ls hl => ?_)
    refine lv_iconst (v := 0) hx hb dL_holds_22 (by decide) ?_
    refine lv_istore (lv' := [(5, .int (0 : Int32)), (4, .int t0), (0, .ref (ga 0)), (1, .int x1), (2, .int x2), (3, .int x3)]) hx hb dL_holds_23 hl (by decide) rfl (fun ls hl => ?_)
    obtain ⟨b54, e_b54, h⟩ := bnd h
    refine L25 _ _ _ e_b54 ?_ _ (lv_sub hl [2, 3, 4, 5, 1, 0] rfl)
    intro ls hl
    refine lv_iconst (v := 0) hx hb dL_holds_265 (by decide) ?_
    refine lv_istore (lv' := [(5, .int (0 : Int32)), (0, .ref (ga 0)), (1, .int b54.1), (2, .int b54.2.1), (3, .int b54.2.2.1), (4, .int b54.2.2.2)]) hx hb dL_holds_266 hl (by decide) rfl (fun ls hl => ?_)
    refine lv_aload_n hx hb dL_holds_268 rfl (lv_at hl 1 rfl) ?_
    refine lv_iconst (v := (-1)) hx hb dL_holds_269 (by decide) ?_
    obtain ⟨z55, e_z55, h⟩ := bnd h
    refine roI (cc_L_15 sv ga S hK hN hP e_z55 hl.1 (Nat.le_of_ble_eq_true rfl) ⟨Nat.le_of_ble_eq_true rfl, Nat.le_of_ble_eq_true rfl⟩ dL_holds_270 ⟨Nat.le_of_ble_eq_true rfl, Nat.le_of_ble_eq_true rfl⟩) ?_
    refine lv_istore (lv' := [(6, .int z55), (5, .int (0 : Int32)), (0, .ref (ga 0)), (1, .int b54.1), (2, .int b54.2.1), (3, .int b54.2.2.1), (4, .int b54.2.2.2)]) hx hb dL_holds_273 hl (by decide) rfl (fun ls hl => ?_)
    obtain ⟨b56, e_b56, h⟩ := bnd h
    refine L275 _ _ _ e_b56 ?_ _ (lv_sub hl [2, 3, 4, 5, 6, 1, 0] rfl)
    intro ls hl
    exact J300 b56.1 b56.2.1 b56.2.2.1 b56.2.2.2.1 b56.2.2.2.2 h _ (lv_sub hl [0, 1, 2, 3, 4, 5] rfl)
  refine lv_iconst (v := 0) hx hb dL_holds_0 (by decide) ?_
  refine lv_istore_n (lv' := [(1, .int (0 : Int32)), (0, .ref (ga 0))]) hx hb dL_holds_1 rfl hl (by decide) rfl (fun ls hl => ?_)
  refine lv_iconst (v := 0) hx hb dL_holds_2 (by decide) ?_
  refine lv_istore_n (lv' := [(2, .int (0 : Int32)), (1, .int (0 : Int32)), (0, .ref (ga 0))]) hx hb dL_holds_3 rfl hl (by decide) rfl (fun ls hl => ?_)
  refine lv_iconst (v := 0) hx hb dL_holds_4 (by decide) ?_
  refine lv_istore_n (lv' := [(3, .int (0 : Int32)), (2, .int (0 : Int32)), (1, .int (0 : Int32)), (0, .ref (ga 0))]) hx hb dL_holds_5 rfl hl (by decide) rfl (fun ls hl => ?_)
  refine lv_aload_n hx hb dL_holds_6 rfl (lv_at hl 3 rfl) ?_
  obtain ⟨z57, e_z57, h⟩ := bnd h
  refine roI (cc_L_24 sv ga S hK hN hP e_z57 hl.1 (Nat.le_of_ble_eq_true rfl) ⟨Nat.le_of_ble_eq_true rfl, Nat.le_of_ble_eq_true rfl⟩ dL_holds_7 ⟨Nat.le_of_ble_eq_true rfl, Nat.le_of_ble_eq_true rfl⟩) ?_
  refine lv_bipush (v := 8) hx hb dL_holds_10 (by decide) ?_
  refine lv_icmp_gt (tgt := 19) hx hb dL_holds_12 (by decide) (fun c58 => ?_) (fun c58 => ?_)
  · have h := (if_pos c58).symm.trans h
    refine lv_iconst (v := 0) hx hb dL_holds_19 (by decide) ?_
    exact J20 (0 : Int32) (0 : Int32) (0 : Int32) (0 : Int32) h _ (lv_sub hl [3, 2, 1, 0] rfl)
  · have h := (if_neg c58).symm.trans h
    refine lv_iconst (v := 1) hx hb dL_holds_15 (by decide) ?_
    refine lv_goto (tgt := 20) hx hb dL_holds_16 (by decide) ?_
    exact J20 (0 : Int32) (0 : Int32) (0 : Int32) (1 : Int32) h _ (lv_sub hl [3, 2, 1, 0] rfl)

theorem cc_L_101 {p : Program} {l : Launch} {e : Env} {R : Room} {s : State} {m : MethodId} {args : Array Value} {below : List Frame} {meth : Method} {c : Code} {H : Heap} {locs : List Loc} {cells slots : Nat} {cc : ByteArray} {pc nL : Nat} {ls : Array Slot} {rest : List Value} {G : va_G} {A : Nat → Prop} (sv : Nat) (ga : Nat → Nat) {cI cS : ClassId} {u : THS}  {p0 : Int32} {r : Int32 × THS} (S : CallFix p m c cc nL s args bw RL) (hK : va_K G vwCl (tysW cI cS) s) (hN : NW s) (hP : va_P G vwCl (wHS cI cS sv ga u) H) (hD : va_D A (wHS cI cS sv ga u)) (hf : fX4_compact u p0 = some r) (hsz : ls.size = nL) (hst : (rest.map fun v => v.category).sum ≤ 8) (hR : rmX4_compact.frames + 1 ≤ R.frames ∧ 8 + (2 + 11) + rmX4_compact.locals ≤ R.locals) (hdg : decode cc pc = .ok (.invokevirtual 101, 3)) (hcs : cells + 0 ≤ R.cells ∧ slots + 0 ≤ R.slots) : va_Run p l e R s m args below meth c H locs cells slots 0 0 (F0 m pc ls (.int p0 :: .ref (ga 0) :: rest)) rest (va_Qi (fun r' u' => (r', u') = r) (PoM G (tysW cI cS) (va_A (wHS cI cS sv ga u) H.size) (wHS cI cS sv ga)) (va_A (wHS cI cS sv ga u) H.size) (#[.ref (ga 0), .int p0] : Array Value)) (va_A (wHS cI cS sv ga u) H.size) :=
  va_runV (As := [.int p0]) (rest := rest) S (kX4_compact l G cI cS sv ga H.size u p0 r hf) (cwV 1 S.2.2.2.2 (gdV q_395 q_396 q_397 q_49 q_275) rfl rfl rfl (by decide +kernel) hR) (pvM (q := (RX4, TX4, 8)) hK hN hP hD (ci := 4) (q0 := 0) rfl rfl) rfl rfl hsz rfl (lv_room hst) hdg hcs
theorem cc_L_104 {p : Program} {l : Launch} {e : Env} {R : Room} {s : State} {m : MethodId} {args : Array Value} {below : List Frame} {meth : Method} {c : Code} {H : Heap} {locs : List Loc} {cells slots : Nat} {cc : ByteArray} {pc nL : Nat} {ls : Array Slot} {rest : List Value} {G : va_G} (sv : Nat) (ga : Nat → Nat) {cI cS : ClassId} {u : TH}  {p0 : Int32} {r : Int32} (S : CallFix p m c cc nL s args bw RL) (hK : va_K G vwCl (tysW cI cS) s) (hN : NW s) (hP : va_P G vwCl (wH cI sv ga u) H) (hf : fX4_gap u p0 = some r) (hsz : ls.size = nL) (hst : (rest.map fun v => v.category).sum ≤ 8) (hR : rmX4_gap.frames + 1 ≤ R.frames ∧ 8 + (2 + 11) + rmX4_gap.locals ≤ R.locals) (hdg : decode cc pc = .ok (.invokevirtual 104, 3)) (hcs : cells + 0 ≤ R.cells ∧ slots + 0 ≤ R.slots) : va_Run p l e R s m args below meth c H locs cells slots 0 0 (F0 m pc ls (.int p0 :: .ref (ga 0) :: rest)) rest (vp_Si (fun r' => r' = r) (#[.ref (ga 0), .int p0] : Array Value)) (fun _ => False) :=
  va_runV (As := [.int p0]) (rest := rest) S (kX4_gap l G cI cS sv ga u p0 r hf) (cwV 1 S.2.2.2.2 (gdV q_398 q_399 q_400 q_49 q_291) rfl rfl rfl (by decide +kernel) hR) (pvR (q := (RX4, TX4, 8)) hK hN hP (ci := 4) (q0 := 0) rfl rfl) rfl rfl hsz rfl (lv_room hst) hdg hcs
theorem cc_L_55 {p : Program} {l : Launch} {e : Env} {R : Room} {s : State} {m : MethodId} {args : Array Value} {below : List Frame} {meth : Method} {c : Code} {H : Heap} {locs : List Loc} {cells slots : Nat} {cc : ByteArray} {pc nL : Nat} {ls : Array Slot} {rest : List Value} {G : va_G}  {cI cS : ClassId}  {p0 : Int32} {p1 : Int32} {r : Int32} (S : CallFix p m c cc nL s args bw RL) (hK : va_K G vwCl (tysW cI cS) s) (hN : NW s) (hP : va_P G vwCl wE H) (hf : fL_up p0 p1 = some r) (hsz : ls.size = nL) (hst : (rest.map fun v => v.category).sum ≤ 8) (hR : rmL_up.frames + 1 ≤ R.frames ∧ 8 + (2 + 11) + rmL_up.locals ≤ R.locals) (hdg : decode cc pc = .ok (.invokestatic 55, 3)) (hcs : cells + 0 ≤ R.cells ∧ slots + 0 ≤ R.slots) : va_Run p l e R s m args below meth c H locs cells slots 0 0 (F0 m pc ls (.int p1 :: .int p0 :: rest)) rest (vp_Si (fun r' => r' = r) (#[.int p0, .int p1] : Array Value)) (fun _ => False) :=
  va_runS (As := [.int p0, .int p1]) (rest := rest) S (kL_up l G cI cS p0 p1 r hf) (cwS 2 S.2.2.2.2 (gdS q_355 q_356 q_357 q_326) rfl rfl rfl (by decide +kernel) hR) (psR hK hN hP) rfl rfl hsz rfl (lv_room hst) hdg hcs
theorem cc_L_60 {p : Program} {l : Launch} {e : Env} {R : Room} {s : State} {m : MethodId} {args : Array Value} {below : List Frame} {meth : Method} {c : Code} {H : Heap} {locs : List Loc} {cells slots : Nat} {cc : ByteArray} {pc nL : Nat} {ls : Array Slot} {rest : List Value} {G : va_G} (sv : Nat) (ga : Nat → Nat) {cI cS : ClassId} {u : TH}  {p1 : Int32} {r : Int32} (S : CallFix p m c cc nL s args bw RL) (hK : va_K G vwCl (tysW cI cS) s) (hN : NW s) (hP : va_P G vwCl (wH cI sv ga u) H) (hf : fL_row u p1 = some r) (hsz : ls.size = nL) (hst : (rest.map fun v => v.category).sum ≤ 8) (hR : rmL_row.frames + 1 ≤ R.frames ∧ 8 + (4 + 11) + rmL_row.locals ≤ R.locals) (hdg : decode cc pc = .ok (.invokestatic 60, 3)) (hcs : cells + 0 ≤ R.cells ∧ slots + 0 ≤ R.slots) : va_Run p l e R s m args below meth c H locs cells slots 0 0 (F0 m pc ls (.int p1 :: .ref (ga 0) :: rest)) rest (vp_Si (fun r' => r' = r) (#[.ref (ga 0), .int p1] : Array Value)) (fun _ => False) :=
  va_runS (As := [.ref (ga 0), .int p1]) (rest := rest) S (kL_row l G cI cS sv ga u p1 r hf) (cwS 2 S.2.2.2.2 (gdS q_358 q_359 q_357 q_333) rfl rfl rfl (by decide +kernel) hR) (psR hK hN hP) rfl rfl hsz rfl (lv_room hst) hdg hcs
theorem cc_L_64 {p : Program} {l : Launch} {e : Env} {R : Room} {s : State} {m : MethodId} {args : Array Value} {below : List Frame} {meth : Method} {c : Code} {H : Heap} {locs : List Loc} {cells slots : Nat} {cc : ByteArray} {pc nL : Nat} {ls : Array Slot} {rest : List Value} {G : va_G} {A : Nat → Prop} (sv : Nat) (ga : Nat → Nat) {cI cS : ClassId} {u : TH}  {p0 : Int32} {p1 : Int32} {r : Int32 × TH} (S : CallFix p m c cc nL s args bw RL) (hK : va_K G vwCl (tysW cI cS) s) (hN : NW s) (hP : va_P G vwCl (wH cI sv ga u) H) (hD : va_D A (wH cI sv ga u)) (hf : fX4_fill u p0 p1 = some r) (hsz : ls.size = nL) (hst : (rest.map fun v => v.category).sum ≤ 8) (hR : rmX4_fill.frames + 1 ≤ R.frames ∧ 8 + (3 + 11) + rmX4_fill.locals ≤ R.locals) (hdg : decode cc pc = .ok (.invokevirtual 64, 3)) (hcs : cells + 0 ≤ R.cells ∧ slots + 0 ≤ R.slots) : va_Run p l e R s m args below meth c H locs cells slots 0 0 (F0 m pc ls (.int p1 :: .int p0 :: .ref (ga 0) :: rest)) rest (va_Qi (fun r' u' => (r', u') = r) (PoM G (tysW cI cS) (va_A (wH cI sv ga u) H.size) (wH cI sv ga)) (va_A (wH cI sv ga u) H.size) (#[.ref (ga 0), .int p0, .int p1] : Array Value)) (va_A (wH cI sv ga u) H.size) :=
  va_runV (As := [.int p0, .int p1]) (rest := rest) S (kX4_fill l G cI cS sv ga H.size u p0 p1 r hf) (cwV 2 S.2.2.2.2 (gdV q_360 q_361 q_362 q_49 q_137) rfl rfl rfl (by decide +kernel) hR) (pvM (q := (RX4, TX4, 8)) hK hN hP hD (ci := 4) (q0 := 0) rfl rfl) rfl rfl hsz rfl (lv_room hst) hdg hcs
theorem cc_L_67 {p : Program} {l : Launch} {e : Env} {R : Room} {s : State} {m : MethodId} {args : Array Value} {below : List Frame} {meth : Method} {c : Code} {H : Heap} {locs : List Loc} {cells slots : Nat} {cc : ByteArray} {pc nL : Nat} {ls : Array Slot} {rest : List Value} {G : va_G} (sv : Nat) (ga : Nat → Nat) {cI cS : ClassId} {u : TH}  {p1 : Int32} {r : Int64} (S : CallFix p m c cc nL s args bw RL) (hK : va_K G vwCl (tysW cI cS) s) (hN : NW s) (hP : va_P G vwCl (wH cI sv ga u) H) (hf : fL_stored u p1 = some r) (hsz : ls.size = nL) (hst : (rest.map fun v => v.category).sum ≤ 8) (hR : rmL_stored.frames + 1 ≤ R.frames ∧ 8 + (6 + 11) + rmL_stored.locals ≤ R.locals) (hdg : decode cc pc = .ok (.invokestatic 67, 3)) (hcs : cells + 0 ≤ R.cells ∧ slots + 0 ≤ R.slots) : va_Run p l e R s m args below meth c H locs cells slots 0 0 (F0 m pc ls (.int p1 :: .ref (ga 0) :: rest)) rest (vp_Sl (fun r' => r' = r) (#[.ref (ga 0), .int p1] : Array Value)) (fun _ => False) :=
  va_runS (As := [.ref (ga 0), .int p1]) (rest := rest) S (kL_stored l G cI cS sv ga u p1 r hf) (cwS 2 S.2.2.2.2 (gdS q_363 q_364 q_357 q_347) rfl rfl rfl (by decide +kernel) hR) (psR hK hN hP) rfl rfl hsz rfl (lv_room hst) hdg hcs
theorem cc_L_71 {p : Program} {l : Launch} {e : Env} {R : Room} {s : State} {m : MethodId} {args : Array Value} {below : List Frame} {meth : Method} {c : Code} {H : Heap} {locs : List Loc} {cells slots : Nat} {cc : ByteArray} {pc nL : Nat} {ls : Array Slot} {rest : List Value} {G : va_G} (sv : Nat) (ga : Nat → Nat) {cI cS : ClassId} {u : TH}  {p0 : Int32} {r : Int32} (S : CallFix p m c cc nL s args bw RL) (hK : va_K G vwCl (tysW cI cS) s) (hN : NW s) (hP : va_P G vwCl (wH cI sv ga u) H) (hf : fX4_ifInserted u p0 = some r) (hsz : ls.size = nL) (hst : (rest.map fun v => v.category).sum ≤ 8) (hR : rmX4_ifInserted.frames + 1 ≤ R.frames ∧ 8 + (3 + 11) + rmX4_ifInserted.locals ≤ R.locals) (hdg : decode cc pc = .ok (.invokevirtual 71, 3)) (hcs : cells + 0 ≤ R.cells ∧ slots + 0 ≤ R.slots) : va_Run p l e R s m args below meth c H locs cells slots 0 0 (F0 m pc ls (.int p0 :: .ref (ga 0) :: rest)) rest (vp_Si (fun r' => r' = r) (#[.ref (ga 0), .int p0] : Array Value)) (fun _ => False) :=
  va_runV (As := [.int p0]) (rest := rest) S (kX4_ifInserted l G cI cS sv ga u p0 r hf) (cwV 1 S.2.2.2.2 (gdV q_365 q_366 q_367 q_49 q_299) rfl rfl rfl (by decide +kernel) hR) (pvR (q := (RX4, TX4, 8)) hK hN hP (ci := 4) (q0 := 0) rfl rfl) rfl rfl hsz rfl (lv_room hst) hdg hcs
theorem cc_L_74 {p : Program} {l : Launch} {e : Env} {R : Room} {s : State} {m : MethodId} {args : Array Value} {below : List Frame} {meth : Method} {c : Code} {H : Heap} {locs : List Loc} {cells slots : Nat} {cc : ByteArray} {pc nL : Nat} {ls : Array Slot} {rest : List Value} {G : va_G} (sv : Nat) (ga : Nat → Nat) {cI cS : ClassId} {u : TH}  {p0 : Int32} {r : Int32} (S : CallFix p m c cc nL s args bw RL) (hK : va_K G vwCl (tysW cI cS) s) (hN : NW s) (hP : va_P G vwCl (wH cI sv ga u) H) (hf : fX4_capacity u p0 = some r) (hsz : ls.size = nL) (hst : (rest.map fun v => v.category).sum ≤ 8) (hR : rmX4_capacity.frames + 1 ≤ R.frames ∧ 8 + (5 + 11) + rmX4_capacity.locals ≤ R.locals) (hdg : decode cc pc = .ok (.invokevirtual 74, 3)) (hcs : cells + 0 ≤ R.cells ∧ slots + 0 ≤ R.slots) : va_Run p l e R s m args below meth c H locs cells slots 0 0 (F0 m pc ls (.int p0 :: .ref (ga 0) :: rest)) rest (vp_Si (fun r' => r' = r) (#[.ref (ga 0), .int p0] : Array Value)) (fun _ => False) :=
  va_runV (As := [.int p0]) (rest := rest) S (kX4_capacity l G cI cS sv ga u p0 r hf) (cwV 1 S.2.2.2.2 (gdV q_368 q_369 q_370 q_49 q_305) rfl rfl rfl (by decide +kernel) hR) (pvR (q := (RX4, TX4, 8)) hK hN hP (ci := 4) (q0 := 0) rfl rfl) rfl rfl hsz rfl (lv_room hst) hdg hcs
theorem cc_L_77 {p : Program} {l : Launch} {e : Env} {R : Room} {s : State} {m : MethodId} {args : Array Value} {below : List Frame} {meth : Method} {c : Code} {H : Heap} {locs : List Loc} {cells slots : Nat} {cc : ByteArray} {pc nL : Nat} {ls : Array Slot} {rest : List Value} {G : va_G} {A : Nat → Prop} (sv : Nat) (ga : Nat → Nat) {cI cS : ClassId} {u : TH}  {r : Int32 × TH} (S : CallFix p m c cc nL s args bw RL) (hK : va_K G vwCl (tysW cI cS) s) (hN : NW s) (hP : va_P G vwCl (wH cI sv ga u) H) (hD : va_D A (wH cI sv ga u)) (hf : fX4_clearBuffer u = some r) (hsz : ls.size = nL) (hst : (rest.map fun v => v.category).sum ≤ 8) (hR : rmX4_clearBuffer.frames + 1 ≤ R.frames ∧ 8 + (2 + 11) + rmX4_clearBuffer.locals ≤ R.locals) (hdg : decode cc pc = .ok (.invokevirtual 77, 3)) (hcs : cells + 0 ≤ R.cells ∧ slots + 0 ≤ R.slots) : va_Run p l e R s m args below meth c H locs cells slots 0 0 (F0 m pc ls (.ref (ga 0) :: rest)) rest (va_Qi (fun r' u' => (r', u') = r) (PoM G (tysW cI cS) (va_A (wH cI sv ga u) H.size) (wH cI sv ga)) (va_A (wH cI sv ga u) H.size) (#[.ref (ga 0)] : Array Value)) (va_A (wH cI sv ga u) H.size) :=
  va_runV (As := []) (rest := rest) S (kX4_clearBuffer l G cI cS sv ga H.size u r hf) (cwV 0 S.2.2.2.2 (gdV q_371 q_372 q_373 q_49 q_141) rfl rfl rfl (by decide +kernel) hR) (pvM (q := (RX4, TX4, 8)) hK hN hP hD (ci := 4) (q0 := 0) rfl rfl) rfl rfl hsz rfl (lv_room hst) hdg hcs
theorem cc_L_80 {p : Program} {l : Launch} {e : Env} {R : Room} {s : State} {m : MethodId} {args : Array Value} {below : List Frame} {meth : Method} {c : Code} {H : Heap} {locs : List Loc} {cells slots : Nat} {cc : ByteArray} {pc nL : Nat} {ls : Array Slot} {rest : List Value} {G : va_G} {A : Nat → Prop} (sv : Nat) (ga : Nat → Nat) {cI cS : ClassId} {u : THS}  {r : Int32 × THS} (S : CallFix p m c cc nL s args bw RL) (hK : va_K G vwCl (tysW cI cS) s) (hN : NW s) (hP : va_P G vwCl (wHS cI cS sv ga u) H) (hD : va_D A (wHS cI cS sv ga u)) (hf : fX4_insert u = some r) (hsz : ls.size = nL) (hst : (rest.map fun v => v.category).sum ≤ 8) (hR : rmX4_insert.frames + 1 ≤ R.frames ∧ 8 + (2 + 11) + rmX4_insert.locals ≤ R.locals) (hdg : decode cc pc = .ok (.invokevirtual 80, 3)) (hcs : cells + 0 ≤ R.cells ∧ slots + 0 ≤ R.slots) : va_Run p l e R s m args below meth c H locs cells slots 0 0 (F0 m pc ls (.ref (ga 0) :: rest)) rest (va_Qi (fun r' u' => (r', u') = r) (PoM G (tysW cI cS) (va_A (wHS cI cS sv ga u) H.size) (wHS cI cS sv ga)) (va_A (wHS cI cS sv ga u) H.size) (#[.ref (ga 0)] : Array Value)) (va_A (wHS cI cS sv ga u) H.size) :=
  va_runV (As := []) (rest := rest) S (kX4_insert l G cI cS sv ga H.size u r hf) (cwV 0 S.2.2.2.2 (gdV q_374 q_375 q_376 q_49 q_178) rfl rfl rfl (by decide +kernel) hR) (pvM (q := (RX4, TX4, 8)) hK hN hP hD (ci := 4) (q0 := 0) rfl rfl) rfl rfl hsz rfl (lv_room hst) hdg hcs
theorem cc_L_83 {p : Program} {l : Launch} {e : Env} {R : Room} {s : State} {m : MethodId} {args : Array Value} {below : List Frame} {meth : Method} {c : Code} {H : Heap} {locs : List Loc} {cells slots : Nat} {cc : ByteArray} {pc nL : Nat} {ls : Array Slot} {rest : List Value} {G : va_G} (sv : Nat) (ga : Nat → Nat) {cI cS : ClassId} {u : TH}  {p0 : Int32} {p1 : Int32} {r : Int32} (S : CallFix p m c cc nL s args bw RL) (hK : va_K G vwCl (tysW cI cS) s) (hN : NW s) (hP : va_P G vwCl (wH cI sv ga u) H) (hf : fX4_ifUpdated u p0 p1 = some r) (hsz : ls.size = nL) (hst : (rest.map fun v => v.category).sum ≤ 8) (hR : rmX4_ifUpdated.frames + 1 ≤ R.frames ∧ 8 + (3 + 11) + rmX4_ifUpdated.locals ≤ R.locals) (hdg : decode cc pc = .ok (.invokevirtual 83, 3)) (hcs : cells + 0 ≤ R.cells ∧ slots + 0 ≤ R.slots) : va_Run p l e R s m args below meth c H locs cells slots 0 0 (F0 m pc ls (.int p1 :: .int p0 :: .ref (ga 0) :: rest)) rest (vp_Si (fun r' => r' = r) (#[.ref (ga 0), .int p0, .int p1] : Array Value)) (fun _ => False) :=
  va_runV (As := [.int p0, .int p1]) (rest := rest) S (kX4_ifUpdated l G cI cS sv ga u p0 p1 r hf) (cwV 2 S.2.2.2.2 (gdV q_377 q_378 q_379 q_49 q_300) rfl rfl rfl (by decide +kernel) hR) (pvR (q := (RX4, TX4, 8)) hK hN hP (ci := 4) (q0 := 0) rfl rfl) rfl rfl hsz rfl (lv_room hst) hdg hcs
theorem cc_L_86 {p : Program} {l : Launch} {e : Env} {R : Room} {s : State} {m : MethodId} {args : Array Value} {below : List Frame} {meth : Method} {c : Code} {H : Heap} {locs : List Loc} {cells slots : Nat} {cc : ByteArray} {pc nL : Nat} {ls : Array Slot} {rest : List Value} {G : va_G} (sv : Nat) (ga : Nat → Nat) {cI cS : ClassId} {u : TH}  {p0 : Int32} {r : Int32} (S : CallFix p m c cc nL s args bw RL) (hK : va_K G vwCl (tysW cI cS) s) (hN : NW s) (hP : va_P G vwCl (wH cI sv ga u) H) (hf : fX4_greatestAtHome u p0 = some r) (hsz : ls.size = nL) (hst : (rest.map fun v => v.category).sum ≤ 8) (hR : rmX4_greatestAtHome.frames + 1 ≤ R.frames ∧ 8 + (2 + 11) + rmX4_greatestAtHome.locals ≤ R.locals) (hdg : decode cc pc = .ok (.invokevirtual 86, 3)) (hcs : cells + 0 ≤ R.cells ∧ slots + 0 ≤ R.slots) : va_Run p l e R s m args below meth c H locs cells slots 0 0 (F0 m pc ls (.int p0 :: .ref (ga 0) :: rest)) rest (vp_Si (fun r' => r' = r) (#[.ref (ga 0), .int p0] : Array Value)) (fun _ => False) :=
  va_runV (As := [.int p0]) (rest := rest) S (kX4_greatestAtHome l G cI cS sv ga u p0 r hf) (cwV 1 S.2.2.2.2 (gdV q_380 q_381 q_382 q_49 q_302) rfl rfl rfl (by decide +kernel) hR) (pvR (q := (RX4, TX4, 8)) hK hN hP (ci := 4) (q0 := 0) rfl rfl) rfl rfl hsz rfl (lv_room hst) hdg hcs
theorem cc_L_89 {p : Program} {l : Launch} {e : Env} {R : Room} {s : State} {m : MethodId} {args : Array Value} {below : List Frame} {meth : Method} {c : Code} {H : Heap} {locs : List Loc} {cells slots : Nat} {cc : ByteArray} {pc nL : Nat} {ls : Array Slot} {rest : List Value} {G : va_G} {A : Nat → Prop} (sv : Nat) (ga : Nat → Nat) {cI cS : ClassId} {u : THS}  {p0 : Int32} {r : Int32 × THS} (S : CallFix p m c cc nL s args bw RL) (hK : va_K G vwCl (tysW cI cS) s) (hN : NW s) (hP : va_P G vwCl (wHS cI cS sv ga u) H) (hD : va_D A (wHS cI cS sv ga u)) (hf : fX4_update u p0 = some r) (hsz : ls.size = nL) (hst : (rest.map fun v => v.category).sum ≤ 8) (hR : rmX4_update.frames + 1 ≤ R.frames ∧ 8 + (3 + 11) + rmX4_update.locals ≤ R.locals) (hdg : decode cc pc = .ok (.invokevirtual 89, 3)) (hcs : cells + 0 ≤ R.cells ∧ slots + 0 ≤ R.slots) : va_Run p l e R s m args below meth c H locs cells slots 0 0 (F0 m pc ls (.int p0 :: .ref (ga 0) :: rest)) rest (va_Qi (fun r' u' => (r', u') = r) (PoM G (tysW cI cS) (va_A (wHS cI cS sv ga u) H.size) (wHS cI cS sv ga)) (va_A (wHS cI cS sv ga u) H.size) (#[.ref (ga 0), .int p0] : Array Value)) (va_A (wHS cI cS sv ga u) H.size) :=
  va_runV (As := [.int p0]) (rest := rest) S (kX4_update l G cI cS sv ga H.size u p0 r hf) (cwV 1 S.2.2.2.2 (gdV q_383 q_384 q_385 q_49 q_244) rfl rfl rfl (by decide +kernel) hR) (pvM (q := (RX4, TX4, 8)) hK hN hP hD (ci := 4) (q0 := 0) rfl rfl) rfl rfl hsz rfl (lv_room hst) hdg hcs
theorem cc_L_92 {p : Program} {l : Launch} {e : Env} {R : Room} {s : State} {m : MethodId} {args : Array Value} {below : List Frame} {meth : Method} {c : Code} {H : Heap} {locs : List Loc} {cells slots : Nat} {cc : ByteArray} {pc nL : Nat} {ls : Array Slot} {rest : List Value} {G : va_G} {A : Nat → Prop} (sv : Nat) (ga : Nat → Nat) {cI cS : ClassId} {u : THS}  {p0 : Int32} {r : Int32 × THS} (S : CallFix p m c cc nL s args bw RL) (hK : va_K G vwCl (tysW cI cS) s) (hN : NW s) (hP : va_P G vwCl (wHS cI cS sv ga u) H) (hD : va_D A (wHS cI cS sv ga u)) (hf : fX4_delete u p0 = some r) (hsz : ls.size = nL) (hst : (rest.map fun v => v.category).sum ≤ 8) (hR : rmX4_delete.frames + 1 ≤ R.frames ∧ 8 + (3 + 11) + rmX4_delete.locals ≤ R.locals) (hdg : decode cc pc = .ok (.invokevirtual 92, 3)) (hcs : cells + 0 ≤ R.cells ∧ slots + 0 ≤ R.slots) : va_Run p l e R s m args below meth c H locs cells slots 0 0 (F0 m pc ls (.int p0 :: .ref (ga 0) :: rest)) rest (va_Qi (fun r' u' => (r', u') = r) (PoM G (tysW cI cS) (va_A (wHS cI cS sv ga u) H.size) (wHS cI cS sv ga)) (va_A (wHS cI cS sv ga u) H.size) (#[.ref (ga 0), .int p0] : Array Value)) (va_A (wHS cI cS sv ga u) H.size) :=
  va_runV (As := [.int p0]) (rest := rest) S (kX4_delete l G cI cS sv ga H.size u p0 r hf) (cwV 1 S.2.2.2.2 (gdV q_386 q_387 q_388 q_49 q_253) rfl rfl rfl (by decide +kernel) hR) (pvM (q := (RX4, TX4, 8)) hK hN hP hD (ci := 4) (q0 := 0) rfl rfl) rfl rfl hsz rfl (lv_room hst) hdg hcs
theorem cc_L_95 {p : Program} {l : Launch} {e : Env} {R : Room} {s : State} {m : MethodId} {args : Array Value} {below : List Frame} {meth : Method} {c : Code} {H : Heap} {locs : List Loc} {cells slots : Nat} {cc : ByteArray} {pc nL : Nat} {ls : Array Slot} {rest : List Value} {G : va_G} {A : Nat → Prop} (sv : Nat) (ga : Nat → Nat) {cI cS : ClassId} {u : THS}  {r : Int32 × THS} (S : CallFix p m c cc nL s args bw RL) (hK : va_K G vwCl (tysW cI cS) s) (hN : NW s) (hP : va_P G vwCl (wHS cI cS sv ga u) H) (hD : va_D A (wHS cI cS sv ga u)) (hf : fX4_bringHome u = some r) (hsz : ls.size = nL) (hst : (rest.map fun v => v.category).sum ≤ 8) (hR : rmX4_bringHome.frames + 1 ≤ R.frames ∧ 8 + (1 + 11) + rmX4_bringHome.locals ≤ R.locals) (hdg : decode cc pc = .ok (.invokevirtual 95, 3)) (hcs : cells + 0 ≤ R.cells ∧ slots + 0 ≤ R.slots) : va_Run p l e R s m args below meth c H locs cells slots 0 0 (F0 m pc ls (.ref (ga 0) :: rest)) rest (va_Qi (fun r' u' => (r', u') = r) (PoM G (tysW cI cS) (va_A (wHS cI cS sv ga u) H.size) (wHS cI cS sv ga)) (va_A (wHS cI cS sv ga u) H.size) (#[.ref (ga 0)] : Array Value)) (va_A (wHS cI cS sv ga u) H.size) :=
  va_runV (As := []) (rest := rest) S (kX4_bringHome l G cI cS sv ga H.size u r hf) (cwV 0 S.2.2.2.2 (gdV q_389 q_390 q_391 q_49 q_270) rfl rfl rfl (by decide +kernel) hR) (pvM (q := (RX4, TX4, 8)) hK hN hP hD (ci := 4) (q0 := 0) rfl rfl) rfl rfl hsz rfl (lv_room hst) hdg hcs
theorem cc_L_98 {p : Program} {l : Launch} {e : Env} {R : Room} {s : State} {m : MethodId} {args : Array Value} {below : List Frame} {meth : Method} {c : Code} {H : Heap} {locs : List Loc} {cells slots : Nat} {cc : ByteArray} {pc nL : Nat} {ls : Array Slot} {rest : List Value} {G : va_G} (sv : Nat) (ga : Nat → Nat) {cI cS : ClassId} {u : TH}  {p0 : Int32} {r : Int32} (S : CallFix p m c cc nL s args bw RL) (hK : va_K G vwCl (tysW cI cS) s) (hN : NW s) (hP : va_P G vwCl (wH cI sv ga u) H) (hf : fX4_free u p0 = some r) (hsz : ls.size = nL) (hst : (rest.map fun v => v.category).sum ≤ 8) (hR : rmX4_free.frames + 1 ≤ R.frames ∧ 8 + (2 + 11) + rmX4_free.locals ≤ R.locals) (hdg : decode cc pc = .ok (.invokevirtual 98, 3)) (hcs : cells + 0 ≤ R.cells ∧ slots + 0 ≤ R.slots) : va_Run p l e R s m args below meth c H locs cells slots 0 0 (F0 m pc ls (.int p0 :: .ref (ga 0) :: rest)) rest (vp_Si (fun r' => r' = r) (#[.ref (ga 0), .int p0] : Array Value)) (fun _ => False) :=
  va_runV (As := [.int p0]) (rest := rest) S (kX4_free l G cI cS sv ga u p0 r hf) (cwV 1 S.2.2.2.2 (gdV q_392 q_393 q_394 q_49 q_290) rfl rfl rfl (by decide +kernel) hR) (pvR (q := (RX4, TX4, 8)) hK hN hP (ci := 4) (q0 := 0) rfl rfl) rfl rfl hsz rfl (lv_room hst) hdg hcs
def fL_acts_j372 (u : THS) (t0 : Int32) (t1 : Int32) : Option (Int32 × THS) := (if t1 < t0 then some ((0 : Int32), u) else some ((1 : Int32), u))
def fL_acts_j331 (u : THS) (x3 : Int32) (x4 : Int32) (x10 : Int64) (x13 : Int32) (t0 : Int32) (t1 : Int32) : Option (Int32 × THS) := (if t1 = t0 then ((fL_stored u.1 x4).bind fun z3 => (if (lg_cmp z3 x10) = 0 then ((fX4_length u.1 x4).bind fun z5 => (if z5 = x3 then ((fX4_greatestAtHome u.1 x4).bind fun z7 => (if x13 = 0 then fL_acts_j372 u (1 : Int32) z7 else fL_acts_j372 u x3 z7)) else some ((0 : Int32), u))) else some ((0 : Int32), u))) else some ((0 : Int32), u))
def fL_acts_j311 (u : THS) (x3 : Int32) (x4 : Int32) (x10 : Int64) (x12 : Int32) (x13 : Int32) (t0 : Int32) (t1 : Int32) : Option (Int32 × THS) := (if t1 = t0 then ((fX4_kind u.1 x4).bind fun z10 => (if x12 = (1 : Int32) then fL_acts_j331 u x3 x4 x10 x13 (1 : Int32) z10 else fL_acts_j331 u x3 x4 x10 x13 (2 : Int32) z10)) else some ((0 : Int32), u))
def fL_acts_j261 (u : THS) (x3 : Int32) (x4 : Int32) (x10 : Int64) (x12 : Int32) (t0 : Int32) : Option (Int32 × THS) := (if 0 ≤ x12 then ((fX4_update u x4).bind fun z13 => (if z13.1 = x12 then (if x12 = (1 : Int32) then fL_acts_j311 z13.2 x3 x4 x10 x12 t0 (1 : Int32) t0 else fL_acts_j311 z13.2 x3 x4 x10 x12 t0 (0 : Int32) t0) else some ((0 : Int32), z13.2))) else (if t0 = 0 then ((fX4_clearBuffer u.1).bind fun z17 => (if z17.1 = x3 then some ((1 : Int32), z17.2, u.2) else some ((0 : Int32), z17.2, u.2))) else some ((0 : Int32), u)))
def fL_acts_j96 (u : THS) (x2 : Int32) (x3 : Int32) (x4 : Int32) (x5 : Int32) (t0 : Int32) : Option (Int32 × THS) := ((fL_stored u.1 ((-1) : Int32)).bind fun z19 => ((fX4_rows u.1).bind fun z20 => (if (6 : Int32) ≤ x5 then ((fL_stored u.1 x4).bind fun z22 => (if (12 : Int32) ≤ x5 then (if x5 = (12 : Int32) then ((fX4_delete u x4).bind fun z45 => (if z45.1 < 0 then some ((0 : Int32), z45.2) else ((fL_stored z45.2.1 ((-1) : Int32)).bind fun z47 => (if (lg_cmp z47 z22) = 0 then ((fX4_rows z45.2.1).bind fun z49 => (if z49 = (z20 - (1 : Int32)) then some ((1 : Int32), z45.2) else some ((0 : Int32), z45.2))) else some ((0 : Int32), z45.2))))) else (if x5 = (13 : Int32) then ((fX4_notes u.1).bind fun z37 => ((fX4_bringHome u).bind fun z38 => (if z38.1 < 0 then some ((0 : Int32), z38.2) else (if z37 < z38.1 then some ((0 : Int32), z38.2) else ((fX4_notes z38.2.1).bind fun z41 => (if z41 = (z37 - z38.1) then ((fL_stored z38.2.1 ((-1) : Int32)).bind fun z43 => (if (lg_cmp z43 z19) = 0 then some ((1 : Int32), z38.2) else some ((0 : Int32), z38.2))) else some ((0 : Int32), z38.2))))))) else ((fX4_pages u.1).bind fun z26 => ((fL_up x2 z26).bind fun z27 => ((fX4_free u.1 z27).bind fun z28 => ((fX4_compact u z27).bind fun z29 => (if z29.1 < 0 then some ((0 : Int32), z29.2) else ((fX4_gap z29.2.1 z27).bind fun z31 => (if z31 = z28 then ((fX4_free z29.2.1 z27).bind fun z33 => (if z33 = z28 then ((fL_stored z29.2.1 ((-1) : Int32)).bind fun z35 => (if (lg_cmp z35 z19) = 0 then some ((1 : Int32), z29.2) else some ((0 : Int32), z29.2))) else some ((0 : Int32), z29.2))) else some ((0 : Int32), z29.2)))))))))) else ((fX4_ifUpdated u.1 x4 x3).bind fun z51 => ((fX4_greatestAtHome u.1 x4).bind fun z52 => (if z52 < x3 then fL_acts_j261 u x3 x4 z22 z51 (0 : Int32) else fL_acts_j261 u x3 x4 z22 z51 (1 : Int32)))))) else ((fX4_ifInserted u.1 x3).bind fun z54 => ((fX4_capacity u.1 x3).bind fun z55 => (if 0 ≤ z54 then ((fX4_insert u).bind fun z57 => (if z57.1 = z54 then ((fX4_capacity z57.2.1 x3).bind fun z59 => (if z59 = (z55 - (1 : Int32)) then ((fL_stored z57.2.1 z54).bind fun z61 => (if (lg_cmp z61 z19) = 0 then ((fX4_length z57.2.1 z54).bind fun z63 => (if z63 = x3 then ((fX4_rows z57.2.1).bind fun z65 => (if z65 = (z20 + (1 : Int32)) then some ((1 : Int32), z57.2) else some ((0 : Int32), z57.2))) else some ((0 : Int32), z57.2))) else some ((0 : Int32), z57.2))) else some ((0 : Int32), z57.2))) else some ((0 : Int32), z57.2))) else (if z55 = 0 then ((fX4_clearBuffer u.1).bind fun z68 => (if z68.1 = x3 then (if t0 = x3 then some ((1 : Int32), z68.2, u.2) else some ((0 : Int32), z68.2, u.2)) else some ((0 : Int32), z68.2, u.2))) else some ((0 : Int32), u))))))))
def fL_acts_j95 (u : THS) (x2 : Int32) (x3 : Int32) (x4 : Int32) (x5 : Int32) : Option (Int32 × THS) := fL_acts_j96 u x2 x3 x4 x5 (0 : Int32)
def fL_acts_j64 (u : THS) (x2 : Int32) (x3 : Int32) (x4 : Int32) (t0 : Int32) : Option (Int32 × THS) := (if x3 ≤ 0 then fL_acts_j95 u x2 x3 x4 t0 else (if (12 : Int32) ≤ t0 then fL_acts_j95 u x2 x3 x4 t0 else ((fL_up (x2 >>> ((6 : Int32) &&& 31)) (256 : Int32)).bind fun z73 => ((fX4_fill u.1 x3 z73).bind fun z74 => fL_acts_j96 (z74.2, u.2) x2 x3 x4 t0 z74.1))))
def fL_acts_j54 (u : THS) (x2 : Int32) (x3 : Int32) (x4 : Int32) : Option (Int32 × THS) := fL_acts_j64 u x2 x3 x4 (0 : Int32)
def fL_acts_j17 (u : THS) (x1 : Int32) (x2 : Int32) (t0 : Int32) (t1 : Int32) : Option (Int32 × THS) := ((fL_up t1 t0).bind fun z75 => ((fL_up (x2 >>> ((3 : Int32) &&& 31)) (40 : Int32)).bind fun z76 => ((fX4_rows u.1).bind fun z77 => (if (z77 + (1 : Int32)) = 0 then none else ((fL_row u.1 (z76 - z76 / (z77 + (1 : Int32)) * (z77 + (1 : Int32)))).bind fun z79 => ((fX4_rows u.1).bind fun z80 => (if z80 = 0 then fL_acts_j54 u x2 z75 z79 else (if 0 ≤ z79 then ((fL_up x1 (16 : Int32)).bind fun z83 => fL_acts_j64 u x2 z75 z79 z83) else fL_acts_j54 u x2 z75 z79))))))))
def fL_acts (u : THS) (p1 : Int32) (p2 : Int32) : Option (Int32 × THS) := (if ((p2 >>> ((9 : Int32) &&& 31)) &&& (1 : Int32)) = 0 then fL_acts_j17 u p1 p2 (61 : Int32) p2 else fL_acts_j17 u p1 p2 (10 : Int32) p2)
abbrev rmL_acts : Room := { frames := 7, cells := 0, slots := 0, locals := 164 }
set_option maxRecDepth 100000 in
set_option maxHeartbeats 4000000 in
theorem kL_acts (l : Launch) (G : va_G) (cI cS : ClassId) (sv : Nat) (ga : Nat → Nat) (sz : Nat) (u : THS) (p1 : Int32) (p2 : Int32) (r : Int32 × THS) (hf : fL_acts u p1 p2 = some r) : Met l yL_acts (.code yL_acts cL_acts 14 (some .boolean) :: bw) rmL_acts (va_Pc [.ref (ga 0), .int p1, .int p2] (PreM G (tysW cI cS) (wHS cI cS sv ga u) sz)) (va_Qi (fun r' u' => (r', u') = r) (PoM G (tysW cI cS) (va_A (wHS cI cS sv ga u) sz) (wHS cI cS sv ga)) (va_A (wHS cI cS sv ga u) sz)) 0 0 (va_A (wHS cI cS sv ga u) sz) := by
  refine enterM (own := RL) (by decide) rfl (Nat.le_of_ble_eq_true rfl) ?_
  intro p e s m args below meth c A Q hAe hQ S hr hlocks hP hK hN hD hA hS ls hl
  rw [hAe] at hQ
  have hx := S.1; have hb := S.2.1; have hml := S.2.2.1; have hown := S.2.2.2.1; have hq := S.2.2.2.2
  have hl : lv_has ls 14 [(0, .ref (ga 0)), (1, .int p1), (2, .int p2)] := hl
  have h := hf
  unfold fL_acts at h
  have J372 : ∀ (u : THS) (t0 : Int32) (t1 : Int32) , fL_acts_j372 u t0 t1 = some r → ∀ (H : Heap) (locs : List Loc), va_P G vwCl (wHS cI cS sv ga u) H → va_D A (wHS cI cS sv ga u) → va_S A s.heap H locs → ∀ ls : Array Slot, lv_has ls 14 [] → W p l e rmL_acts s m args below meth c H locs 0 0 Q (F0 m 372 ls [.int t0, .int t1]) := by
    intro u t0 t1 h
    unfold fL_acts_j372 at h
    intro H locs hP hD hS ls hl
    refine lv_icmp_lt (tgt := 379) hx hb dL_acts_372 (by decide) (fun c1 => ?_) (fun c1 => ?_)
    · have h := (if_pos c1).symm.trans h
      refine lv_iconst (v := 0) hx hb dL_acts_379 (by decide) ?_
      exact retMz hQ S hr hlocks rfl hK hN hP hD hS h dL_acts_380
    · have h := (if_neg c1).symm.trans h
      refine lv_iconst (v := 1) hx hb dL_acts_375 (by decide) ?_
      refine lv_goto (tgt := 380) hx hb dL_acts_376 (by decide) ?_
      exact retMz hQ S hr hlocks rfl hK hN hP hD hS h dL_acts_380
  have J331 : ∀ (u : THS) (x3 : Int32) (x4 : Int32) (x10 : Int64) (x13 : Int32) (t0 : Int32) (t1 : Int32) , fL_acts_j331 u x3 x4 x10 x13 t0 t1 = some r → ∀ (H : Heap) (locs : List Loc), va_P G vwCl (wHS cI cS sv ga u) H → va_D A (wHS cI cS sv ga u) → va_S A s.heap H locs → ∀ ls : Array Slot, lv_has ls 14 [(0, .ref (ga 0)), (3, .int x3), (4, .int x4), (10, .long x10), (13, .int x13)] → W p l e rmL_acts s m args below meth c H locs 0 0 Q (F0 m 331 ls [.int t0, .int t1]) := by
    intro u x3 x4 x10 x13 t0 t1 h
    unfold fL_acts_j331 at h
    intro H locs hP hD hS ls hl
    refine lv_icmp_ne (tgt := 379) hx hb dL_acts_331 (by decide) (fun c2 => ?_) (fun c2 => ?_)
    · have h := (if_neg c2).symm.trans h
      refine lv_iconst (v := 0) hx hb dL_acts_379 (by decide) ?_
      exact retMz hQ S hr hlocks rfl hK hN hP hD hS h dL_acts_380
    · have h := (if_pos c2).symm.trans h
      refine lv_aload_n hx hb dL_acts_334 rfl (lv_at hl 0 rfl) ?_
      refine lv_iload hx hb dL_acts_335 (lv_at hl 2 rfl) ?_
      obtain ⟨z3, e_z3, h⟩ := bnd h
      refine roL (cc_L_67 sv ga S hK hN (hP.sub [0, 1, 2, 3, 4, 5, 6, 7, 8, 9, 10, 11, 12] rfl) e_z3 hl.1 (Nat.le_of_ble_eq_true rfl) ⟨Nat.le_of_ble_eq_true rfl, Nat.le_of_ble_eq_true rfl⟩ dL_acts_337 ⟨Nat.le_of_ble_eq_true rfl, Nat.le_of_ble_eq_true rfl⟩) ?_
      refine lv_lload hx hb dL_acts_340 (lv_at hl 3 rfl) ?_
      refine W.lcmp hx hb dL_acts_342 ?_
      refine lv_if_ne (tgt := 379) hx hb dL_acts_343 (by decide) (fun c4 => ?_) (fun c4 => ?_)
      · have h := (if_neg c4).symm.trans h
        refine lv_iconst (v := 0) hx hb dL_acts_379 (by decide) ?_
        exact retMz hQ S hr hlocks rfl hK hN hP hD hS h dL_acts_380
      · have h := (if_pos c4).symm.trans h
        refine lv_aload_n hx hb dL_acts_346 rfl (lv_at hl 0 rfl) ?_
        refine lv_iload hx hb dL_acts_347 (lv_at hl 2 rfl) ?_
        obtain ⟨z5, e_z5, h⟩ := bnd h
        refine roI (cc_L_33 sv ga S hK hN (hP.sub [0, 1, 2, 3, 4, 5, 6, 7, 8, 9, 10, 11, 12] rfl) e_z5 hl.1 (Nat.le_of_ble_eq_true rfl) ⟨Nat.le_of_ble_eq_true rfl, Nat.le_of_ble_eq_true rfl⟩ dL_acts_349 ⟨Nat.le_of_ble_eq_true rfl, Nat.le_of_ble_eq_true rfl⟩) ?_
        refine lv_iload_n hx hb dL_acts_352 rfl (lv_at hl 1 rfl) ?_
        refine lv_icmp_ne (tgt := 379) hx hb dL_acts_353 (by decide) (fun c6 => ?_) (fun c6 => ?_)
        · have h := (if_neg c6).symm.trans h
          refine lv_iconst (v := 0) hx hb dL_acts_379 (by decide) ?_
          exact retMz hQ S hr hlocks rfl hK hN hP hD hS h dL_acts_380
        · have h := (if_pos c6).symm.trans h
          refine lv_aload_n hx hb dL_acts_356 rfl (lv_at hl 0 rfl) ?_
          refine lv_iload hx hb dL_acts_357 (lv_at hl 2 rfl) ?_
          obtain ⟨z7, e_z7, h⟩ := bnd h
          refine roI (cc_L_86 sv ga S hK hN (hP.sub [0, 1, 2, 3, 4, 5, 6, 7, 8, 9, 10, 11, 12] rfl) e_z7 hl.1 (Nat.le_of_ble_eq_true rfl) ⟨Nat.le_of_ble_eq_true rfl, Nat.le_of_ble_eq_true rfl⟩ dL_acts_359 ⟨Nat.le_of_ble_eq_true rfl, Nat.le_of_ble_eq_true rfl⟩) ?_
          refine lv_iload hx hb dL_acts_362 (lv_at hl 4 rfl) ?_
          refine lv_if_eq (tgt := 371) hx hb dL_acts_364 (by decide) (fun c8 => ?_) (fun c8 => ?_)
          · have h := (if_pos c8).symm.trans h
            refine lv_iconst (v := 1) hx hb dL_acts_371 (by decide) ?_
            exact J372 u (1 : Int32) z7 h _ _ hP hD hS _ (lv_sub hl [] rfl)
          · have h := (if_neg c8).symm.trans h
            refine lv_iload_n hx hb dL_acts_367 rfl (lv_at hl 1 rfl) ?_
            refine lv_goto (tgt := 372) hx hb dL_acts_368 (by decide) ?_
            exact J372 u x3 z7 h _ _ hP hD hS _ (lv_sub hl [] rfl)
  have J311 : ∀ (u : THS) (x3 : Int32) (x4 : Int32) (x10 : Int64) (x12 : Int32) (x13 : Int32) (t0 : Int32) (t1 : Int32) , fL_acts_j311 u x3 x4 x10 x12 x13 t0 t1 = some r → ∀ (H : Heap) (locs : List Loc), va_P G vwCl (wHS cI cS sv ga u) H → va_D A (wHS cI cS sv ga u) → va_S A s.heap H locs → ∀ ls : Array Slot, lv_has ls 14 [(0, .ref (ga 0)), (3, .int x3), (4, .int x4), (10, .long x10), (12, .int x12), (13, .int x13)] → W p l e rmL_acts s m args below meth c H locs 0 0 Q (F0 m 311 ls [.int t0, .int t1]) := by
    intro u x3 x4 x10 x12 x13 t0 t1 h
    unfold fL_acts_j311 at h
    intro H locs hP hD hS ls hl
    refine lv_icmp_ne (tgt := 379) hx hb dL_acts_311 (by decide) (fun c9 => ?_) (fun c9 => ?_)
    · have h := (if_neg c9).symm.trans h
      refine lv_iconst (v := 0) hx hb dL_acts_379 (by decide) ?_
      exact retMz hQ S hr hlocks rfl hK hN hP hD hS h dL_acts_380
    · have h := (if_pos c9).symm.trans h
      refine lv_aload_n hx hb dL_acts_314 rfl (lv_at hl 0 rfl) ?_
      refine lv_iload hx hb dL_acts_315 (lv_at hl 2 rfl) ?_
      obtain ⟨z10, e_z10, h⟩ := bnd h
      refine roI (cc_L_42 sv ga S hK hN (hP.sub [0, 1, 2, 3, 4, 5, 6, 7, 8, 9, 10, 11, 12] rfl) e_z10 hl.1 (Nat.le_of_ble_eq_true rfl) ⟨Nat.le_of_ble_eq_true rfl, Nat.le_of_ble_eq_true rfl⟩ dL_acts_317 ⟨Nat.le_of_ble_eq_true rfl, Nat.le_of_ble_eq_true rfl⟩) ?_
      refine lv_iload hx hb dL_acts_320 (lv_at hl 4 rfl) ?_
      refine lv_iconst (v := 1) hx hb dL_acts_322 (by decide) ?_
      refine lv_icmp_ne (tgt := 330) hx hb dL_acts_323 (by decide) (fun c11 => ?_) (fun c11 => ?_)
      · have h := (if_neg c11).symm.trans h
        refine lv_iconst (v := 2) hx hb dL_acts_330 (by decide) ?_
        exact J331 u x3 x4 x10 x13 (2 : Int32) z10 h _ _ hP hD hS _ (lv_sub hl [0, 1, 2, 3, 5] rfl)
      · have h := (if_pos c11).symm.trans h
        refine lv_iconst (v := 1) hx hb dL_acts_326 (by decide) ?_
        refine lv_goto (tgt := 331) hx hb dL_acts_327 (by decide) ?_
        exact J331 u x3 x4 x10 x13 (1 : Int32) z10 h _ _ hP hD hS _ (lv_sub hl [0, 1, 2, 3, 5] rfl)
  have J261 : ∀ (u : THS) (x3 : Int32) (x4 : Int32) (x10 : Int64) (x12 : Int32) (t0 : Int32) , fL_acts_j261 u x3 x4 x10 x12 t0 = some r → ∀ (H : Heap) (locs : List Loc), va_P G vwCl (wHS cI cS sv ga u) H → va_D A (wHS cI cS sv ga u) → va_S A s.heap H locs → ∀ ls : Array Slot, lv_has ls 14 [(0, .ref (ga 0)), (3, .int x3), (4, .int x4), (10, .long x10), (12, .int x12)] → W p l e rmL_acts s m args below meth c H locs 0 0 Q (F0 m 261 ls [.int t0]) := by
    intro u x3 x4 x10 x12 t0 h
    unfold fL_acts_j261 at h
    intro H locs hP hD hS ls hl
    refine lv_istore (lv' := [(13, .int t0), (0, .ref (ga 0)), (3, .int x3), (4, .int x4), (10, .long x10), (12, .int x12)]) hx hb dL_acts_261 hl (by decide) rfl (fun ls hl => ?_)
    refine lv_iload hx hb dL_acts_263 (lv_at hl 5 rfl) ?_
    refine lv_if_ge (tgt := 287) hx hb dL_acts_265 (by decide) (fun c12 => ?_) (fun c12 => ?_)
    · have h := (if_pos c12).symm.trans h
      refine lv_aload_n hx hb dL_acts_287 rfl (lv_at hl 1 rfl) ?_
      refine lv_iload hx hb dL_acts_288 (lv_at hl 3 rfl) ?_
      obtain ⟨z13, e_z13, h⟩ := bnd h
      refine mui (cc_L_89 sv ga S hK hN hP hD e_z13 hl.1 (Nat.le_of_ble_eq_true rfl) ⟨Nat.le_of_ble_eq_true rfl, Nat.le_of_ble_eq_true rfl⟩ dL_acts_290 ⟨Nat.le_of_ble_eq_true rfl, Nat.le_of_ble_eq_true rfl⟩) hS hD (va_free hD hS hA [0, 1, 2, 3, 4, 5, 6, 7, 8, 9, 10, 11, 12, 13, 14, 15, 16, 17, 18, 19, 20, 21, 22, 23, 24, 25] rfl) (fun H locs hP hD hS => ?_)
      have hP : va_P G vwCl (wHS cI cS sv ga z13.2) H := hP
      have hD : va_D A (wHS cI cS sv ga z13.2) := hD
      refine lv_iload hx hb dL_acts_293 (lv_at hl 5 rfl) ?_
      refine lv_icmp_ne (tgt := 379) hx hb dL_acts_295 (by decide) (fun c14 => ?_) (fun c14 => ?_)
      · have h := (if_neg c14).symm.trans h
        refine lv_iconst (v := 0) hx hb dL_acts_379 (by decide) ?_
        exact retMz hQ S hr hlocks rfl hK hN hP hD hS h dL_acts_380
      · have h := (if_pos c14).symm.trans h
        refine lv_iload hx hb dL_acts_298 (lv_at hl 0 rfl) ?_
        refine lv_iload hx hb dL_acts_300 (lv_at hl 5 rfl) ?_
        refine lv_iconst (v := 1) hx hb dL_acts_302 (by decide) ?_
        refine lv_icmp_ne (tgt := 310) hx hb dL_acts_303 (by decide) (fun c15 => ?_) (fun c15 => ?_)
        · have h := (if_neg c15).symm.trans h
          refine lv_iconst (v := 0) hx hb dL_acts_310 (by decide) ?_
          exact J311 z13.2 x3 x4 x10 x12 t0 (0 : Int32) t0 h _ _ hP hD hS _ (lv_sub hl [1, 2, 3, 4, 5, 0] rfl)
        · have h := (if_pos c15).symm.trans h
          refine lv_iconst (v := 1) hx hb dL_acts_306 (by decide) ?_
          refine lv_goto (tgt := 311) hx hb dL_acts_307 (by decide) ?_
          exact J311 z13.2 x3 x4 x10 x12 t0 (1 : Int32) t0 h _ _ hP hD hS _ (lv_sub hl [1, 2, 3, 4, 5, 0] rfl)
    · have h := (if_neg c12).symm.trans h
      refine lv_iload hx hb dL_acts_268 (lv_at hl 0 rfl) ?_
      refine lv_if_ne (tgt := 285) hx hb dL_acts_270 (by decide) (fun c16 => ?_) (fun c16 => ?_)
      · have h := (if_neg c16).symm.trans h
        refine lv_iconst (v := 0) hx hb dL_acts_285 (by decide) ?_
        exact retMz hQ S hr hlocks rfl hK hN hP hD hS h dL_acts_286
      · have h := (if_pos c16).symm.trans h
        refine lv_aload_n hx hb dL_acts_273 rfl (lv_at hl 1 rfl) ?_
        obtain ⟨z17, e_z17, h⟩ := bnd h
        refine mji (cc_L_77 sv ga S hK hN (hP.sub [0, 1, 2, 3, 4, 5, 6, 7, 8, 9, 10, 11, 12] rfl) (hD.sub [0, 1, 2, 3, 4, 5, 6, 7, 8, 9, 10, 11, 12] (by decide) rfl) e_z17 hl.1 (Nat.le_of_ble_eq_true rfl) ⟨Nat.le_of_ble_eq_true rfl, Nat.le_of_ble_eq_true rfl⟩ dL_acts_274 ⟨Nat.le_of_ble_eq_true rfl, Nat.le_of_ble_eq_true rfl⟩) hS hP hD hA [0, 1, 2, 3, 4, 5, 6, 7, 8, 9, 10, 11, 12] [13, 14, 15, 16, 17, 18, 19, 20, 21, 22, 23, 24, 25] rfl rfl (by decide) (by decide) [13, 14, 15, 16, 17, 18, 19, 20, 21, 22, 23, 24, 25, 0, 1, 2, 3, 4, 5, 6, 7, 8, 9, 10, 11, 12] (by decide) (wHS cI cS sv ga (z17.2, u.2)) rfl (fun H locs hP hD hS => ?_)
        refine lv_iload_n hx hb dL_acts_277 rfl (lv_at hl 2 rfl) ?_
        refine lv_icmp_ne (tgt := 285) hx hb dL_acts_278 (by decide) (fun c18 => ?_) (fun c18 => ?_)
        · have h := (if_neg c18).symm.trans h
          refine lv_iconst (v := 0) hx hb dL_acts_285 (by decide) ?_
          exact retMz hQ S hr hlocks rfl hK hN hP hD hS h dL_acts_286
        · have h := (if_pos c18).symm.trans h
          refine lv_iconst (v := 1) hx hb dL_acts_281 (by decide) ?_
          refine lv_goto (tgt := 286) hx hb dL_acts_282 (by decide) ?_
          exact retMz hQ S hr hlocks rfl hK hN hP hD hS h dL_acts_286
  have J96 : ∀ (u : THS) (x2 : Int32) (x3 : Int32) (x4 : Int32) (x5 : Int32) (t0 : Int32) , fL_acts_j96 u x2 x3 x4 x5 t0 = some r → ∀ (H : Heap) (locs : List Loc), va_P G vwCl (wHS cI cS sv ga u) H → va_D A (wHS cI cS sv ga u) → va_S A s.heap H locs → ∀ ls : Array Slot, lv_has ls 14 [(0, .ref (ga 0)), (2, .int x2), (3, .int x3), (4, .int x4), (5, .int x5)] → W p l e rmL_acts s m args below meth c H locs 0 0 Q (F0 m 96 ls [.int t0]) := by
    intro u x2 x3 x4 x5 t0 h
    unfold fL_acts_j96 at h
    intro H locs hP hD hS ls hl
    refine lv_istore (lv' := [(6, .int t0), (0, .ref (ga 0)), (2, .int x2), (3, .int x3), (4, .int x4), (5, .int x5)]) hx hb dL_acts_96 hl (by decide) rfl (fun ls hl => ?_)
    refine lv_aload_n hx hb dL_acts_98 rfl (lv_at hl 1 rfl) ?_
    refine lv_iconst (v := (-1)) hx hb dL_acts_99 (by decide) ?_
    obtain ⟨z19, e_z19, h⟩ := bnd h
    refine roL (cc_L_67 sv ga S hK hN (hP.sub [0, 1, 2, 3, 4, 5, 6, 7, 8, 9, 10, 11, 12] rfl) e_z19 hl.1 (Nat.le_of_ble_eq_true rfl) ⟨Nat.le_of_ble_eq_true rfl, Nat.le_of_ble_eq_true rfl⟩ dL_acts_100 ⟨Nat.le_of_ble_eq_true rfl, Nat.le_of_ble_eq_true rfl⟩) ?_
    refine lv_lstore (lv' := [(7, .long z19), (6, .int t0), (0, .ref (ga 0)), (2, .int x2), (3, .int x3), (4, .int x4), (5, .int x5)]) hx hb dL_acts_103 hl (by decide) rfl (fun ls hl => ?_)
    refine lv_aload_n hx hb dL_acts_105 rfl (lv_at hl 2 rfl) ?_
    obtain ⟨z20, e_z20, h⟩ := bnd h
    refine roI (cc_L_9 sv ga S hK hN (hP.sub [0, 1, 2, 3, 4, 5, 6, 7, 8, 9, 10, 11, 12] rfl) e_z20 hl.1 (Nat.le_of_ble_eq_true rfl) ⟨Nat.le_of_ble_eq_true rfl, Nat.le_of_ble_eq_true rfl⟩ dL_acts_106 ⟨Nat.le_of_ble_eq_true rfl, Nat.le_of_ble_eq_true rfl⟩) ?_
    refine lv_istore (lv' := [(9, .int z20), (7, .long z19), (6, .int t0), (0, .ref (ga 0)), (2, .int x2), (3, .int x3), (4, .int x4), (5, .int x5)]) hx hb dL_acts_109 hl (by decide) rfl (fun ls hl => ?_)
    refine lv_iload hx hb dL_acts_111 (lv_at hl 7 rfl) ?_
    refine lv_bipush (v := 6) hx hb dL_acts_113 (by decide) ?_
    refine lv_icmp_ge (tgt := 222) hx hb dL_acts_115 (by decide) (fun c21 => ?_) (fun c21 => ?_)
    · have h := (if_pos c21).symm.trans h
      refine lv_aload_n hx hb dL_acts_222 rfl (lv_at hl 3 rfl) ?_
      refine lv_iload hx hb dL_acts_223 (lv_at hl 6 rfl) ?_
      obtain ⟨z22, e_z22, h⟩ := bnd h
      refine roL (cc_L_67 sv ga S hK hN (hP.sub [0, 1, 2, 3, 4, 5, 6, 7, 8, 9, 10, 11, 12] rfl) e_z22 hl.1 (Nat.le_of_ble_eq_true rfl) ⟨Nat.le_of_ble_eq_true rfl, Nat.le_of_ble_eq_true rfl⟩ dL_acts_225 ⟨Nat.le_of_ble_eq_true rfl, Nat.le_of_ble_eq_true rfl⟩) ?_
      refine lv_lstore (lv' := [(10, .long z22), (9, .int z20), (7, .long z19), (6, .int t0), (0, .ref (ga 0)), (2, .int x2), (3, .int x3), (4, .int x4), (5, .int x5)]) hx hb dL_acts_228 hl (by decide) rfl (fun ls hl => ?_)
      refine lv_iload hx hb dL_acts_230 (lv_at hl 8 rfl) ?_
      refine lv_bipush (v := 12) hx hb dL_acts_232 (by decide) ?_
      refine lv_icmp_ge (tgt := 381) hx hb dL_acts_234 (by decide) (fun c23 => ?_) (fun c23 => ?_)
      · have h := (if_pos c23).symm.trans h
        refine lv_iload hx hb dL_acts_381 (lv_at hl 8 rfl) ?_
        refine lv_bipush (v := 12) hx hb dL_acts_383 (by decide) ?_
        refine lv_icmp_ne (tgt := 425) hx hb dL_acts_385 (by decide) (fun c24 => ?_) (fun c24 => ?_)
        · have h := (if_neg c24).symm.trans h
          refine lv_iload hx hb dL_acts_425 (lv_at hl 8 rfl) ?_
          refine lv_bipush (v := 13) hx hb dL_acts_427 (by decide) ?_
          refine lv_icmp_ne (tgt := 485) hx hb dL_acts_429 (by decide) (fun c25 => ?_) (fun c25 => ?_)
          · have h := (if_neg c25).symm.trans h
            refine lv_iload_n hx hb dL_acts_485 rfl (lv_at hl 5 rfl) ?_
            refine lv_aload_n hx hb dL_acts_486 rfl (lv_at hl 4 rfl) ?_
            obtain ⟨z26, e_z26, h⟩ := bnd h
            refine roI (cc_L_24 sv ga S hK hN (hP.sub [0, 1, 2, 3, 4, 5, 6, 7, 8, 9, 10, 11, 12] rfl) e_z26 hl.1 (Nat.le_of_ble_eq_true rfl) ⟨Nat.le_of_ble_eq_true rfl, Nat.le_of_ble_eq_true rfl⟩ dL_acts_487 ⟨Nat.le_of_ble_eq_true rfl, Nat.le_of_ble_eq_true rfl⟩) ?_
            obtain ⟨z27, e_z27, h⟩ := bnd h
            refine roI (cc_L_55 S hK hN va_P0 e_z27 hl.1 (Nat.le_of_ble_eq_true rfl) ⟨Nat.le_of_ble_eq_true rfl, Nat.le_of_ble_eq_true rfl⟩ dL_acts_490 ⟨Nat.le_of_ble_eq_true rfl, Nat.le_of_ble_eq_true rfl⟩) ?_
            refine lv_istore (lv' := [(12, .int z27), (10, .long z22), (9, .int z20), (7, .long z19), (6, .int t0), (0, .ref (ga 0)), (2, .int x2), (3, .int x3), (4, .int x4), (5, .int x5)]) hx hb dL_acts_493 hl (by decide) rfl (fun ls hl => ?_)
            refine lv_aload_n hx hb dL_acts_495 rfl (lv_at hl 5 rfl) ?_
            refine lv_iload hx hb dL_acts_496 (lv_at hl 0 rfl) ?_
            obtain ⟨z28, e_z28, h⟩ := bnd h
            refine roI (cc_L_98 sv ga S hK hN (hP.sub [0, 1, 2, 3, 4, 5, 6, 7, 8, 9, 10, 11, 12] rfl) e_z28 hl.1 (Nat.le_of_ble_eq_true rfl) ⟨Nat.le_of_ble_eq_true rfl, Nat.le_of_ble_eq_true rfl⟩ dL_acts_498 ⟨Nat.le_of_ble_eq_true rfl, Nat.le_of_ble_eq_true rfl⟩) ?_
            refine lv_istore (lv' := [(13, .int z28), (12, .int z27), (10, .long z22), (9, .int z20), (7, .long z19), (6, .int t0), (0, .ref (ga 0)), (2, .int x2), (3, .int x3), (4, .int x4), (5, .int x5)]) hx hb dL_acts_501 hl (by decide) rfl (fun ls hl => ?_)
            refine lv_aload_n hx hb dL_acts_503 rfl (lv_at hl 6 rfl) ?_
            refine lv_iload hx hb dL_acts_504 (lv_at hl 1 rfl) ?_
            obtain ⟨z29, e_z29, h⟩ := bnd h
            refine mui (cc_L_101 sv ga S hK hN hP hD e_z29 hl.1 (Nat.le_of_ble_eq_true rfl) ⟨Nat.le_of_ble_eq_true rfl, Nat.le_of_ble_eq_true rfl⟩ dL_acts_506 ⟨Nat.le_of_ble_eq_true rfl, Nat.le_of_ble_eq_true rfl⟩) hS hD (va_free hD hS hA [0, 1, 2, 3, 4, 5, 6, 7, 8, 9, 10, 11, 12, 13, 14, 15, 16, 17, 18, 19, 20, 21, 22, 23, 24, 25] rfl) (fun H locs hP hD hS => ?_)
            have hP : va_P G vwCl (wHS cI cS sv ga z29.2) H := hP
            have hD : va_D A (wHS cI cS sv ga z29.2) := hD
            refine lv_if_lt (tgt := 549) hx hb dL_acts_509 (by decide) (fun c30 => ?_) (fun c30 => ?_)
            · have h := (if_pos c30).symm.trans h
              refine lv_iconst (v := 0) hx hb dL_acts_549 (by decide) ?_
              exact retMz hQ S hr hlocks rfl hK hN hP hD hS h dL_acts_550
            · have h := (if_neg c30).symm.trans h
              refine lv_aload_n hx hb dL_acts_512 rfl (lv_at hl 6 rfl) ?_
              refine lv_iload hx hb dL_acts_513 (lv_at hl 1 rfl) ?_
              obtain ⟨z31, e_z31, h⟩ := bnd h
              refine roI (cc_L_104 sv ga S hK hN (hP.sub [0, 1, 2, 3, 4, 5, 6, 7, 8, 9, 10, 11, 12] rfl) e_z31 hl.1 (Nat.le_of_ble_eq_true rfl) ⟨Nat.le_of_ble_eq_true rfl, Nat.le_of_ble_eq_true rfl⟩ dL_acts_515 ⟨Nat.le_of_ble_eq_true rfl, Nat.le_of_ble_eq_true rfl⟩) ?_
              refine lv_iload hx hb dL_acts_518 (lv_at hl 0 rfl) ?_
              refine lv_icmp_ne (tgt := 549) hx hb dL_acts_520 (by decide) (fun c32 => ?_) (fun c32 => ?_)
              · have h := (if_neg c32).symm.trans h
                refine lv_iconst (v := 0) hx hb dL_acts_549 (by decide) ?_
                exact retMz hQ S hr hlocks rfl hK hN hP hD hS h dL_acts_550
              · have h := (if_pos c32).symm.trans h
                refine lv_aload_n hx hb dL_acts_523 rfl (lv_at hl 6 rfl) ?_
                refine lv_iload hx hb dL_acts_524 (lv_at hl 1 rfl) ?_
                obtain ⟨z33, e_z33, h⟩ := bnd h
                refine roI (cc_L_98 sv ga S hK hN (hP.sub [0, 1, 2, 3, 4, 5, 6, 7, 8, 9, 10, 11, 12] rfl) e_z33 hl.1 (Nat.le_of_ble_eq_true rfl) ⟨Nat.le_of_ble_eq_true rfl, Nat.le_of_ble_eq_true rfl⟩ dL_acts_526 ⟨Nat.le_of_ble_eq_true rfl, Nat.le_of_ble_eq_true rfl⟩) ?_
                refine lv_iload hx hb dL_acts_529 (lv_at hl 0 rfl) ?_
                refine lv_icmp_ne (tgt := 549) hx hb dL_acts_531 (by decide) (fun c34 => ?_) (fun c34 => ?_)
                · have h := (if_neg c34).symm.trans h
                  refine lv_iconst (v := 0) hx hb dL_acts_549 (by decide) ?_
                  exact retMz hQ S hr hlocks rfl hK hN hP hD hS h dL_acts_550
                · have h := (if_pos c34).symm.trans h
                  refine lv_aload_n hx hb dL_acts_534 rfl (lv_at hl 6 rfl) ?_
                  refine lv_iconst (v := (-1)) hx hb dL_acts_535 (by decide) ?_
                  obtain ⟨z35, e_z35, h⟩ := bnd h
                  refine roL (cc_L_67 sv ga S hK hN (hP.sub [0, 1, 2, 3, 4, 5, 6, 7, 8, 9, 10, 11, 12] rfl) e_z35 hl.1 (Nat.le_of_ble_eq_true rfl) ⟨Nat.le_of_ble_eq_true rfl, Nat.le_of_ble_eq_true rfl⟩ dL_acts_536 ⟨Nat.le_of_ble_eq_true rfl, Nat.le_of_ble_eq_true rfl⟩) ?_
                  refine lv_lload hx hb dL_acts_539 (lv_at hl 4 rfl) ?_
                  refine W.lcmp hx hb dL_acts_541 ?_
                  refine lv_if_ne (tgt := 549) hx hb dL_acts_542 (by decide) (fun c36 => ?_) (fun c36 => ?_)
                  · have h := (if_neg c36).symm.trans h
                    refine lv_iconst (v := 0) hx hb dL_acts_549 (by decide) ?_
                    exact retMz hQ S hr hlocks rfl hK hN hP hD hS h dL_acts_550
                  · have h := (if_pos c36).symm.trans h
                    refine lv_iconst (v := 1) hx hb dL_acts_545 (by decide) ?_
                    refine lv_goto (tgt := 550) hx hb dL_acts_546 (by decide) ?_
                    exact retMz hQ S hr hlocks rfl hK hN hP hD hS h dL_acts_550
          · have h := (if_pos c25).symm.trans h
            refine lv_aload_n hx hb dL_acts_432 rfl (lv_at hl 4 rfl) ?_
            obtain ⟨z37, e_z37, h⟩ := bnd h
            refine roI (cc_L_48 sv ga S hK hN (hP.sub [0, 1, 2, 3, 4, 5, 6, 7, 8, 9, 10, 11, 12] rfl) e_z37 hl.1 (Nat.le_of_ble_eq_true rfl) ⟨Nat.le_of_ble_eq_true rfl, Nat.le_of_ble_eq_true rfl⟩ dL_acts_433 ⟨Nat.le_of_ble_eq_true rfl, Nat.le_of_ble_eq_true rfl⟩) ?_
            refine lv_istore (lv' := [(12, .int z37), (10, .long z22), (9, .int z20), (7, .long z19), (6, .int t0), (0, .ref (ga 0)), (2, .int x2), (3, .int x3), (4, .int x4), (5, .int x5)]) hx hb dL_acts_436 hl (by decide) rfl (fun ls hl => ?_)
            refine lv_aload_n hx hb dL_acts_438 rfl (lv_at hl 5 rfl) ?_
            obtain ⟨z38, e_z38, h⟩ := bnd h
            refine mui (cc_L_95 sv ga S hK hN hP hD e_z38 hl.1 (Nat.le_of_ble_eq_true rfl) ⟨Nat.le_of_ble_eq_true rfl, Nat.le_of_ble_eq_true rfl⟩ dL_acts_439 ⟨Nat.le_of_ble_eq_true rfl, Nat.le_of_ble_eq_true rfl⟩) hS hD (va_free hD hS hA [0, 1, 2, 3, 4, 5, 6, 7, 8, 9, 10, 11, 12, 13, 14, 15, 16, 17, 18, 19, 20, 21, 22, 23, 24, 25] rfl) (fun H locs hP hD hS => ?_)
            have hP : va_P G vwCl (wHS cI cS sv ga z38.2) H := hP
            have hD : va_D A (wHS cI cS sv ga z38.2) := hD
            refine lv_istore (lv' := [(13, .int z38.1), (12, .int z37), (10, .long z22), (9, .int z20), (7, .long z19), (6, .int t0), (0, .ref (ga 0)), (2, .int x2), (3, .int x3), (4, .int x4), (5, .int x5)]) hx hb dL_acts_442 hl (by decide) rfl (fun ls hl => ?_)
            refine lv_iload hx hb dL_acts_444 (lv_at hl 0 rfl) ?_
            refine lv_if_lt (tgt := 483) hx hb dL_acts_446 (by decide) (fun c39 => ?_) (fun c39 => ?_)
            · have h := (if_pos c39).symm.trans h
              refine lv_iconst (v := 0) hx hb dL_acts_483 (by decide) ?_
              exact retMz hQ S hr hlocks rfl hK hN hP hD hS h dL_acts_484
            · have h := (if_neg c39).symm.trans h
              refine lv_iload hx hb dL_acts_449 (lv_at hl 0 rfl) ?_
              refine lv_iload hx hb dL_acts_451 (lv_at hl 1 rfl) ?_
              refine lv_icmp_gt (tgt := 483) hx hb dL_acts_453 (by decide) (fun c40 => ?_) (fun c40 => ?_)
              · have h := (if_pos c40).symm.trans h
                refine lv_iconst (v := 0) hx hb dL_acts_483 (by decide) ?_
                exact retMz hQ S hr hlocks rfl hK hN hP hD hS h dL_acts_484
              · have h := (if_neg c40).symm.trans h
                refine lv_aload_n hx hb dL_acts_456 rfl (lv_at hl 6 rfl) ?_
                obtain ⟨z41, e_z41, h⟩ := bnd h
                refine roI (cc_L_48 sv ga S hK hN (hP.sub [0, 1, 2, 3, 4, 5, 6, 7, 8, 9, 10, 11, 12] rfl) e_z41 hl.1 (Nat.le_of_ble_eq_true rfl) ⟨Nat.le_of_ble_eq_true rfl, Nat.le_of_ble_eq_true rfl⟩ dL_acts_457 ⟨Nat.le_of_ble_eq_true rfl, Nat.le_of_ble_eq_true rfl⟩) ?_
                refine lv_iload hx hb dL_acts_460 (lv_at hl 1 rfl) ?_
                refine lv_iload hx hb dL_acts_462 (lv_at hl 0 rfl) ?_
                refine lv_isub hx hb dL_acts_464 ?_
                refine lv_icmp_ne (tgt := 483) hx hb dL_acts_465 (by decide) (fun c42 => ?_) (fun c42 => ?_)
                · have h := (if_neg c42).symm.trans h
                  refine lv_iconst (v := 0) hx hb dL_acts_483 (by decide) ?_
                  exact retMz hQ S hr hlocks rfl hK hN hP hD hS h dL_acts_484
                · have h := (if_pos c42).symm.trans h
                  refine lv_aload_n hx hb dL_acts_468 rfl (lv_at hl 6 rfl) ?_
                  refine lv_iconst (v := (-1)) hx hb dL_acts_469 (by decide) ?_
                  obtain ⟨z43, e_z43, h⟩ := bnd h
                  refine roL (cc_L_67 sv ga S hK hN (hP.sub [0, 1, 2, 3, 4, 5, 6, 7, 8, 9, 10, 11, 12] rfl) e_z43 hl.1 (Nat.le_of_ble_eq_true rfl) ⟨Nat.le_of_ble_eq_true rfl, Nat.le_of_ble_eq_true rfl⟩ dL_acts_470 ⟨Nat.le_of_ble_eq_true rfl, Nat.le_of_ble_eq_true rfl⟩) ?_
                  refine lv_lload hx hb dL_acts_473 (lv_at hl 4 rfl) ?_
                  refine W.lcmp hx hb dL_acts_475 ?_
                  refine lv_if_ne (tgt := 483) hx hb dL_acts_476 (by decide) (fun c44 => ?_) (fun c44 => ?_)
                  · have h := (if_neg c44).symm.trans h
                    refine lv_iconst (v := 0) hx hb dL_acts_483 (by decide) ?_
                    exact retMz hQ S hr hlocks rfl hK hN hP hD hS h dL_acts_484
                  · have h := (if_pos c44).symm.trans h
                    refine lv_iconst (v := 1) hx hb dL_acts_479 (by decide) ?_
                    refine lv_goto (tgt := 484) hx hb dL_acts_480 (by decide) ?_
                    exact retMz hQ S hr hlocks rfl hK hN hP hD hS h dL_acts_484
        · have h := (if_pos c24).symm.trans h
          refine lv_aload_n hx hb dL_acts_388 rfl (lv_at hl 4 rfl) ?_
          refine lv_iload hx hb dL_acts_389 (lv_at hl 7 rfl) ?_
          obtain ⟨z45, e_z45, h⟩ := bnd h
          refine mui (cc_L_92 sv ga S hK hN hP hD e_z45 hl.1 (Nat.le_of_ble_eq_true rfl) ⟨Nat.le_of_ble_eq_true rfl, Nat.le_of_ble_eq_true rfl⟩ dL_acts_391 ⟨Nat.le_of_ble_eq_true rfl, Nat.le_of_ble_eq_true rfl⟩) hS hD (va_free hD hS hA [0, 1, 2, 3, 4, 5, 6, 7, 8, 9, 10, 11, 12, 13, 14, 15, 16, 17, 18, 19, 20, 21, 22, 23, 24, 25] rfl) (fun H locs hP hD hS => ?_)
          have hP : va_P G vwCl (wHS cI cS sv ga z45.2) H := hP
          have hD : va_D A (wHS cI cS sv ga z45.2) := hD
          refine lv_if_lt (tgt := 423) hx hb dL_acts_394 (by decide) (fun c46 => ?_) (fun c46 => ?_)
          · have h := (if_pos c46).symm.trans h
            refine lv_iconst (v := 0) hx hb dL_acts_423 (by decide) ?_
            exact retMz hQ S hr hlocks rfl hK hN hP hD hS h dL_acts_424
          · have h := (if_neg c46).symm.trans h
            refine lv_aload_n hx hb dL_acts_397 rfl (lv_at hl 4 rfl) ?_
            refine lv_iconst (v := (-1)) hx hb dL_acts_398 (by decide) ?_
            obtain ⟨z47, e_z47, h⟩ := bnd h
            refine roL (cc_L_67 sv ga S hK hN (hP.sub [0, 1, 2, 3, 4, 5, 6, 7, 8, 9, 10, 11, 12] rfl) e_z47 hl.1 (Nat.le_of_ble_eq_true rfl) ⟨Nat.le_of_ble_eq_true rfl, Nat.le_of_ble_eq_true rfl⟩ dL_acts_399 ⟨Nat.le_of_ble_eq_true rfl, Nat.le_of_ble_eq_true rfl⟩) ?_
            refine lv_lload hx hb dL_acts_402 (lv_at hl 0 rfl) ?_
            refine W.lcmp hx hb dL_acts_404 ?_
            refine lv_if_ne (tgt := 423) hx hb dL_acts_405 (by decide) (fun c48 => ?_) (fun c48 => ?_)
            · have h := (if_neg c48).symm.trans h
              refine lv_iconst (v := 0) hx hb dL_acts_423 (by decide) ?_
              exact retMz hQ S hr hlocks rfl hK hN hP hD hS h dL_acts_424
            · have h := (if_pos c48).symm.trans h
              refine lv_aload_n hx hb dL_acts_408 rfl (lv_at hl 4 rfl) ?_
              obtain ⟨z49, e_z49, h⟩ := bnd h
              refine roI (cc_L_9 sv ga S hK hN (hP.sub [0, 1, 2, 3, 4, 5, 6, 7, 8, 9, 10, 11, 12] rfl) e_z49 hl.1 (Nat.le_of_ble_eq_true rfl) ⟨Nat.le_of_ble_eq_true rfl, Nat.le_of_ble_eq_true rfl⟩ dL_acts_409 ⟨Nat.le_of_ble_eq_true rfl, Nat.le_of_ble_eq_true rfl⟩) ?_
              refine lv_iload hx hb dL_acts_412 (lv_at hl 1 rfl) ?_
              refine lv_iconst (v := 1) hx hb dL_acts_414 (by decide) ?_
              refine lv_isub hx hb dL_acts_415 ?_
              refine lv_icmp_ne (tgt := 423) hx hb dL_acts_416 (by decide) (fun c50 => ?_) (fun c50 => ?_)
              · have h := (if_neg c50).symm.trans h
                refine lv_iconst (v := 0) hx hb dL_acts_423 (by decide) ?_
                exact retMz hQ S hr hlocks rfl hK hN hP hD hS h dL_acts_424
              · have h := (if_pos c50).symm.trans h
                refine lv_iconst (v := 1) hx hb dL_acts_419 (by decide) ?_
                refine lv_goto (tgt := 424) hx hb dL_acts_420 (by decide) ?_
                exact retMz hQ S hr hlocks rfl hK hN hP hD hS h dL_acts_424
      · have h := (if_neg c23).symm.trans h
        refine lv_aload_n hx hb dL_acts_237 rfl (lv_at hl 4 rfl) ?_
        refine lv_iload hx hb dL_acts_238 (lv_at hl 7 rfl) ?_
        refine lv_iload_n hx hb dL_acts_240 rfl (lv_at hl 6 rfl) ?_
        obtain ⟨z51, e_z51, h⟩ := bnd h
        refine roI (cc_L_83 sv ga S hK hN (hP.sub [0, 1, 2, 3, 4, 5, 6, 7, 8, 9, 10, 11, 12] rfl) e_z51 hl.1 (Nat.le_of_ble_eq_true rfl) ⟨Nat.le_of_ble_eq_true rfl, Nat.le_of_ble_eq_true rfl⟩ dL_acts_241 ⟨Nat.le_of_ble_eq_true rfl, Nat.le_of_ble_eq_true rfl⟩) ?_
        refine lv_istore (lv' := [(12, .int z51), (10, .long z22), (9, .int z20), (7, .long z19), (6, .int t0), (0, .ref (ga 0)), (2, .int x2), (3, .int x3), (4, .int x4), (5, .int x5)]) hx hb dL_acts_244 hl (by decide) rfl (fun ls hl => ?_)
        refine lv_iload_n hx hb dL_acts_246 rfl (lv_at hl 7 rfl) ?_
        refine lv_aload_n hx hb dL_acts_247 rfl (lv_at hl 5 rfl) ?_
        refine lv_iload hx hb dL_acts_248 (lv_at hl 8 rfl) ?_
        obtain ⟨z52, e_z52, h⟩ := bnd h
        refine roI (cc_L_86 sv ga S hK hN (hP.sub [0, 1, 2, 3, 4, 5, 6, 7, 8, 9, 10, 11, 12] rfl) e_z52 hl.1 (Nat.le_of_ble_eq_true rfl) ⟨Nat.le_of_ble_eq_true rfl, Nat.le_of_ble_eq_true rfl⟩ dL_acts_250 ⟨Nat.le_of_ble_eq_true rfl, Nat.le_of_ble_eq_true rfl⟩) ?_
        refine lv_icmp_gt (tgt := 260) hx hb dL_acts_253 (by decide) (fun c53 => ?_) (fun c53 => ?_)
        · have h := (if_pos c53).symm.trans h
          refine lv_iconst (v := 0) hx hb dL_acts_260 (by decide) ?_
          exact J261 u x3 x4 z22 z51 (0 : Int32) h _ _ hP hD hS _ (lv_sub hl [5, 7, 8, 1, 0] rfl)
        · have h := (if_neg c53).symm.trans h
          refine lv_iconst (v := 1) hx hb dL_acts_256 (by decide) ?_
          refine lv_goto (tgt := 261) hx hb dL_acts_257 (by decide) ?_
          exact J261 u x3 x4 z22 z51 (1 : Int32) h _ _ hP hD hS _ (lv_sub hl [5, 7, 8, 1, 0] rfl)
    · have h := (if_neg c21).symm.trans h
      refine lv_aload_n hx hb dL_acts_118 rfl (lv_at hl 3 rfl) ?_
      refine lv_iload_n hx hb dL_acts_119 rfl (lv_at hl 5 rfl) ?_
      obtain ⟨z54, e_z54, h⟩ := bnd h
      refine roI (cc_L_71 sv ga S hK hN (hP.sub [0, 1, 2, 3, 4, 5, 6, 7, 8, 9, 10, 11, 12] rfl) e_z54 hl.1 (Nat.le_of_ble_eq_true rfl) ⟨Nat.le_of_ble_eq_true rfl, Nat.le_of_ble_eq_true rfl⟩ dL_acts_120 ⟨Nat.le_of_ble_eq_true rfl, Nat.le_of_ble_eq_true rfl⟩) ?_
      refine lv_istore (lv' := [(10, .int z54), (9, .int z20), (7, .long z19), (6, .int t0), (0, .ref (ga 0)), (2, .int x2), (3, .int x3), (4, .int x4), (5, .int x5)]) hx hb dL_acts_123 hl (by decide) rfl (fun ls hl => ?_)
      refine lv_aload_n hx hb dL_acts_125 rfl (lv_at hl 4 rfl) ?_
      refine lv_iload_n hx hb dL_acts_126 rfl (lv_at hl 6 rfl) ?_
      obtain ⟨z55, e_z55, h⟩ := bnd h
      refine roI (cc_L_74 sv ga S hK hN (hP.sub [0, 1, 2, 3, 4, 5, 6, 7, 8, 9, 10, 11, 12] rfl) e_z55 hl.1 (Nat.le_of_ble_eq_true rfl) ⟨Nat.le_of_ble_eq_true rfl, Nat.le_of_ble_eq_true rfl⟩ dL_acts_127 ⟨Nat.le_of_ble_eq_true rfl, Nat.le_of_ble_eq_true rfl⟩) ?_
      refine lv_istore (lv' := [(11, .int z55), (10, .int z54), (9, .int z20), (7, .long z19), (6, .int t0), (0, .ref (ga 0)), (2, .int x2), (3, .int x3), (4, .int x4), (5, .int x5)]) hx hb dL_acts_130 hl (by decide) rfl (fun ls hl => ?_)
      refine lv_iload hx hb dL_acts_132 (lv_at hl 1 rfl) ?_
      refine lv_if_ge (tgt := 162) hx hb dL_acts_134 (by decide) (fun c56 => ?_) (fun c56 => ?_)
      · have h := (if_pos c56).symm.trans h
        refine lv_aload_n hx hb dL_acts_162 rfl (lv_at hl 5 rfl) ?_
        obtain ⟨z57, e_z57, h⟩ := bnd h
        refine mui (cc_L_80 sv ga S hK hN hP hD e_z57 hl.1 (Nat.le_of_ble_eq_true rfl) ⟨Nat.le_of_ble_eq_true rfl, Nat.le_of_ble_eq_true rfl⟩ dL_acts_163 ⟨Nat.le_of_ble_eq_true rfl, Nat.le_of_ble_eq_true rfl⟩) hS hD (va_free hD hS hA [0, 1, 2, 3, 4, 5, 6, 7, 8, 9, 10, 11, 12, 13, 14, 15, 16, 17, 18, 19, 20, 21, 22, 23, 24, 25] rfl) (fun H locs hP hD hS => ?_)
        have hP : va_P G vwCl (wHS cI cS sv ga z57.2) H := hP
        have hD : va_D A (wHS cI cS sv ga z57.2) := hD
        refine lv_iload hx hb dL_acts_166 (lv_at hl 1 rfl) ?_
        refine lv_icmp_ne (tgt := 220) hx hb dL_acts_168 (by decide) (fun c58 => ?_) (fun c58 => ?_)
        · have h := (if_neg c58).symm.trans h
          refine lv_iconst (v := 0) hx hb dL_acts_220 (by decide) ?_
          exact retMz hQ S hr hlocks rfl hK hN hP hD hS h dL_acts_221
        · have h := (if_pos c58).symm.trans h
          refine lv_aload_n hx hb dL_acts_171 rfl (lv_at hl 5 rfl) ?_
          refine lv_iload_n hx hb dL_acts_172 rfl (lv_at hl 7 rfl) ?_
          obtain ⟨z59, e_z59, h⟩ := bnd h
          refine roI (cc_L_74 sv ga S hK hN (hP.sub [0, 1, 2, 3, 4, 5, 6, 7, 8, 9, 10, 11, 12] rfl) e_z59 hl.1 (Nat.le_of_ble_eq_true rfl) ⟨Nat.le_of_ble_eq_true rfl, Nat.le_of_ble_eq_true rfl⟩ dL_acts_173 ⟨Nat.le_of_ble_eq_true rfl, Nat.le_of_ble_eq_true rfl⟩) ?_
          refine lv_iload hx hb dL_acts_176 (lv_at hl 0 rfl) ?_
          refine lv_iconst (v := 1) hx hb dL_acts_178 (by decide) ?_
          refine lv_isub hx hb dL_acts_179 ?_
          refine lv_icmp_ne (tgt := 220) hx hb dL_acts_180 (by decide) (fun c60 => ?_) (fun c60 => ?_)
          · have h := (if_neg c60).symm.trans h
            refine lv_iconst (v := 0) hx hb dL_acts_220 (by decide) ?_
            exact retMz hQ S hr hlocks rfl hK hN hP hD hS h dL_acts_221
          · have h := (if_pos c60).symm.trans h
            refine lv_aload_n hx hb dL_acts_183 rfl (lv_at hl 5 rfl) ?_
            refine lv_iload hx hb dL_acts_184 (lv_at hl 1 rfl) ?_
            obtain ⟨z61, e_z61, h⟩ := bnd h
            refine roL (cc_L_67 sv ga S hK hN (hP.sub [0, 1, 2, 3, 4, 5, 6, 7, 8, 9, 10, 11, 12] rfl) e_z61 hl.1 (Nat.le_of_ble_eq_true rfl) ⟨Nat.le_of_ble_eq_true rfl, Nat.le_of_ble_eq_true rfl⟩ dL_acts_186 ⟨Nat.le_of_ble_eq_true rfl, Nat.le_of_ble_eq_true rfl⟩) ?_
            refine lv_lload hx hb dL_acts_189 (lv_at hl 3 rfl) ?_
            refine W.lcmp hx hb dL_acts_191 ?_
            refine lv_if_ne (tgt := 220) hx hb dL_acts_192 (by decide) (fun c62 => ?_) (fun c62 => ?_)
            · have h := (if_neg c62).symm.trans h
              refine lv_iconst (v := 0) hx hb dL_acts_220 (by decide) ?_
              exact retMz hQ S hr hlocks rfl hK hN hP hD hS h dL_acts_221
            · have h := (if_pos c62).symm.trans h
              refine lv_aload_n hx hb dL_acts_195 rfl (lv_at hl 5 rfl) ?_
              refine lv_iload hx hb dL_acts_196 (lv_at hl 1 rfl) ?_
              obtain ⟨z63, e_z63, h⟩ := bnd h
              refine roI (cc_L_33 sv ga S hK hN (hP.sub [0, 1, 2, 3, 4, 5, 6, 7, 8, 9, 10, 11, 12] rfl) e_z63 hl.1 (Nat.le_of_ble_eq_true rfl) ⟨Nat.le_of_ble_eq_true rfl, Nat.le_of_ble_eq_true rfl⟩ dL_acts_198 ⟨Nat.le_of_ble_eq_true rfl, Nat.le_of_ble_eq_true rfl⟩) ?_
              refine lv_iload_n hx hb dL_acts_201 rfl (lv_at hl 7 rfl) ?_
              refine lv_icmp_ne (tgt := 220) hx hb dL_acts_202 (by decide) (fun c64 => ?_) (fun c64 => ?_)
              · have h := (if_neg c64).symm.trans h
                refine lv_iconst (v := 0) hx hb dL_acts_220 (by decide) ?_
                exact retMz hQ S hr hlocks rfl hK hN hP hD hS h dL_acts_221
              · have h := (if_pos c64).symm.trans h
                refine lv_aload_n hx hb dL_acts_205 rfl (lv_at hl 5 rfl) ?_
                obtain ⟨z65, e_z65, h⟩ := bnd h
                refine roI (cc_L_9 sv ga S hK hN (hP.sub [0, 1, 2, 3, 4, 5, 6, 7, 8, 9, 10, 11, 12] rfl) e_z65 hl.1 (Nat.le_of_ble_eq_true rfl) ⟨Nat.le_of_ble_eq_true rfl, Nat.le_of_ble_eq_true rfl⟩ dL_acts_206 ⟨Nat.le_of_ble_eq_true rfl, Nat.le_of_ble_eq_true rfl⟩) ?_
                refine lv_iload hx hb dL_acts_209 (lv_at hl 2 rfl) ?_
                refine lv_iconst (v := 1) hx hb dL_acts_211 (by decide) ?_
                refine lv_iadd hx hb dL_acts_212 ?_
                refine lv_icmp_ne (tgt := 220) hx hb dL_acts_213 (by decide) (fun c66 => ?_) (fun c66 => ?_)
                · have h := (if_neg c66).symm.trans h
                  refine lv_iconst (v := 0) hx hb dL_acts_220 (by decide) ?_
                  exact retMz hQ S hr hlocks rfl hK hN hP hD hS h dL_acts_221
                · have h := (if_pos c66).symm.trans h
                  refine lv_iconst (v := 1) hx hb dL_acts_216 (by decide) ?_
                  refine lv_goto (tgt := 221) hx hb dL_acts_217 (by decide) ?_
                  exact retMz hQ S hr hlocks rfl hK hN hP hD hS h dL_acts_221
      · have h := (if_neg c56).symm.trans h
        refine lv_iload hx hb dL_acts_137 (lv_at hl 0 rfl) ?_
        refine lv_if_ne (tgt := 160) hx hb dL_acts_139 (by decide) (fun c67 => ?_) (fun c67 => ?_)
        · have h := (if_neg c67).symm.trans h
          refine lv_iconst (v := 0) hx hb dL_acts_160 (by decide) ?_
          exact retMz hQ S hr hlocks rfl hK hN hP hD hS h dL_acts_161
        · have h := (if_pos c67).symm.trans h
          refine lv_aload_n hx hb dL_acts_142 rfl (lv_at hl 5 rfl) ?_
          obtain ⟨z68, e_z68, h⟩ := bnd h
          refine mji (cc_L_77 sv ga S hK hN (hP.sub [0, 1, 2, 3, 4, 5, 6, 7, 8, 9, 10, 11, 12] rfl) (hD.sub [0, 1, 2, 3, 4, 5, 6, 7, 8, 9, 10, 11, 12] (by decide) rfl) e_z68 hl.1 (Nat.le_of_ble_eq_true rfl) ⟨Nat.le_of_ble_eq_true rfl, Nat.le_of_ble_eq_true rfl⟩ dL_acts_143 ⟨Nat.le_of_ble_eq_true rfl, Nat.le_of_ble_eq_true rfl⟩) hS hP hD hA [0, 1, 2, 3, 4, 5, 6, 7, 8, 9, 10, 11, 12] [13, 14, 15, 16, 17, 18, 19, 20, 21, 22, 23, 24, 25] rfl rfl (by decide) (by decide) [13, 14, 15, 16, 17, 18, 19, 20, 21, 22, 23, 24, 25, 0, 1, 2, 3, 4, 5, 6, 7, 8, 9, 10, 11, 12] (by decide) (wHS cI cS sv ga (z68.2, u.2)) rfl (fun H locs hP hD hS => ?_)
          refine lv_iload_n hx hb dL_acts_146 rfl (lv_at hl 7 rfl) ?_
          refine lv_icmp_ne (tgt := 160) hx hb dL_acts_147 (by decide) (fun c69 => ?_) (fun c69 => ?_)
          · have h := (if_neg c69).symm.trans h
            refine lv_iconst (v := 0) hx hb dL_acts_160 (by decide) ?_
            exact retMz hQ S hr hlocks rfl hK hN hP hD hS h dL_acts_161
          · have h := (if_pos c69).symm.trans h
            refine lv_iload hx hb dL_acts_150 (lv_at hl 4 rfl) ?_
            refine lv_iload_n hx hb dL_acts_152 rfl (lv_at hl 7 rfl) ?_
            refine lv_icmp_ne (tgt := 160) hx hb dL_acts_153 (by decide) (fun c70 => ?_) (fun c70 => ?_)
            · have h := (if_neg c70).symm.trans h
              refine lv_iconst (v := 0) hx hb dL_acts_160 (by decide) ?_
              exact retMz hQ S hr hlocks rfl hK hN hP hD hS h dL_acts_161
            · have h := (if_pos c70).symm.trans h
              refine lv_iconst (v := 1) hx hb dL_acts_156 (by decide) ?_
              refine lv_goto (tgt := 161) hx hb dL_acts_157 (by decide) ?_
              exact retMz hQ S hr hlocks rfl hK hN hP hD hS h dL_acts_161
  have J95 : ∀ (u : THS) (x2 : Int32) (x3 : Int32) (x4 : Int32) (x5 : Int32) , fL_acts_j95 u x2 x3 x4 x5 = some r → ∀ (H : Heap) (locs : List Loc), va_P G vwCl (wHS cI cS sv ga u) H → va_D A (wHS cI cS sv ga u) → va_S A s.heap H locs → ∀ ls : Array Slot, lv_has ls 14 [(0, .ref (ga 0)), (2, .int x2), (3, .int x3), (4, .int x4), (5, .int x5)] → W p l e rmL_acts s m args below meth c H locs 0 0 Q (F0 m 95 ls []) := by
    intro u x2 x3 x4 x5 h
    unfold fL_acts_j95 at h
    intro H locs hP hD hS ls hl
    refine lv_iconst (v := 0) hx hb dL_acts_95 (by decide) ?_
    exact J96 u x2 x3 x4 x5 (0 : Int32) h _ _ hP hD hS _ (lv_sub hl [0, 1, 2, 3, 4] rfl)
  have J64 : ∀ (u : THS) (x2 : Int32) (x3 : Int32) (x4 : Int32) (t0 : Int32) , fL_acts_j64 u x2 x3 x4 t0 = some r → ∀ (H : Heap) (locs : List Loc), va_P G vwCl (wHS cI cS sv ga u) H → va_D A (wHS cI cS sv ga u) → va_S A s.heap H locs → ∀ ls : Array Slot, lv_has ls 14 [(0, .ref (ga 0)), (2, .int x2), (3, .int x3), (4, .int x4)] → W p l e rmL_acts s m args below meth c H locs 0 0 Q (F0 m 64 ls [.int t0]) := by
    intro u x2 x3 x4 t0 h
    unfold fL_acts_j64 at h
    intro H locs hP hD hS ls hl
    refine lv_istore (lv' := [(5, .int t0), (0, .ref (ga 0)), (2, .int x2), (3, .int x3), (4, .int x4)]) hx hb dL_acts_64 hl (by decide) rfl (fun ls hl => ?_)
    refine lv_iload_n hx hb dL_acts_66 rfl (lv_at hl 3 rfl) ?_
    refine lv_if_le (tgt := 95) hx hb dL_acts_67 (by decide) (fun c71 => ?_) (fun c71 => ?_)
    · have h := (if_pos c71).symm.trans h
      exact J95 u x2 x3 x4 t0 h _ _ hP hD hS _ (lv_sub hl [1, 2, 3, 4, 0] rfl)
    · have h := (if_neg c71).symm.trans h
      refine lv_iload hx hb dL_acts_70 (lv_at hl 0 rfl) ?_
      refine lv_bipush (v := 12) hx hb dL_acts_72 (by decide) ?_
      refine lv_icmp_ge (tgt := 95) hx hb dL_acts_74 (by decide) (fun c72 => ?_) (fun c72 => ?_)
      · have h := (if_pos c72).symm.trans h
        exact J95 u x2 x3 x4 t0 h _ _ hP hD hS _ (lv_sub hl [1, 2, 3, 4, 0] rfl)
      · have h := (if_neg c72).symm.trans h
        refine lv_aload_n hx hb dL_acts_77 rfl (lv_at hl 1 rfl) ?_
        refine lv_iload_n hx hb dL_acts_78 rfl (lv_at hl 3 rfl) ?_
        refine lv_iload_n hx hb dL_acts_79 rfl (lv_at hl 2 rfl) ?_
        refine lv_bipush (v := 6) hx hb dL_acts_80 (by decide) ?_
        refine lv_ishr hx hb dL_acts_82 ?_
        refine lv_sipush (v := 256) hx hb dL_acts_83 (by decide) ?_
        obtain ⟨z73, e_z73, h⟩ := bnd h
        refine roI (cc_L_55 S hK hN va_P0 e_z73 hl.1 (Nat.le_of_ble_eq_true rfl) ⟨Nat.le_of_ble_eq_true rfl, Nat.le_of_ble_eq_true rfl⟩ dL_acts_86 ⟨Nat.le_of_ble_eq_true rfl, Nat.le_of_ble_eq_true rfl⟩) ?_
        obtain ⟨z74, e_z74, h⟩ := bnd h
        refine mji (cc_L_64 sv ga S hK hN (hP.sub [0, 1, 2, 3, 4, 5, 6, 7, 8, 9, 10, 11, 12] rfl) (hD.sub [0, 1, 2, 3, 4, 5, 6, 7, 8, 9, 10, 11, 12] (by decide) rfl) e_z74 hl.1 (Nat.le_of_ble_eq_true rfl) ⟨Nat.le_of_ble_eq_true rfl, Nat.le_of_ble_eq_true rfl⟩ dL_acts_89 ⟨Nat.le_of_ble_eq_true rfl, Nat.le_of_ble_eq_true rfl⟩) hS hP hD hA [0, 1, 2, 3, 4, 5, 6, 7, 8, 9, 10, 11, 12] [13, 14, 15, 16, 17, 18, 19, 20, 21, 22, 23, 24, 25] rfl rfl (by decide) (by decide) [13, 14, 15, 16, 17, 18, 19, 20, 21, 22, 23, 24, 25, 0, 1, 2, 3, 4, 5, 6, 7, 8, 9, 10, 11, 12] (by decide) (wHS cI cS sv ga (z74.2, u.2)) rfl (fun H locs hP hD hS => ?_)
        refine lv_goto (tgt := 96) hx hb dL_acts_92 (by decide) ?_
        exact J96 (z74.2, u.2) x2 x3 x4 t0 z74.1 h _ _ hP hD hS _ (lv_sub hl [1, 2, 3, 4, 0] rfl)
  have J54 : ∀ (u : THS) (x2 : Int32) (x3 : Int32) (x4 : Int32) , fL_acts_j54 u x2 x3 x4 = some r → ∀ (H : Heap) (locs : List Loc), va_P G vwCl (wHS cI cS sv ga u) H → va_D A (wHS cI cS sv ga u) → va_S A s.heap H locs → ∀ ls : Array Slot, lv_has ls 14 [(0, .ref (ga 0)), (2, .int x2), (3, .int x3), (4, .int x4)] → W p l e rmL_acts s m args below meth c H locs 0 0 Q (F0 m 54 ls []) := by
    intro u x2 x3 x4 h
    unfold fL_acts_j54 at h
    intro H locs hP hD hS ls hl
    refine lv_iconst (v := 0) hx hb dL_acts_54 (by decide) ?_
    refine lv_goto (tgt := 64) hx hb dL_acts_55 (by decide) ?_
    exact J64 u x2 x3 x4 (0 : Int32) h _ _ hP hD hS _ (lv_sub hl [0, 1, 2, 3] rfl)
  have J17 : ∀ (u : THS) (x1 : Int32) (x2 : Int32) (t0 : Int32) (t1 : Int32) , fL_acts_j17 u x1 x2 t0 t1 = some r → ∀ (H : Heap) (locs : List Loc), va_P G vwCl (wHS cI cS sv ga u) H → va_D A (wHS cI cS sv ga u) → va_S A s.heap H locs → ∀ ls : Array Slot, lv_has ls 14 [(0, .ref (ga 0)), (1, .int x1), (2, .int x2)] → W p l e rmL_acts s m args below meth c H locs 0 0 Q (F0 m 17 ls [.int t0, .int t1]) := by
    intro u x1 x2 t0 t1 h
    unfold fL_acts_j17 at h
    intro H locs hP hD hS ls hl
    obtain ⟨z75, e_z75, h⟩ := bnd h
    refine roI (cc_L_55 S hK hN va_P0 e_z75 hl.1 (Nat.le_of_ble_eq_true rfl) ⟨Nat.le_of_ble_eq_true rfl, Nat.le_of_ble_eq_true rfl⟩ dL_acts_17 ⟨Nat.le_of_ble_eq_true rfl, Nat.le_of_ble_eq_true rfl⟩) ?_
    refine lv_istore_n (lv' := [(3, .int z75), (0, .ref (ga 0)), (1, .int x1), (2, .int x2)]) hx hb dL_acts_20 rfl hl (by decide) rfl (fun ls hl => ?_)
    refine lv_aload_n hx hb dL_acts_21 rfl (lv_at hl 1 rfl) ?_
    refine lv_iload_n hx hb dL_acts_22 rfl (lv_at hl 3 rfl) ?_
    refine lv_iconst (v := 3) hx hb dL_acts_23 (by decide) ?_
    refine lv_ishr hx hb dL_acts_24 ?_
    refine lv_bipush (v := 40) hx hb dL_acts_25 (by decide) ?_
    obtain ⟨z76, e_z76, h⟩ := bnd h
    refine roI (cc_L_55 S hK hN va_P0 e_z76 hl.1 (Nat.le_of_ble_eq_true rfl) ⟨Nat.le_of_ble_eq_true rfl, Nat.le_of_ble_eq_true rfl⟩ dL_acts_27 ⟨Nat.le_of_ble_eq_true rfl, Nat.le_of_ble_eq_true rfl⟩) ?_
    refine lv_aload_n hx hb dL_acts_30 rfl (lv_at hl 1 rfl) ?_
    obtain ⟨z77, e_z77, h⟩ := bnd h
    refine roI (cc_L_9 sv ga S hK hN (hP.sub [0, 1, 2, 3, 4, 5, 6, 7, 8, 9, 10, 11, 12] rfl) e_z77 hl.1 (Nat.le_of_ble_eq_true rfl) ⟨Nat.le_of_ble_eq_true rfl, Nat.le_of_ble_eq_true rfl⟩ dL_acts_31 ⟨Nat.le_of_ble_eq_true rfl, Nat.le_of_ble_eq_true rfl⟩) ?_
    refine lv_iconst (v := 1) hx hb dL_acts_34 (by decide) ?_
    refine lv_iadd hx hb dL_acts_35 ?_
    by_cases c78 : (z77 + (1 : Int32)) = 0
    · have h := (if_pos c78).symm.trans h
      cases h
    have h := (if_neg c78).symm.trans h
    refine lv_irem hx hb dL_acts_36 c78 ?_
    obtain ⟨z79, e_z79, h⟩ := bnd h
    refine roI (cc_L_60 sv ga S hK hN (hP.sub [0, 1, 2, 3, 4, 5, 6, 7, 8, 9, 10, 11, 12] rfl) e_z79 hl.1 (Nat.le_of_ble_eq_true rfl) ⟨Nat.le_of_ble_eq_true rfl, Nat.le_of_ble_eq_true rfl⟩ dL_acts_37 ⟨Nat.le_of_ble_eq_true rfl, Nat.le_of_ble_eq_true rfl⟩) ?_
    refine lv_istore (lv' := [(4, .int z79), (3, .int z75), (0, .ref (ga 0)), (1, .int x1), (2, .int x2)]) hx hb dL_acts_40 hl (by decide) rfl (fun ls hl => ?_)
    refine lv_aload_n hx hb dL_acts_42 rfl (lv_at hl 2 rfl) ?_
    obtain ⟨z80, e_z80, h⟩ := bnd h
    refine roI (cc_L_9 sv ga S hK hN (hP.sub [0, 1, 2, 3, 4, 5, 6, 7, 8, 9, 10, 11, 12] rfl) e_z80 hl.1 (Nat.le_of_ble_eq_true rfl) ⟨Nat.le_of_ble_eq_true rfl, Nat.le_of_ble_eq_true rfl⟩ dL_acts_43 ⟨Nat.le_of_ble_eq_true rfl, Nat.le_of_ble_eq_true rfl⟩) ?_
    refine lv_if_eq (tgt := 54) hx hb dL_acts_46 (by decide) (fun c81 => ?_) (fun c81 => ?_)
    · have h := (if_pos c81).symm.trans h
      exact J54 u x2 z75 z79 h _ _ hP hD hS _ (lv_sub hl [2, 4, 1, 0] rfl)
    · have h := (if_neg c81).symm.trans h
      refine lv_iload hx hb dL_acts_49 (lv_at hl 0 rfl) ?_
      refine lv_if_ge (tgt := 58) hx hb dL_acts_51 (by decide) (fun c82 => ?_) (fun c82 => ?_)
      · have h := (if_pos c82).symm.trans h
        refine lv_iload_n hx hb dL_acts_58 rfl (lv_at hl 3 rfl) ?_
        refine lv_bipush (v := 16) hx hb dL_acts_59 (by decide) ?_
        obtain ⟨z83, e_z83, h⟩ := bnd h
        refine roI (cc_L_55 S hK hN va_P0 e_z83 hl.1 (Nat.le_of_ble_eq_true rfl) ⟨Nat.le_of_ble_eq_true rfl, Nat.le_of_ble_eq_true rfl⟩ dL_acts_61 ⟨Nat.le_of_ble_eq_true rfl, Nat.le_of_ble_eq_true rfl⟩) ?_
        exact J64 u x2 z75 z79 z83 h _ _ hP hD hS _ (lv_sub hl [2, 4, 1, 0] rfl)
      · have h := (if_neg c82).symm.trans h
        exact J54 u x2 z75 z79 h _ _ hP hD hS _ (lv_sub hl [2, 4, 1, 0] rfl)
  refine lv_iload_n hx hb dL_acts_0 rfl (lv_at hl 2 rfl) ?_
  refine lv_iload_n hx hb dL_acts_1 rfl (lv_at hl 2 rfl) ?_
  refine lv_bipush (v := 9) hx hb dL_acts_2 (by decide) ?_
  refine lv_ishr hx hb dL_acts_4 ?_
  refine lv_iconst (v := 1) hx hb dL_acts_5 (by decide) ?_
  refine lv_iand hx hb dL_acts_6 ?_
  refine lv_if_ne (tgt := 15) hx hb dL_acts_7 (by decide) (fun c84 => ?_) (fun c84 => ?_)
  · have h := (if_neg c84).symm.trans h
    refine lv_bipush (v := 10) hx hb dL_acts_15 (by decide) ?_
    exact J17 u p1 p2 (10 : Int32) p2 h _ _ hP hD hS _ (lv_sub hl [0, 1, 2] rfl)
  · have h := (if_pos c84).symm.trans h
    refine lv_bipush (v := 61) hx hb dL_acts_10 (by decide) ?_
    refine lv_goto (tgt := 17) hx hb dL_acts_12 (by decide) ?_
    exact J17 u p1 p2 (61 : Int32) p2 h _ _ hP hD hS _ (lv_sub hl [0, 1, 2] rfl)
