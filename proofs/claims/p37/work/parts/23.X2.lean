theorem cc_X2_27 {p : Program} {l : Launch} {e : Env} {R : Room} {s : State} {m : MethodId} {args : Array Value} {below : List Frame} {meth : Method} {c : Code} {H : Heap} {locs : List Loc} {cells slots : Nat} {cc : ByteArray} {pc nL : Nat} {ls : Array Slot} {rest : List Value} {G : va_G} (g0 g1 : Nat) {cI cS : ClassId} {u : TS}  {p0 : Int32} {r : Int32} (S : CallFix p m c cc nL s args bw RX2) (hK : va_K G vwCl (tysW cI cS) s) (hN : NW s) (hP : va_P G vwCl (wS cI g0 g1 u) H) (hf : fX3_slotCount u p0 = some r) (hsz : ls.size = nL) (hst : (rest.map fun v => v.category).sum ≤ 8) (hR : rmX3_slotCount.frames + 1 ≤ R.frames ∧ 8 + (3 + 11) + rmX3_slotCount.locals ≤ R.locals) (hdg : decode cc pc = .ok (.invokevirtual 27, 3)) (hcs : cells + 0 ≤ R.cells ∧ slots + 0 ≤ R.slots) : va_Run p l e R s m args below meth c H locs cells slots 0 0 (F0 m pc ls (.int p0 :: .ref g0 :: rest)) rest (vp_Si (fun r' => r' = r) (#[.ref g0, .int p0] : Array Value)) (fun _ => False) :=
  va_runVN (As := [.int p0]) (rest := rest) S (kX3_slotCount l G cI cS g0 g1 u p0 r hf) ⟨va_cnB 1 S.2.2.2.2 (gdC q_42) rfl rfl rfl (hN _ nq_19) (S.2.2.2.2 _ q_35) (by decide +kernel) hR, S.2.2.2.2 _ q_46, S.2.2.2.2 _ q_47⟩ (pvR (q := (RX3, TX3, 5)) hK hN hP (ci := 3) (q0 := 0) rfl rfl) rfl rfl hsz rfl (lv_room hst) hdg hcs
theorem cc_X2_31 {p : Program} {l : Launch} {e : Env} {R : Room} {s : State} {m : MethodId} {args : Array Value} {below : List Frame} {meth : Method} {c : Code} {H : Heap} {locs : List Loc} {cells slots : Nat} {cc : ByteArray} {pc nL : Nat} {ls : Array Slot} {rest : List Value} {G : va_G}  {cI cS : ClassId}  {p0 : Int32} {r : Int32} (S : CallFix p m c cc nL s args bw RX2) (hK : va_K G vwCl (tysW cI cS) s) (hN : NW s) (hP : va_P G vwCl wE H) (hf : fX4_slotOffset p0 = some r) (hsz : ls.size = nL) (hst : (rest.map fun v => v.category).sum ≤ 8) (hR : rmX4_slotOffset.frames + 1 ≤ R.frames ∧ 8 + (1 + 11) + rmX4_slotOffset.locals ≤ R.locals) (hdg : decode cc pc = .ok (.invokestatic 31, 3)) (hcs : cells + 0 ≤ R.cells ∧ slots + 0 ≤ R.slots) : va_Run p l e R s m args below meth c H locs cells slots 0 0 (F0 m pc ls (.int p0 :: rest)) rest (vp_Si (fun r' => r' = r) (#[.int p0] : Array Value)) (fun _ => False) :=
  va_runSN (As := [.int p0]) (rest := rest) S (kX4_slotOffset l G cI cS p0 r hf) ⟨va_cnB 1 S.2.2.2.2 (gdC q_43) rfl rfl rfl (hN _ nq_21) (S.2.2.2.2 _ q_49) (by decide +kernel) hR, S.2.2.2.2 _ q_48, trivial⟩ (psR hK hN hP) rfl rfl hsz rfl (lv_room hst) hdg hcs
theorem cc_X2_34 {p : Program} {l : Launch} {e : Env} {R : Room} {s : State} {m : MethodId} {args : Array Value} {below : List Frame} {meth : Method} {c : Code} {H : Heap} {locs : List Loc} {cells slots : Nat} {cc : ByteArray} {pc nL : Nat} {ls : Array Slot} {rest : List Value} {G : va_G} (g0 g1 : Nat) {cI cS : ClassId} {u : TS}  {p0 : Int32} {p1 : Int32} {r : Int32} (S : CallFix p m c cc nL s args bw RX2) (hK : va_K G vwCl (tysW cI cS) s) (hN : NW s) (hP : va_P G vwCl (wS cI g0 g1 u) H) (hf : fX3_sizeOf u p0 p1 = some r) (hsz : ls.size = nL) (hst : (rest.map fun v => v.category).sum ≤ 8) (hR : rmX3_sizeOf.frames + 1 ≤ R.frames ∧ 8 + (4 + 11) + rmX3_sizeOf.locals ≤ R.locals) (hdg : decode cc pc = .ok (.invokevirtual 34, 3)) (hcs : cells + 0 ≤ R.cells ∧ slots + 0 ≤ R.slots) : va_Run p l e R s m args below meth c H locs cells slots 0 0 (F0 m pc ls (.int p1 :: .int p0 :: .ref g0 :: rest)) rest (vp_Si (fun r' => r' = r) (#[.ref g0, .int p0, .int p1] : Array Value)) (fun _ => False) :=
  va_runVN (As := [.int p0, .int p1]) (rest := rest) S (kX3_sizeOf l G cI cS g0 g1 u p0 p1 r hf) ⟨va_cnB 2 S.2.2.2.2 (gdC q_44) rfl rfl rfl (hN _ nq_20) (S.2.2.2.2 _ q_35) (by decide +kernel) hR, S.2.2.2.2 _ q_50, S.2.2.2.2 _ q_51⟩ (pvR (q := (RX3, TX3, 5)) hK hN hP (ci := 3) (q0 := 0) rfl rfl) rfl rfl hsz rfl (lv_room hst) hdg hcs
theorem gf_X2_12 {p : Program} {l : Launch} {e : Env} {R : Room} {s : State} {m : MethodId} {args : Array Value} {below : List Frame} {meth : Method} {c : Code} {H : Heap} {locs : List Loc} {cells slots : Nat} {cc : ByteArray} {pc nL : Nat} {ls : Array Slot} {rest : List Value} {G : va_G} {Q : State → Prop} {tys : List (ClassId × FieldType)} {ws : va_W} {a : Nat} (S : CallFix p m c cc nL s args bw RX2) (hK : va_K G vwCl tys s) (hN : NW s) (hP : va_P G vwCl ws H) (q0 : Nat) {fs : List Value} (he : ws[q0]? = some (a, .inr (2, fs))) {v : Value} (hv : fs[0]? = some v) (hdg : decode cc pc = .ok (.getfield 12, 3)) (kk : W p l e R s m args below meth c H locs cells slots Q (F0 m (pc + 3) ls (v :: rest))) : W p l e R s m args below meth c H locs cells slots Q (F0 m pc ls (.ref a :: rest)) :=
  va_get (C := RX2) (T := TX2) (N := 2) S.1 S.2.1 S.2.2.2.2 bi_U2 S.2.2.2.1 hK hP q0 he rfl 0 (by decide) (S.2.2.2.2 _ q_36) (fun _ h9 => h9) hv hdg kk
def fX2_freeBytes_s21 (u : TP) (x1 : Int32) (x2 : Int32) (x3 : Int32) (x4 : Int32) : Option ((Int32 × Int32 × Int32 × Int32) ⊕ (Int32)) := (if x2 ≤ x4 then some (.inr x3) else ((fX3_sizeOf u.1 x1 x4).bind fun z2 => some (.inl (x1, x2, (x3 - z2), (x4 + 1)))))
def fX2_freeBytes (u : TP) (p0 : Int32) : Option (Int32) := ((fX3_slotCount u.1 p0).bind fun z3 => ((fX4_slotOffset z3).bind fun z4 => ((itr (fun a : Int32 × Int32 × Int32 × Int32 => fX2_freeBytes_s21 u a.1 a.2.1 a.2.2.1 a.2.2.2) FU (p0, z3, ((128 : Int32) - z4), (0 : Int32))).bind fun b5 => some b5)))
abbrev rmX2_freeBytes : Room := { frames := 1, cells := 0, slots := 0, locals := 23 }
set_option maxRecDepth 100000 in
set_option maxHeartbeats 4000000 in
theorem kX2_freeBytes (l : Launch) (G : va_G) (cI cS : ClassId) (g0 g1 g2 g3 g4 : Nat) (u : TP) (p0 : Int32) (r : Int32) (hf : fX2_freeBytes u p0 = some r) : Met l yX2_freeBytes (.code yX2_freeBytes cX2_freeBytes 5 (some .int) :: bw) rmX2_freeBytes (va_Pc [.ref g0, .int p0] (PreR G (tysW cI cS) (wP cI g0 g1 g2 g3 g4 u))) (vp_Si (fun r' => r' = r)) 0 0 (fun _ => False) := by
  refine enterR (own := RX2) (by decide) rfl rfl (Nat.le_of_ble_eq_true rfl) ?_
  intro p e s m args below meth c Q hQ S hr hlocks hP hK hN ls hl
  have hx := S.1; have hb := S.2.1; have hml := S.2.2.1; have hown := S.2.2.2.1; have hq := S.2.2.2.2
  have hl : lv_has ls 5 [(0, .ref g0), (1, .int p0)] := hl
  have h := hf
  unfold fX2_freeBytes at h
  have L21 : ∀ (n9 : Nat) (a9 : Int32 × Int32 × Int32 × Int32) (b9 : Int32), itr (fun a : Int32 × Int32 × Int32 × Int32 => fX2_freeBytes_s21 u a.1 a.2.1 a.2.2.1 a.2.2.2) n9 a9 = some b9 → (fun b : Int32 => ∀ ls : Array Slot, lv_has ls 5 [(3, .int b)] → W p l e rmX2_freeBytes s m args below meth c s.heap [] 0 0 Q (F0 m 46 ls [])) b9 → (fun a : Int32 × Int32 × Int32 × Int32 => ∀ ls : Array Slot, lv_has ls 5 [(0, .ref g0), (1, .int a.1), (2, .int a.2.1), (3, .int a.2.2.1), (4, .int a.2.2.2)] → W p l e rmX2_freeBytes s m args below meth c s.heap [] 0 0 Q (F0 m 21 ls [])) a9 := by
    refine itr_ind (Inv := (fun a : Int32 × Int32 × Int32 × Int32 => ∀ ls : Array Slot, lv_has ls 5 [(0, .ref g0), (1, .int a.1), (2, .int a.2.1), (3, .int a.2.2.1), (4, .int a.2.2.2)] → W p l e rmX2_freeBytes s m args below meth c s.heap [] 0 0 Q (F0 m 21 ls []))) (Ex := (fun b : Int32 => ∀ ls : Array Slot, lv_has ls 5 [(3, .int b)] → W p l e rmX2_freeBytes s m args below meth c s.heap [] 0 0 Q (F0 m 46 ls []))) ?_
    rintro ⟨x1, x2, x3, x4⟩ z h hI hE
    have h : fX2_freeBytes_s21 u x1 x2 x3 x4 = some z := h
    unfold fX2_freeBytes_s21 at h
    show ∀ ls : Array Slot, lv_has ls 5 [(0, .ref g0), (1, .int x1), (2, .int x2), (3, .int x3), (4, .int x4)] → W p l e rmX2_freeBytes s m args below meth c s.heap [] 0 0 Q (F0 m 21 ls [])
    intro ls hl
    refine lv_iload hx hb dX2_freeBytes_21 (lv_at hl 4 rfl) ?_
    refine lv_iload_n hx hb dX2_freeBytes_23 rfl (lv_at hl 2 rfl) ?_
    refine lv_icmp_ge (tgt := 46) hx hb dX2_freeBytes_24 (by decide) (fun c1 => ?_) (fun c1 => ?_)
    · have h := (if_pos c1).symm.trans h
      exact hE _ (Option.some.inj h) _ (lv_sub hl [3] rfl)
    · have h := (if_neg c1).symm.trans h
      refine lv_iload_n hx hb dX2_freeBytes_27 rfl (lv_at hl 3 rfl) ?_
      refine lv_aload_n hx hb dX2_freeBytes_28 rfl (lv_at hl 0 rfl) ?_
      refine gf_X2_12 S hK hN hP 0 rfl (v := .ref g1) rfl dX2_freeBytes_29 ?_
      refine lv_iload_n hx hb dX2_freeBytes_32 rfl (lv_at hl 1 rfl) ?_
      refine lv_iload hx hb dX2_freeBytes_33 (lv_at hl 4 rfl) ?_
      obtain ⟨z2, e_z2, h⟩ := bnd h
      refine roI (cc_X2_34 g1 g2 S hK hN (hP.sub [1, 2] rfl) e_z2 hl.1 (Nat.le_of_ble_eq_true rfl) ⟨Nat.le_of_ble_eq_true rfl, Nat.le_of_ble_eq_true rfl⟩ dX2_freeBytes_35 ⟨Nat.le_of_ble_eq_true rfl, Nat.le_of_ble_eq_true rfl⟩) ?_
      refine lv_isub hx hb dX2_freeBytes_38 ?_
      refine lv_istore_n (lv' := [(3, .int (x3 - z2)), (0, .ref g0), (1, .int x1), (2, .int x2), (4, .int x4)]) hx hb dX2_freeBytes_39 rfl hl (by decide) rfl (fun ls hl => ?_)
      refine lv_iinc (v := (x4 + 1)) (lv' := [(4, .int (x4 + 1)), (3, .int (x3 - z2)), (0, .ref g0), (1, .int x1), (2, .int x2)]) hx hb dX2_freeBytes_40 hl (k := 4) rfl rfl (by decide) rfl (fun ls hl => ?_)
      refine lv_goto (tgt := 21) hx hb dX2_freeBytes_43 (by decide) ?_
      exact hI _ (Option.some.inj h) _ (lv_sub hl [2, 3, 4, 1, 0] rfl)
  refine lv_aload_n hx hb dX2_freeBytes_0 rfl (lv_at hl 0 rfl) ?_
  refine gf_X2_12 S hK hN hP 0 rfl (v := .ref g1) rfl dX2_freeBytes_1 ?_
  refine lv_iload_n hx hb dX2_freeBytes_4 rfl (lv_at hl 1 rfl) ?_
  obtain ⟨z3, e_z3, h⟩ := bnd h
  refine roI (cc_X2_27 g1 g2 S hK hN (hP.sub [1, 2] rfl) e_z3 hl.1 (Nat.le_of_ble_eq_true rfl) ⟨Nat.le_of_ble_eq_true rfl, Nat.le_of_ble_eq_true rfl⟩ dX2_freeBytes_5 ⟨Nat.le_of_ble_eq_true rfl, Nat.le_of_ble_eq_true rfl⟩) ?_
  refine lv_istore_n (lv' := [(2, .int z3), (0, .ref g0), (1, .int p0)]) hx hb dX2_freeBytes_8 rfl hl (by decide) rfl (fun ls hl => ?_)
  refine lv_sipush (v := 128) hx hb dX2_freeBytes_9 (by decide) ?_
  refine lv_iload_n hx hb dX2_freeBytes_12 rfl (lv_at hl 0 rfl) ?_
  obtain ⟨z4, e_z4, h⟩ := bnd h
  refine roI (cc_X2_31 S hK hN va_P0 e_z4 hl.1 (Nat.le_of_ble_eq_true rfl) ⟨Nat.le_of_ble_eq_true rfl, Nat.le_of_ble_eq_true rfl⟩ dX2_freeBytes_13 ⟨Nat.le_of_ble_eq_true rfl, Nat.le_of_ble_eq_true rfl⟩) ?_
  refine lv_isub hx hb dX2_freeBytes_16 ?_
  refine lv_istore_n (lv' := [(3, .int ((128 : Int32) - z4)), (2, .int z3), (0, .ref g0), (1, .int p0)]) hx hb dX2_freeBytes_17 rfl hl (by decide) rfl (fun ls hl => ?_)
  refine lv_iconst (v := 0) hx hb dX2_freeBytes_18 (by decide) ?_
  refine lv_istore (lv' := [(4, .int (0 : Int32)), (3, .int ((128 : Int32) - z4)), (2, .int z3), (0, .ref g0), (1, .int p0)]) hx hb dX2_freeBytes_19 hl (by decide) rfl (fun ls hl => ?_)
  obtain ⟨b5, e_b5, h⟩ := bnd h
  refine L21 _ _ _ e_b5 ?_ _ (lv_sub hl [3, 4, 2, 1, 0] rfl)
  intro ls hl
  refine lv_iload_n hx hb dX2_freeBytes_46 rfl (lv_at hl 0 rfl) ?_
  exact retR hQ S hr hlocks h dX2_freeBytes_47

theorem cc_X2_38 {p : Program} {l : Launch} {e : Env} {R : Room} {s : State} {m : MethodId} {args : Array Value} {below : List Frame} {meth : Method} {c : Code} {H : Heap} {locs : List Loc} {cells slots : Nat} {cc : ByteArray} {pc nL : Nat} {ls : Array Slot} {rest : List Value} {G : va_G} (g0 g1 g2 g3 g4 : Nat) {cI cS : ClassId} {u : TP}  {p0 : Int32} {r : Int32} (S : CallFix p m c cc nL s args bw RX2) (hK : va_K G vwCl (tysW cI cS) s) (hN : NW s) (hP : va_P G vwCl (wP cI g0 g1 g2 g3 g4 u) H) (hf : fX2_freeBytes u p0 = some r) (hsz : ls.size = nL) (hst : (rest.map fun v => v.category).sum ≤ 8) (hR : rmX2_freeBytes.frames + 1 ≤ R.frames ∧ 8 + (5 + 11) + rmX2_freeBytes.locals ≤ R.locals) (hdg : decode cc pc = .ok (.invokevirtual 38, 3)) (hcs : cells + 0 ≤ R.cells ∧ slots + 0 ≤ R.slots) : va_Run p l e R s m args below meth c H locs cells slots 0 0 (F0 m pc ls (.int p0 :: .ref g0 :: rest)) rest (vp_Si (fun r' => r' = r) (#[.ref g0, .int p0] : Array Value)) (fun _ => False) :=
  va_runV (As := [.int p0]) (rest := rest) S (kX2_freeBytes l G cI cS g0 g1 g2 g3 g4 u p0 r hf) (cwV 1 S.2.2.2.2 (gdV q_53 q_54 q_55 q_56 q_45) rfl rfl rfl (by decide +kernel) hR) (pvR (q := (RX2, TX2, 2)) hK hN hP (ci := 2) (q0 := 0) rfl rfl) rfl rfl hsz rfl (lv_room hst) hdg hcs
def fX2_sizeOfRecords (u : TP) (p0 : Int32) : Option (Int32) := ((fX3_slotCount u.1 p0).bind fun z1 => ((fX4_slotOffset z1).bind fun z2 => ((fX2_freeBytes u p0).bind fun z3 => some (((128 : Int32) - z2) - z3))))
abbrev rmX2_sizeOfRecords : Room := { frames := 2, cells := 0, slots := 0, locals := 47 }
set_option maxRecDepth 100000 in
set_option maxHeartbeats 4000000 in
theorem kX2_sizeOfRecords (l : Launch) (G : va_G) (cI cS : ClassId) (g0 g1 g2 g3 g4 : Nat) (u : TP) (p0 : Int32) (r : Int32) (hf : fX2_sizeOfRecords u p0 = some r) : Met l yX2_sizeOfRecords (.code yX2_sizeOfRecords cX2_sizeOfRecords 2 (some .int) :: bw) rmX2_sizeOfRecords (va_Pc [.ref g0, .int p0] (PreR G (tysW cI cS) (wP cI g0 g1 g2 g3 g4 u))) (vp_Si (fun r' => r' = r)) 0 0 (fun _ => False) := by
  refine enterR (own := RX2) (by decide) rfl rfl (Nat.le_of_ble_eq_true rfl) ?_
  intro p e s m args below meth c Q hQ S hr hlocks hP hK hN ls hl
  have hx := S.1; have hb := S.2.1; have hml := S.2.2.1; have hown := S.2.2.2.1; have hq := S.2.2.2.2
  have hl : lv_has ls 2 [(0, .ref g0), (1, .int p0)] := hl
  have h := hf
  unfold fX2_sizeOfRecords at h
  refine lv_sipush (v := 128) hx hb dX2_sizeOfRecords_0 (by decide) ?_
  refine lv_aload_n hx hb dX2_sizeOfRecords_3 rfl (lv_at hl 0 rfl) ?_
  refine gf_X2_12 S hK hN hP 0 rfl (v := .ref g1) rfl dX2_sizeOfRecords_4 ?_
  refine lv_iload_n hx hb dX2_sizeOfRecords_7 rfl (lv_at hl 1 rfl) ?_
  obtain ⟨z1, e_z1, h⟩ := bnd h
  refine roI (cc_X2_27 g1 g2 S hK hN (hP.sub [1, 2] rfl) e_z1 hl.1 (Nat.le_of_ble_eq_true rfl) ⟨Nat.le_of_ble_eq_true rfl, Nat.le_of_ble_eq_true rfl⟩ dX2_sizeOfRecords_8 ⟨Nat.le_of_ble_eq_true rfl, Nat.le_of_ble_eq_true rfl⟩) ?_
  obtain ⟨z2, e_z2, h⟩ := bnd h
  refine roI (cc_X2_31 S hK hN va_P0 e_z2 hl.1 (Nat.le_of_ble_eq_true rfl) ⟨Nat.le_of_ble_eq_true rfl, Nat.le_of_ble_eq_true rfl⟩ dX2_sizeOfRecords_11 ⟨Nat.le_of_ble_eq_true rfl, Nat.le_of_ble_eq_true rfl⟩) ?_
  refine lv_isub hx hb dX2_sizeOfRecords_14 ?_
  refine lv_aload_n hx hb dX2_sizeOfRecords_15 rfl (lv_at hl 0 rfl) ?_
  refine lv_iload_n hx hb dX2_sizeOfRecords_16 rfl (lv_at hl 1 rfl) ?_
  obtain ⟨z3, e_z3, h⟩ := bnd h
  refine roI (cc_X2_38 g0 g1 g2 g3 g4 S hK hN hP e_z3 hl.1 (Nat.le_of_ble_eq_true rfl) ⟨Nat.le_of_ble_eq_true rfl, Nat.le_of_ble_eq_true rfl⟩ dX2_sizeOfRecords_17 ⟨Nat.le_of_ble_eq_true rfl, Nat.le_of_ble_eq_true rfl⟩) ?_
  refine lv_isub hx hb dX2_sizeOfRecords_20 ?_
  exact retR hQ S hr hlocks h dX2_sizeOfRecords_21

theorem cc_X2_41 {p : Program} {l : Launch} {e : Env} {R : Room} {s : State} {m : MethodId} {args : Array Value} {below : List Frame} {meth : Method} {c : Code} {H : Heap} {locs : List Loc} {cells slots : Nat} {cc : ByteArray} {pc nL : Nat} {ls : Array Slot} {rest : List Value} {G : va_G} (g0 g1 : Nat) {cI cS : ClassId} {u : TS}  {p0 : Int32} {p1 : Int32} {r : Int32} (S : CallFix p m c cc nL s args bw RX2) (hK : va_K G vwCl (tysW cI cS) s) (hN : NW s) (hP : va_P G vwCl (wS cI g0 g1 u) H) (hf : fX3_byteAt u p0 p1 = some r) (hsz : ls.size = nL) (hst : (rest.map fun v => v.category).sum ≤ 8) (hR : rmX3_byteAt.frames + 1 ≤ R.frames ∧ 8 + (4 + 11) + rmX3_byteAt.locals ≤ R.locals) (hdg : decode cc pc = .ok (.invokevirtual 41, 3)) (hcs : cells + 0 ≤ R.cells ∧ slots + 0 ≤ R.slots) : va_Run p l e R s m args below meth c H locs cells slots 0 0 (F0 m pc ls (.int p1 :: .int p0 :: .ref g0 :: rest)) rest (vp_Si (fun r' => r' = r) (#[.ref g0, .int p0, .int p1] : Array Value)) (fun _ => False) :=
  va_runVN (As := [.int p0, .int p1]) (rest := rest) S (kX3_byteAt l G cI cS g0 g1 u p0 p1 r hf) ⟨va_cnB 2 S.2.2.2.2 (gdC q_57) rfl rfl rfl (hN _ nq_26) (S.2.2.2.2 _ q_35) (by decide +kernel) hR, S.2.2.2.2 _ q_59, S.2.2.2.2 _ q_60⟩ (pvR (q := (RX3, TX3, 5)) hK hN hP (ci := 3) (q0 := 0) rfl rfl) rfl rfl hsz rfl (lv_room hst) hdg hcs
def fX2_gapWith (u : TP) (p0 : Int32) (p1 : Int32) : Option (Int32) := ((fX3_byteAt u.1 p0 (1 : Int32)).bind fun z1 => ((fX4_slotOffset p1).bind fun z2 => some (z1 - z2)))
abbrev rmX2_gapWith : Room := { frames := 1, cells := 0, slots := 0, locals := 23 }
set_option maxRecDepth 100000 in
set_option maxHeartbeats 4000000 in
theorem kX2_gapWith (l : Launch) (G : va_G) (cI cS : ClassId) (g0 g1 g2 g3 g4 : Nat) (u : TP) (p0 : Int32) (p1 : Int32) (r : Int32) (hf : fX2_gapWith u p0 p1 = some r) : Met l yX2_gapWith (.code yX2_gapWith cX2_gapWith 3 (some .int) :: bw) rmX2_gapWith (va_Pc [.ref g0, .int p0, .int p1] (PreR G (tysW cI cS) (wP cI g0 g1 g2 g3 g4 u))) (vp_Si (fun r' => r' = r)) 0 0 (fun _ => False) := by
  refine enterR (own := RX2) (by decide) rfl rfl (Nat.le_of_ble_eq_true rfl) ?_
  intro p e s m args below meth c Q hQ S hr hlocks hP hK hN ls hl
  have hx := S.1; have hb := S.2.1; have hml := S.2.2.1; have hown := S.2.2.2.1; have hq := S.2.2.2.2
  have hl : lv_has ls 3 [(0, .ref g0), (1, .int p0), (2, .int p1)] := hl
  have h := hf
  unfold fX2_gapWith at h
  refine lv_aload_n hx hb dX2_gapWith_0 rfl (lv_at hl 0 rfl) ?_
  refine gf_X2_12 S hK hN hP 0 rfl (v := .ref g1) rfl dX2_gapWith_1 ?_
  refine lv_iload_n hx hb dX2_gapWith_4 rfl (lv_at hl 1 rfl) ?_
  refine lv_iconst (v := 1) hx hb dX2_gapWith_5 (by decide) ?_
  obtain ⟨z1, e_z1, h⟩ := bnd h
  refine roI (cc_X2_41 g1 g2 S hK hN (hP.sub [1, 2] rfl) e_z1 hl.1 (Nat.le_of_ble_eq_true rfl) ⟨Nat.le_of_ble_eq_true rfl, Nat.le_of_ble_eq_true rfl⟩ dX2_gapWith_6 ⟨Nat.le_of_ble_eq_true rfl, Nat.le_of_ble_eq_true rfl⟩) ?_
  refine lv_iload_n hx hb dX2_gapWith_9 rfl (lv_at hl 2 rfl) ?_
  obtain ⟨z2, e_z2, h⟩ := bnd h
  refine roI (cc_X2_31 S hK hN va_P0 e_z2 hl.1 (Nat.le_of_ble_eq_true rfl) ⟨Nat.le_of_ble_eq_true rfl, Nat.le_of_ble_eq_true rfl⟩ dX2_gapWith_10 ⟨Nat.le_of_ble_eq_true rfl, Nat.le_of_ble_eq_true rfl⟩) ?_
  refine lv_isub hx hb dX2_gapWith_13 ?_
  exact retR hQ S hr hlocks h dX2_gapWith_14

def fX2_slotToUse_s11 (u : TP) (x1 : Int32) (x2 : Int32) (x3 : Int32) : Option ((Int32 × Int32 × Int32) ⊕ (Nat × (Int32 × Int32))) := (if x2 ≤ x3 then some (.inr (1, (x2, (0 : Int32)))) else ((fX3_sizeOf u.1 x1 x3).bind fun z2 => (if z2 = 0 then some (.inr (0, ((0 : Int32), x3))) else some (.inl (x1, x2, (x3 + 1))))))
def fX2_slotToUse (u : TP) (p0 : Int32) : Option (Int32) := ((fX3_slotCount u.1 p0).bind fun z4 => ((itr (fun a : Int32 × Int32 × Int32 => fX2_slotToUse_s11 u a.1 a.2.1 a.2.2) FU (p0, z4, (0 : Int32))).bind fun b5 => (if b5.1 = 0 then some b5.2.2 else some b5.2.1)))
abbrev rmX2_slotToUse : Room := { frames := 1, cells := 0, slots := 0, locals := 23 }
set_option maxRecDepth 100000 in
set_option maxHeartbeats 4000000 in
theorem kX2_slotToUse (l : Launch) (G : va_G) (cI cS : ClassId) (g0 g1 g2 g3 g4 : Nat) (u : TP) (p0 : Int32) (r : Int32) (hf : fX2_slotToUse u p0 = some r) : Met l yX2_slotToUse (.code yX2_slotToUse cX2_slotToUse 4 (some .int) :: bw) rmX2_slotToUse (va_Pc [.ref g0, .int p0] (PreR G (tysW cI cS) (wP cI g0 g1 g2 g3 g4 u))) (vp_Si (fun r' => r' = r)) 0 0 (fun _ => False) := by
  refine enterR (own := RX2) (by decide) rfl rfl (Nat.le_of_ble_eq_true rfl) ?_
  intro p e s m args below meth c Q hQ S hr hlocks hP hK hN ls hl
  have hx := S.1; have hb := S.2.1; have hml := S.2.2.1; have hown := S.2.2.2.1; have hq := S.2.2.2.2
  have hl : lv_has ls 4 [(0, .ref g0), (1, .int p0)] := hl
  have h := hf
  unfold fX2_slotToUse at h
  have L11 : ∀ (n9 : Nat) (a9 : Int32 × Int32 × Int32) (b9 : Nat × (Int32 × Int32)), itr (fun a : Int32 × Int32 × Int32 => fX2_slotToUse_s11 u a.1 a.2.1 a.2.2) n9 a9 = some b9 → (fun b : Nat × (Int32 × Int32) => (b.1 = 0 → ∀ ls : Array Slot, lv_has ls 4 [(3, .int b.2.2)] → W p l e rmX2_slotToUse s m args below meth c s.heap [] 0 0 Q (F0 m 28 ls [])) ∧ (¬ b.1 = 0 → ∀ ls : Array Slot, lv_has ls 4 [(2, .int b.2.1)] → W p l e rmX2_slotToUse s m args below meth c s.heap [] 0 0 Q (F0 m 36 ls []))) b9 → (fun a : Int32 × Int32 × Int32 => ∀ ls : Array Slot, lv_has ls 4 [(0, .ref g0), (1, .int a.1), (2, .int a.2.1), (3, .int a.2.2)] → W p l e rmX2_slotToUse s m args below meth c s.heap [] 0 0 Q (F0 m 11 ls [])) a9 := by
    refine itr_ind (Inv := (fun a : Int32 × Int32 × Int32 => ∀ ls : Array Slot, lv_has ls 4 [(0, .ref g0), (1, .int a.1), (2, .int a.2.1), (3, .int a.2.2)] → W p l e rmX2_slotToUse s m args below meth c s.heap [] 0 0 Q (F0 m 11 ls []))) (Ex := (fun b : Nat × (Int32 × Int32) => (b.1 = 0 → ∀ ls : Array Slot, lv_has ls 4 [(3, .int b.2.2)] → W p l e rmX2_slotToUse s m args below meth c s.heap [] 0 0 Q (F0 m 28 ls [])) ∧ (¬ b.1 = 0 → ∀ ls : Array Slot, lv_has ls 4 [(2, .int b.2.1)] → W p l e rmX2_slotToUse s m args below meth c s.heap [] 0 0 Q (F0 m 36 ls [])))) ?_
    rintro ⟨x1, x2, x3⟩ z h hI hE
    have h : fX2_slotToUse_s11 u x1 x2 x3 = some z := h
    unfold fX2_slotToUse_s11 at h
    show ∀ ls : Array Slot, lv_has ls 4 [(0, .ref g0), (1, .int x1), (2, .int x2), (3, .int x3)] → W p l e rmX2_slotToUse s m args below meth c s.heap [] 0 0 Q (F0 m 11 ls [])
    intro ls hl
    refine lv_iload_n hx hb dX2_slotToUse_11 rfl (lv_at hl 3 rfl) ?_
    refine lv_iload_n hx hb dX2_slotToUse_12 rfl (lv_at hl 2 rfl) ?_
    refine lv_icmp_ge (tgt := 36) hx hb dX2_slotToUse_13 (by decide) (fun c1 => ?_) (fun c1 => ?_)
    · have h := (if_pos c1).symm.trans h
      exact (hE _ (Option.some.inj h)).2 (fun q => nomatch q) _ (lv_sub hl [2] rfl)
    · have h := (if_neg c1).symm.trans h
      refine lv_aload_n hx hb dX2_slotToUse_16 rfl (lv_at hl 0 rfl) ?_
      refine gf_X2_12 S hK hN hP 0 rfl (v := .ref g1) rfl dX2_slotToUse_17 ?_
      refine lv_iload_n hx hb dX2_slotToUse_20 rfl (lv_at hl 1 rfl) ?_
      refine lv_iload_n hx hb dX2_slotToUse_21 rfl (lv_at hl 3 rfl) ?_
      obtain ⟨z2, e_z2, h⟩ := bnd h
      refine roI (cc_X2_34 g1 g2 S hK hN (hP.sub [1, 2] rfl) e_z2 hl.1 (Nat.le_of_ble_eq_true rfl) ⟨Nat.le_of_ble_eq_true rfl, Nat.le_of_ble_eq_true rfl⟩ dX2_slotToUse_22 ⟨Nat.le_of_ble_eq_true rfl, Nat.le_of_ble_eq_true rfl⟩) ?_
      refine lv_if_ne (tgt := 30) hx hb dX2_slotToUse_25 (by decide) (fun c3 => ?_) (fun c3 => ?_)
      · have h := (if_neg c3).symm.trans h
        refine lv_iinc (v := (x3 + 1)) (lv' := [(3, .int (x3 + 1)), (0, .ref g0), (1, .int x1), (2, .int x2)]) hx hb dX2_slotToUse_30 hl (k := 3) rfl rfl (by decide) rfl (fun ls hl => ?_)
        refine lv_goto (tgt := 11) hx hb dX2_slotToUse_33 (by decide) ?_
        exact hI _ (Option.some.inj h) _ (lv_sub hl [1, 2, 3, 0] rfl)
      · have h := (if_pos c3).symm.trans h
        exact (hE _ (Option.some.inj h)).1 rfl _ (lv_sub hl [3] rfl)
  refine lv_aload_n hx hb dX2_slotToUse_0 rfl (lv_at hl 0 rfl) ?_
  refine gf_X2_12 S hK hN hP 0 rfl (v := .ref g1) rfl dX2_slotToUse_1 ?_
  refine lv_iload_n hx hb dX2_slotToUse_4 rfl (lv_at hl 1 rfl) ?_
  obtain ⟨z4, e_z4, h⟩ := bnd h
  refine roI (cc_X2_27 g1 g2 S hK hN (hP.sub [1, 2] rfl) e_z4 hl.1 (Nat.le_of_ble_eq_true rfl) ⟨Nat.le_of_ble_eq_true rfl, Nat.le_of_ble_eq_true rfl⟩ dX2_slotToUse_5 ⟨Nat.le_of_ble_eq_true rfl, Nat.le_of_ble_eq_true rfl⟩) ?_
  refine lv_istore_n (lv' := [(2, .int z4), (0, .ref g0), (1, .int p0)]) hx hb dX2_slotToUse_8 rfl hl (by decide) rfl (fun ls hl => ?_)
  refine lv_iconst (v := 0) hx hb dX2_slotToUse_9 (by decide) ?_
  refine lv_istore_n (lv' := [(3, .int (0 : Int32)), (2, .int z4), (0, .ref g0), (1, .int p0)]) hx hb dX2_slotToUse_10 rfl hl (by decide) rfl (fun ls hl => ?_)
  obtain ⟨b5, e_b5, h⟩ := bnd h
  refine L11 _ _ _ e_b5 ⟨?_, ?_⟩ _ (lv_sub hl [2, 3, 1, 0] rfl)
  · skip
    intro c6
    have h := (if_pos c6).symm.trans h
    intro ls hl
    refine lv_iload_n hx hb dX2_slotToUse_28 rfl (lv_at hl 0 rfl) ?_
    exact retR hQ S hr hlocks h dX2_slotToUse_29
  · intro c7
    have h := (if_neg c7).symm.trans h
    intro ls hl
    refine lv_iload_n hx hb dX2_slotToUse_36 rfl (lv_at hl 0 rfl) ?_
    exact retR hQ S hr hlocks h dX2_slotToUse_37

theorem cc_X2_44 {p : Program} {l : Launch} {e : Env} {R : Room} {s : State} {m : MethodId} {args : Array Value} {below : List Frame} {meth : Method} {c : Code} {H : Heap} {locs : List Loc} {cells slots : Nat} {cc : ByteArray} {pc nL : Nat} {ls : Array Slot} {rest : List Value} {G : va_G} (g0 g1 g2 g3 g4 : Nat) {cI cS : ClassId} {u : TP}  {p0 : Int32} {r : Int32} (S : CallFix p m c cc nL s args bw RX2) (hK : va_K G vwCl (tysW cI cS) s) (hN : NW s) (hP : va_P G vwCl (wP cI g0 g1 g2 g3 g4 u) H) (hf : fX2_slotToUse u p0 = some r) (hsz : ls.size = nL) (hst : (rest.map fun v => v.category).sum ≤ 8) (hR : rmX2_slotToUse.frames + 1 ≤ R.frames ∧ 8 + (4 + 11) + rmX2_slotToUse.locals ≤ R.locals) (hdg : decode cc pc = .ok (.invokevirtual 44, 3)) (hcs : cells + 0 ≤ R.cells ∧ slots + 0 ≤ R.slots) : va_Run p l e R s m args below meth c H locs cells slots 0 0 (F0 m pc ls (.int p0 :: .ref g0 :: rest)) rest (vp_Si (fun r' => r' = r) (#[.ref g0, .int p0] : Array Value)) (fun _ => False) :=
  va_runV (As := [.int p0]) (rest := rest) S (kX2_slotToUse l G cI cS g0 g1 g2 g3 g4 u p0 r hf) (cwV 1 S.2.2.2.2 (gdV q_63 q_64 q_65 q_56 q_61) rfl rfl rfl (by decide +kernel) hR) (pvR (q := (RX2, TX2, 2)) hK hN hP (ci := 2) (q0 := 0) rfl rfl) rfl rfl hsz rfl (lv_room hst) hdg hcs
def fX2_hasRoom (u : TP) (p0 : Int32) (p1 : Int32) : Option (Int32) := ((fX3_slotCount u.1 p0).bind fun z1 => ((fX2_slotToUse u p0).bind fun z2 => (if z1 ≤ z2 then (if (31 : Int32) ≤ z1 then some (0 : Int32) else ((fX2_freeBytes u p0).bind fun z5 => (if z5 < (p1 + (2 : Int32)) then some (0 : Int32) else some (1 : Int32)))) else ((fX2_freeBytes u p0).bind fun z7 => (if z7 < p1 then some (0 : Int32) else some (1 : Int32))))))
abbrev rmX2_hasRoom : Room := { frames := 2, cells := 0, slots := 0, locals := 47 }
set_option maxRecDepth 100000 in
set_option maxHeartbeats 4000000 in
theorem kX2_hasRoom (l : Launch) (G : va_G) (cI cS : ClassId) (g0 g1 g2 g3 g4 : Nat) (u : TP) (p0 : Int32) (p1 : Int32) (r : Int32) (hf : fX2_hasRoom u p0 p1 = some r) : Met l yX2_hasRoom (.code yX2_hasRoom cX2_hasRoom 4 (some .boolean) :: bw) rmX2_hasRoom (va_Pc [.ref g0, .int p0, .int p1] (PreR G (tysW cI cS) (wP cI g0 g1 g2 g3 g4 u))) (vp_Si (fun r' => r' = r)) 0 0 (fun _ => False) := by
  refine enterR (own := RX2) (by decide) rfl rfl (Nat.le_of_ble_eq_true rfl) ?_
  intro p e s m args below meth c Q hQ S hr hlocks hP hK hN ls hl
  have hx := S.1; have hb := S.2.1; have hml := S.2.2.1; have hown := S.2.2.2.1; have hq := S.2.2.2.2
  have hl : lv_has ls 4 [(0, .ref g0), (1, .int p0), (2, .int p1)] := hl
  have h := hf
  unfold fX2_hasRoom at h
  refine lv_aload_n hx hb dX2_hasRoom_0 rfl (lv_at hl 0 rfl) ?_
  refine gf_X2_12 S hK hN hP 0 rfl (v := .ref g1) rfl dX2_hasRoom_1 ?_
  refine lv_iload_n hx hb dX2_hasRoom_4 rfl (lv_at hl 1 rfl) ?_
  obtain ⟨z1, e_z1, h⟩ := bnd h
  refine roI (cc_X2_27 g1 g2 S hK hN (hP.sub [1, 2] rfl) e_z1 hl.1 (Nat.le_of_ble_eq_true rfl) ⟨Nat.le_of_ble_eq_true rfl, Nat.le_of_ble_eq_true rfl⟩ dX2_hasRoom_5 ⟨Nat.le_of_ble_eq_true rfl, Nat.le_of_ble_eq_true rfl⟩) ?_
  refine lv_istore_n (lv' := [(3, .int z1), (0, .ref g0), (1, .int p0), (2, .int p1)]) hx hb dX2_hasRoom_8 rfl hl (by decide) rfl (fun ls hl => ?_)
  refine lv_aload_n hx hb dX2_hasRoom_9 rfl (lv_at hl 1 rfl) ?_
  refine lv_iload_n hx hb dX2_hasRoom_10 rfl (lv_at hl 2 rfl) ?_
  obtain ⟨z2, e_z2, h⟩ := bnd h
  refine roI (cc_X2_44 g0 g1 g2 g3 g4 S hK hN hP e_z2 hl.1 (Nat.le_of_ble_eq_true rfl) ⟨Nat.le_of_ble_eq_true rfl, Nat.le_of_ble_eq_true rfl⟩ dX2_hasRoom_11 ⟨Nat.le_of_ble_eq_true rfl, Nat.le_of_ble_eq_true rfl⟩) ?_
  refine lv_iload_n hx hb dX2_hasRoom_14 rfl (lv_at hl 0 rfl) ?_
  refine lv_icmp_ge (tgt := 33) hx hb dX2_hasRoom_15 (by decide) (fun c3 => ?_) (fun c3 => ?_)
  · have h := (if_pos c3).symm.trans h
    refine lv_iload_n hx hb dX2_hasRoom_33 rfl (lv_at hl 0 rfl) ?_
    refine lv_bipush (v := 31) hx hb dX2_hasRoom_34 (by decide) ?_
    refine lv_icmp_ge (tgt := 54) hx hb dX2_hasRoom_36 (by decide) (fun c4 => ?_) (fun c4 => ?_)
    · have h := (if_pos c4).symm.trans h
      refine lv_iconst (v := 0) hx hb dX2_hasRoom_54 (by decide) ?_
      exact retRz hQ S hr hlocks rfl h dX2_hasRoom_55
    · have h := (if_neg c4).symm.trans h
      refine lv_iload_n hx hb dX2_hasRoom_39 rfl (lv_at hl 3 rfl) ?_
      refine lv_iconst (v := 2) hx hb dX2_hasRoom_40 (by decide) ?_
      refine lv_iadd hx hb dX2_hasRoom_41 ?_
      refine lv_aload_n hx hb dX2_hasRoom_42 rfl (lv_at hl 1 rfl) ?_
      refine lv_iload_n hx hb dX2_hasRoom_43 rfl (lv_at hl 2 rfl) ?_
      obtain ⟨z5, e_z5, h⟩ := bnd h
      refine roI (cc_X2_38 g0 g1 g2 g3 g4 S hK hN hP e_z5 hl.1 (Nat.le_of_ble_eq_true rfl) ⟨Nat.le_of_ble_eq_true rfl, Nat.le_of_ble_eq_true rfl⟩ dX2_hasRoom_44 ⟨Nat.le_of_ble_eq_true rfl, Nat.le_of_ble_eq_true rfl⟩) ?_
      refine lv_icmp_gt (tgt := 54) hx hb dX2_hasRoom_47 (by decide) (fun c6 => ?_) (fun c6 => ?_)
      · have h := (if_pos c6).symm.trans h
        refine lv_iconst (v := 0) hx hb dX2_hasRoom_54 (by decide) ?_
        exact retRz hQ S hr hlocks rfl h dX2_hasRoom_55
      · have h := (if_neg c6).symm.trans h
        refine lv_iconst (v := 1) hx hb dX2_hasRoom_50 (by decide) ?_
        refine lv_goto (tgt := 55) hx hb dX2_hasRoom_51 (by decide) ?_
        exact retRz hQ S hr hlocks rfl h dX2_hasRoom_55
  · have h := (if_neg c3).symm.trans h
    refine lv_iload_n hx hb dX2_hasRoom_18 rfl (lv_at hl 3 rfl) ?_
    refine lv_aload_n hx hb dX2_hasRoom_19 rfl (lv_at hl 1 rfl) ?_
    refine lv_iload_n hx hb dX2_hasRoom_20 rfl (lv_at hl 2 rfl) ?_
    obtain ⟨z7, e_z7, h⟩ := bnd h
    refine roI (cc_X2_38 g0 g1 g2 g3 g4 S hK hN hP e_z7 hl.1 (Nat.le_of_ble_eq_true rfl) ⟨Nat.le_of_ble_eq_true rfl, Nat.le_of_ble_eq_true rfl⟩ dX2_hasRoom_21 ⟨Nat.le_of_ble_eq_true rfl, Nat.le_of_ble_eq_true rfl⟩) ?_
    refine lv_icmp_gt (tgt := 31) hx hb dX2_hasRoom_24 (by decide) (fun c8 => ?_) (fun c8 => ?_)
    · have h := (if_pos c8).symm.trans h
      refine lv_iconst (v := 0) hx hb dX2_hasRoom_31 (by decide) ?_
      exact retRz hQ S hr hlocks rfl h dX2_hasRoom_32
    · have h := (if_neg c8).symm.trans h
      refine lv_iconst (v := 1) hx hb dX2_hasRoom_27 (by decide) ?_
      refine lv_goto (tgt := 32) hx hb dX2_hasRoom_28 (by decide) ?_
      exact retRz hQ S hr hlocks rfl h dX2_hasRoom_32

theorem cc_X2_51 {p : Program} {l : Launch} {e : Env} {R : Room} {s : State} {m : MethodId} {args : Array Value} {below : List Frame} {meth : Method} {c : Code} {H : Heap} {locs : List Loc} {cells slots : Nat} {cc : ByteArray} {pc nL : Nat} {ls : Array Slot} {rest : List Value} {G : va_G} (g0 g1 g2 g3 g4 : Nat) {cI cS : ClassId} {u : TP}  {p0 : Int32} {p1 : Int32} {r : Int32} (S : CallFix p m c cc nL s args bw RX2) (hK : va_K G vwCl (tysW cI cS) s) (hN : NW s) (hP : va_P G vwCl (wP cI g0 g1 g2 g3 g4 u) H) (hf : fX2_hasRoom u p0 p1 = some r) (hsz : ls.size = nL) (hst : (rest.map fun v => v.category).sum ≤ 8) (hR : rmX2_hasRoom.frames + 1 ≤ R.frames ∧ 8 + (4 + 11) + rmX2_hasRoom.locals ≤ R.locals) (hdg : decode cc pc = .ok (.invokevirtual 51, 3)) (hcs : cells + 0 ≤ R.cells ∧ slots + 0 ≤ R.slots) : va_Run p l e R s m args below meth c H locs cells slots 0 0 (F0 m pc ls (.int p1 :: .int p0 :: .ref g0 :: rest)) rest (vp_Si (fun r' => r' = r) (#[.ref g0, .int p0, .int p1] : Array Value)) (fun _ => False) :=
  va_runV (As := [.int p0, .int p1]) (rest := rest) S (kX2_hasRoom l G cI cS g0 g1 g2 g3 g4 u p0 p1 r hf) (cwV 2 S.2.2.2.2 (gdV q_66 q_67 q_68 q_56 q_62) rfl rfl rfl (by decide +kernel) hR) (pvR (q := (RX2, TX2, 2)) hK hN hP (ci := 2) (q0 := 0) rfl rfl) rfl rfl hsz rfl (lv_room hst) hdg hcs
theorem gf_X2_47 {p : Program} {l : Launch} {e : Env} {R : Room} {s : State} {m : MethodId} {args : Array Value} {below : List Frame} {meth : Method} {c : Code} {H : Heap} {locs : List Loc} {cells slots : Nat} {cc : ByteArray} {pc nL : Nat} {ls : Array Slot} {rest : List Value} {G : va_G} {Q : State → Prop} {tys : List (ClassId × FieldType)} {ws : va_W} {a : Nat} (S : CallFix p m c cc nL s args bw RX2) (hK : va_K G vwCl tys s) (hN : NW s) (hP : va_P G vwCl ws H) (q0 : Nat) {fs : List Value} (he : ws[q0]? = some (a, .inr (3, fs))) {v : Value} (hv : fs[1]? = some v) (hdg : decode cc pc = .ok (.getfield 47, 3)) (kk : W p l e R s m args below meth c H locs cells slots Q (F0 m (pc + 3) ls (v :: rest))) : W p l e R s m args below meth c H locs cells slots Q (F0 m pc ls (.ref a :: rest)) :=
  va_getN (C := RX3) (T := TX3) (N := 5) S.1 S.2.1 S.2.2.2.2 bi_U3 S.2.2.2.1 hK hP q0 he rfl 1 (by decide) (va_Nw.use rfl (hN _ nq_2)) (fun _ h9 => h9) hv hdg kk
def fX2_findPage_j40 (u : TP) (x1 : Int32) (x2 : Int32) (x3 : Int32) (x4 : Int32) : Option ((Int32 × Int32 × Int32 × Int32) ⊕ (Nat × (Int32))) := some (.inl (x1, x2, x3, (x4 + 1)))
def fX2_findPage_s3 (u : TP) (x1 : Int32) (x2 : Int32) (x3 : Int32) (x4 : Int32) : Option ((Int32 × Int32 × Int32 × Int32) ⊕ (Nat × (Int32))) := (if u.1.1.1 ≤ x4 then some (.inr (1, (0 : Int32))) else (if x4 = x2 then fX2_findPage_j40 u x1 x2 x3 x4 else (if x4 = x3 then fX2_findPage_j40 u x1 x2 x3 x4 else ((fX2_hasRoom u x4 x1).bind fun z4 => (if z4 = 0 then fX2_findPage_j40 u x1 x2 x3 x4 else some (.inr (0, x4)))))))
def fX2_findPage (u : TP) (p0 : Int32) (p1 : Int32) (p2 : Int32) : Option (Int32) := ((itr (fun a : Int32 × Int32 × Int32 × Int32 => fX2_findPage_s3 u a.1 a.2.1 a.2.2.1 a.2.2.2) FU (p0, p1, p2, (0 : Int32))).bind fun b6 => (if b6.1 = 0 then some b6.2 else (if (8 : Int32) ≤ u.1.1.1 then some ((-1) : Int32) else some u.1.1.1)))
abbrev rmX2_findPage : Room := { frames := 3, cells := 0, slots := 0, locals := 70 }
set_option maxRecDepth 100000 in
set_option maxHeartbeats 4000000 in
theorem kX2_findPage (l : Launch) (G : va_G) (cI cS : ClassId) (g0 g1 g2 g3 g4 : Nat) (u : TP) (p0 : Int32) (p1 : Int32) (p2 : Int32) (r : Int32) (hf : fX2_findPage u p0 p1 p2 = some r) : Met l yX2_findPage (.code yX2_findPage cX2_findPage 5 (some .int) :: bw) rmX2_findPage (va_Pc [.ref g0, .int p0, .int p1, .int p2] (PreR G (tysW cI cS) (wP cI g0 g1 g2 g3 g4 u))) (vp_Si (fun r' => r' = r)) 0 0 (fun _ => False) := by
  refine enterR (own := RX2) (by decide) rfl rfl (Nat.le_of_ble_eq_true rfl) ?_
  intro p e s m args below meth c Q hQ S hr hlocks hP hK hN ls hl
  have hx := S.1; have hb := S.2.1; have hml := S.2.2.1; have hown := S.2.2.2.1; have hq := S.2.2.2.2
  have hl : lv_has ls 5 [(0, .ref g0), (1, .int p0), (2, .int p1), (3, .int p2)] := hl
  have h := hf
  unfold fX2_findPage at h
  have L3 : ∀ (n9 : Nat) (a9 : Int32 × Int32 × Int32 × Int32) (b9 : Nat × (Int32)), itr (fun a : Int32 × Int32 × Int32 × Int32 => fX2_findPage_s3 u a.1 a.2.1 a.2.2.1 a.2.2.2) n9 a9 = some b9 → (fun b : Nat × (Int32) => (b.1 = 0 → ∀ ls : Array Slot, lv_has ls 5 [(4, .int b.2)] → W p l e rmX2_findPage s m args below meth c s.heap [] 0 0 Q (F0 m 37 ls [])) ∧ (¬ b.1 = 0 → ∀ ls : Array Slot, lv_has ls 5 [(0, .ref g0)] → W p l e rmX2_findPage s m args below meth c s.heap [] 0 0 Q (F0 m 46 ls []))) b9 → (fun a : Int32 × Int32 × Int32 × Int32 => ∀ ls : Array Slot, lv_has ls 5 [(0, .ref g0), (1, .int a.1), (2, .int a.2.1), (3, .int a.2.2.1), (4, .int a.2.2.2)] → W p l e rmX2_findPage s m args below meth c s.heap [] 0 0 Q (F0 m 3 ls [])) a9 := by
    refine itr_ind (Inv := (fun a : Int32 × Int32 × Int32 × Int32 => ∀ ls : Array Slot, lv_has ls 5 [(0, .ref g0), (1, .int a.1), (2, .int a.2.1), (3, .int a.2.2.1), (4, .int a.2.2.2)] → W p l e rmX2_findPage s m args below meth c s.heap [] 0 0 Q (F0 m 3 ls []))) (Ex := (fun b : Nat × (Int32) => (b.1 = 0 → ∀ ls : Array Slot, lv_has ls 5 [(4, .int b.2)] → W p l e rmX2_findPage s m args below meth c s.heap [] 0 0 Q (F0 m 37 ls [])) ∧ (¬ b.1 = 0 → ∀ ls : Array Slot, lv_has ls 5 [(0, .ref g0)] → W p l e rmX2_findPage s m args below meth c s.heap [] 0 0 Q (F0 m 46 ls [])))) ?_
    rintro ⟨x1, x2, x3, x4⟩ z h hI hE
    have h : fX2_findPage_s3 u x1 x2 x3 x4 = some z := h
    unfold fX2_findPage_s3 at h
    show ∀ ls : Array Slot, lv_has ls 5 [(0, .ref g0), (1, .int x1), (2, .int x2), (3, .int x3), (4, .int x4)] → W p l e rmX2_findPage s m args below meth c s.heap [] 0 0 Q (F0 m 3 ls [])
    have J40 : ∀ (x1 : Int32) (x2 : Int32) (x3 : Int32) (x4 : Int32) , fX2_findPage_j40 u x1 x2 x3 x4 = some z → ∀ ls : Array Slot, lv_has ls 5 [(0, .ref g0), (1, .int x1), (2, .int x2), (3, .int x3), (4, .int x4)] → W p l e rmX2_findPage s m args below meth c s.heap [] 0 0 Q (F0 m 40 ls []) := by
      intro x1 x2 x3 x4 h
      unfold fX2_findPage_j40 at h
      intro ls hl
      refine lv_iinc (v := (x4 + 1)) (lv' := [(4, .int (x4 + 1)), (0, .ref g0), (1, .int x1), (2, .int x2), (3, .int x3)]) hx hb dX2_findPage_40 hl (k := 4) rfl rfl (by decide) rfl (fun ls hl => ?_)
      refine lv_goto (tgt := 3) hx hb dX2_findPage_43 (by decide) ?_
      exact hI _ (Option.some.inj h) _ (lv_sub hl [1, 2, 3, 4, 0] rfl)
    intro ls hl
    refine lv_iload hx hb dX2_findPage_3 (lv_at hl 4 rfl) ?_
    refine lv_aload_n hx hb dX2_findPage_5 rfl (lv_at hl 0 rfl) ?_
    refine gf_X2_12 S hK hN hP 0 rfl (v := .ref g1) rfl dX2_findPage_6 ?_
    refine gf_X2_47 S hK hN hP 1 rfl (v := .int u.1.1.1) rfl dX2_findPage_9 ?_
    refine lv_icmp_ge (tgt := 46) hx hb dX2_findPage_12 (by decide) (fun c1 => ?_) (fun c1 => ?_)
    · have h := (if_pos c1).symm.trans h
      exact (hE _ (Option.some.inj h)).2 (fun q => nomatch q) _ (lv_sub hl [0] rfl)
    · have h := (if_neg c1).symm.trans h
      refine lv_iload hx hb dX2_findPage_15 (lv_at hl 4 rfl) ?_
      refine lv_iload_n hx hb dX2_findPage_17 rfl (lv_at hl 2 rfl) ?_
      refine lv_icmp_eq (tgt := 40) hx hb dX2_findPage_18 (by decide) (fun c2 => ?_) (fun c2 => ?_)
      · have h := (if_pos c2).symm.trans h
        exact J40 x1 x2 x3 x4 h _ (lv_sub hl [0, 1, 2, 3, 4] rfl)
      · have h := (if_neg c2).symm.trans h
        refine lv_iload hx hb dX2_findPage_21 (lv_at hl 4 rfl) ?_
        refine lv_iload_n hx hb dX2_findPage_23 rfl (lv_at hl 3 rfl) ?_
        refine lv_icmp_eq (tgt := 40) hx hb dX2_findPage_24 (by decide) (fun c3 => ?_) (fun c3 => ?_)
        · have h := (if_pos c3).symm.trans h
          exact J40 x1 x2 x3 x4 h _ (lv_sub hl [0, 1, 2, 3, 4] rfl)
        · have h := (if_neg c3).symm.trans h
          refine lv_aload_n hx hb dX2_findPage_27 rfl (lv_at hl 0 rfl) ?_
          refine lv_iload hx hb dX2_findPage_28 (lv_at hl 4 rfl) ?_
          refine lv_iload_n hx hb dX2_findPage_30 rfl (lv_at hl 1 rfl) ?_
          obtain ⟨z4, e_z4, h⟩ := bnd h
          refine roI (cc_X2_51 g0 g1 g2 g3 g4 S hK hN hP e_z4 hl.1 (Nat.le_of_ble_eq_true rfl) ⟨Nat.le_of_ble_eq_true rfl, Nat.le_of_ble_eq_true rfl⟩ dX2_findPage_31 ⟨Nat.le_of_ble_eq_true rfl, Nat.le_of_ble_eq_true rfl⟩) ?_
          refine lv_if_eq (tgt := 40) hx hb dX2_findPage_34 (by decide) (fun c5 => ?_) (fun c5 => ?_)
          · have h := (if_pos c5).symm.trans h
            exact J40 x1 x2 x3 x4 h _ (lv_sub hl [0, 1, 2, 3, 4] rfl)
          · have h := (if_neg c5).symm.trans h
            exact (hE _ (Option.some.inj h)).1 rfl _ (lv_sub hl [4] rfl)
  refine lv_iconst (v := 0) hx hb dX2_findPage_0 (by decide) ?_
  refine lv_istore (lv' := [(4, .int (0 : Int32)), (0, .ref g0), (1, .int p0), (2, .int p1), (3, .int p2)]) hx hb dX2_findPage_1 hl (by decide) rfl (fun ls hl => ?_)
  obtain ⟨b6, e_b6, h⟩ := bnd h
  refine L3 _ _ _ e_b6 ⟨?_, ?_⟩ _ (lv_sub hl [1, 2, 3, 4, 0] rfl)
  · skip
    intro c7
    have h := (if_pos c7).symm.trans h
    intro ls hl
    refine lv_iload hx hb dX2_findPage_37 (lv_at hl 0 rfl) ?_
    exact retR hQ S hr hlocks h dX2_findPage_39
  · intro c8
    have h := (if_neg c8).symm.trans h
    intro ls hl
    refine lv_aload_n hx hb dX2_findPage_46 rfl (lv_at hl 0 rfl) ?_
    refine gf_X2_12 S hK hN hP 0 rfl (v := .ref g1) rfl dX2_findPage_47 ?_
    refine gf_X2_47 S hK hN hP 1 rfl (v := .int u.1.1.1) rfl dX2_findPage_50 ?_
    refine lv_bipush (v := 8) hx hb dX2_findPage_53 (by decide) ?_
    refine lv_icmp_ge (tgt := 68) hx hb dX2_findPage_55 (by decide) (fun c9 => ?_) (fun c9 => ?_)
    · have h := (if_pos c9).symm.trans h
      refine lv_iconst (v := (-1)) hx hb dX2_findPage_68 (by decide) ?_
      exact retR hQ S hr hlocks h dX2_findPage_69
    · have h := (if_neg c9).symm.trans h
      refine lv_aload_n hx hb dX2_findPage_58 rfl (lv_at hl 0 rfl) ?_
      refine gf_X2_12 S hK hN hP 0 rfl (v := .ref g1) rfl dX2_findPage_59 ?_
      refine gf_X2_47 S hK hN hP 1 rfl (v := .int u.1.1.1) rfl dX2_findPage_62 ?_
      refine lv_goto (tgt := 69) hx hb dX2_findPage_65 (by decide) ?_
      exact retR hQ S hr hlocks h dX2_findPage_69

theorem cc_X2_55 {p : Program} {l : Launch} {e : Env} {R : Room} {s : State} {m : MethodId} {args : Array Value} {below : List Frame} {meth : Method} {c : Code} {H : Heap} {locs : List Loc} {cells slots : Nat} {cc : ByteArray} {pc nL : Nat} {ls : Array Slot} {rest : List Value} {G : va_G} {A : Nat → Prop} (g0 g1 : Nat) {cI cS : ClassId} {u : TS}  {p0 : Int32} {p1 : Int32} {p2 : Int32} {r : TS} (S : CallFix p m c cc nL s args bw RX2) (hK : va_K G vwCl (tysW cI cS) s) (hN : NW s) (hP : va_P G vwCl (wS cI g0 g1 u) H) (hD : va_D A (wS cI g0 g1 u)) (hf : fX3_setByte u p0 p1 p2 = some r) (hsz : ls.size = nL) (hst : (rest.map fun v => v.category).sum ≤ 8) (hR : rmX3_setByte.frames + 1 ≤ R.frames ∧ 8 + (5 + 11) + rmX3_setByte.locals ≤ R.locals) (hdg : decode cc pc = .ok (.invokevirtual 55, 3)) (hcs : cells + 0 ≤ R.cells ∧ slots + 0 ≤ R.slots) : va_Run p l e R s m args below meth c H locs cells slots 0 0 (F0 m pc ls (.int p2 :: .int p1 :: .int p0 :: .ref g0 :: rest)) rest (va_Qv (fun u' => u' = r) (PoM G (tysW cI cS) (va_A (wS cI g0 g1 u) H.size) (wS cI g0 g1)) (va_A (wS cI g0 g1 u) H.size) (#[.ref g0, .int p0, .int p1, .int p2] : Array Value)) (va_A (wS cI g0 g1 u) H.size) :=
  va_runVN (As := [.int p0, .int p1, .int p2]) (rest := rest) S (kX3_setByte l G cI cS g0 g1 H.size u p0 p1 p2 r hf) ⟨va_cnB 3 S.2.2.2.2 (gdC q_70) rfl rfl rfl (hN _ nq_34) (S.2.2.2.2 _ q_35) (by decide +kernel) hR, S.2.2.2.2 _ q_72, S.2.2.2.2 _ q_73⟩ (pvM (q := (RX3, TX3, 5)) hK hN hP hD (ci := 3) (q0 := 0) rfl rfl) rfl rfl hsz rfl (lv_room hst) hdg hcs
theorem pf_X2_47 {p : Program} {l : Launch} {e : Env} {R : Room} {s : State} {m : MethodId} {args : Array Value} {below : List Frame} {meth : Method} {c : Code} {H : Heap} {locs : List Loc} {cells slots : Nat} {cc : ByteArray} {pc nL : Nat} {ls : Array Slot} {rest : List Value} {G : va_G} {Q : State → Prop} {tys : List (ClassId × FieldType)} {ws : va_W} {a : Nat} {A : Nat → Prop} {H0 : Heap} {x : Int32} (S : CallFix p m c cc nL s args bw RX2) (hK : va_K G vwCl tys s) (hN : NW s) (hP : va_P G vwCl ws H) (hD : va_D A ws) (hS : va_S A H0 H locs) (q0 : Nat) {fs : List Value} (he : ws[q0]? = some (a, .inr (3, fs))) (hl : 1 < fs.length) (hdg : decode cc pc = .ok (.putfield 47, 3)) (kk : ∀ (H1 : Heap) (locs1 : List Loc), va_P G vwCl (ws.set q0 (a, .inr (3, fs.set 1 (.int x)))) H1 → va_D A (ws.set q0 (a, .inr (3, fs.set 1 (.int x)))) → va_S A H0 H1 locs1 → W p l e R s m args below meth c H1 locs1 cells slots Q (F0 m (pc + 3) ls rest)) : W p l e R s m args below meth c H locs cells slots Q (F0 m pc ls (.int x :: .ref a :: rest)) :=
  va_putN (ty := .int) (v := .int x) (C := RX3) (T := TX3) (N := 5) S.1 S.2.1 S.2.2.2.2 bi_U3 tyX3 tyX3_ok nmX3 S.2.2.2.1 hK hP hD hS q0 he rfl 1 (by decide) (va_Nw.use rfl (hN _ nq_2)) (fun _ h9 => h9) rfl rfl rfl rfl hl hdg kk
def fX2_openIfNew (u : TP) (p0 : Int32) : Option (TP) := (if p0 = u.1.1.1 then (if (8 : Int32) ≤ p0 then some u else ((fX3_setByte u.1 p0 (1 : Int32) (128 : Int32)).bind fun z3 => some ((((z3.1.1 + (1 : Int32)), z3.1.2), z3.2), u.2))) else some u)
abbrev rmX2_openIfNew : Room := { frames := 1, cells := 0, slots := 0, locals := 24 }
set_option maxRecDepth 100000 in
set_option maxHeartbeats 4000000 in
theorem kX2_openIfNew (l : Launch) (G : va_G) (cI cS : ClassId) (g0 g1 g2 g3 g4 : Nat) (sz : Nat) (u : TP) (p0 : Int32) (r : TP) (hf : fX2_openIfNew u p0 = some r) : Met l yX2_openIfNew (.code yX2_openIfNew cX2_openIfNew 2 none :: bw) rmX2_openIfNew (va_Pc [.ref g0, .int p0] (PreM G (tysW cI cS) (wP cI g0 g1 g2 g3 g4 u) sz)) (va_Qv (fun u' => u' = r) (PoM G (tysW cI cS) (va_A (wP cI g0 g1 g2 g3 g4 u) sz) (wP cI g0 g1 g2 g3 g4)) (va_A (wP cI g0 g1 g2 g3 g4 u) sz)) 0 0 (va_A (wP cI g0 g1 g2 g3 g4 u) sz) := by
  refine enterM (own := RX2) (by decide) rfl (Nat.le_of_ble_eq_true rfl) ?_
  intro p e s m args below meth c A Q hAe hQ S hr hlocks hP hK hN hD hA hS ls hl
  rw [hAe] at hQ
  have hx := S.1; have hb := S.2.1; have hml := S.2.2.1; have hown := S.2.2.2.1; have hq := S.2.2.2.2
  have hl : lv_has ls 2 [(0, .ref g0), (1, .int p0)] := hl
  have h := hf
  unfold fX2_openIfNew at h
  refine lv_iload_n hx hb dX2_openIfNew_0 rfl (lv_at hl 1 rfl) ?_
  refine lv_aload_n hx hb dX2_openIfNew_1 rfl (lv_at hl 0 rfl) ?_
  refine gf_X2_12 S hK hN hP 0 rfl (v := .ref g1) rfl dX2_openIfNew_2 ?_
  refine gf_X2_47 S hK hN hP 1 rfl (v := .int u.1.1.1) rfl dX2_openIfNew_5 ?_
  refine lv_icmp_ne (tgt := 42) hx hb dX2_openIfNew_8 (by decide) (fun c1 => ?_) (fun c1 => ?_)
  · have h := (if_neg c1).symm.trans h
    exact retMv hQ S hr hlocks hK hN hP hD hS h dX2_openIfNew_42
  · have h := (if_pos c1).symm.trans h
    refine lv_iload_n hx hb dX2_openIfNew_11 rfl (lv_at hl 1 rfl) ?_
    refine lv_bipush (v := 8) hx hb dX2_openIfNew_12 (by decide) ?_
    refine lv_icmp_ge (tgt := 42) hx hb dX2_openIfNew_14 (by decide) (fun c2 => ?_) (fun c2 => ?_)
    · have h := (if_pos c2).symm.trans h
      exact retMv hQ S hr hlocks hK hN hP hD hS h dX2_openIfNew_42
    · have h := (if_neg c2).symm.trans h
      refine lv_aload_n hx hb dX2_openIfNew_17 rfl (lv_at hl 0 rfl) ?_
      refine gf_X2_12 S hK hN hP 0 rfl (v := .ref g1) rfl dX2_openIfNew_18 ?_
      refine lv_iload_n hx hb dX2_openIfNew_21 rfl (lv_at hl 1 rfl) ?_
      refine lv_iconst (v := 1) hx hb dX2_openIfNew_22 (by decide) ?_
      refine lv_sipush (v := 128) hx hb dX2_openIfNew_23 (by decide) ?_
      obtain ⟨z3, e_z3, h⟩ := bnd h
      refine mjv (cc_X2_55 g1 g2 S hK hN (hP.sub [1, 2] rfl) (hD.sub [1, 2] (by decide) rfl) e_z3 hl.1 (Nat.le_of_ble_eq_true rfl) ⟨Nat.le_of_ble_eq_true rfl, Nat.le_of_ble_eq_true rfl⟩ dX2_openIfNew_26 ⟨Nat.le_of_ble_eq_true rfl, Nat.le_of_ble_eq_true rfl⟩) hS hP hD hA [1, 2] [0, 3, 4] rfl rfl (by decide) (by decide) [0, 3, 4, 1, 2] (by decide) (wP cI g0 g1 g2 g3 g4 (z3, u.2)) rfl (fun H locs hP hD hS => ?_)
      refine lv_aload_n hx hb dX2_openIfNew_29 rfl (lv_at hl 0 rfl) ?_
      refine gf_X2_12 S hK hN hP 0 rfl (v := .ref g1) rfl dX2_openIfNew_30 ?_
      refine lv_dup hx hb dX2_openIfNew_33 rfl ?_
      refine gf_X2_47 S hK hN hP 1 rfl (v := .int z3.1.1) rfl dX2_openIfNew_34 ?_
      refine lv_iconst (v := 1) hx hb dX2_openIfNew_37 (by decide) ?_
      refine lv_iadd hx hb dX2_openIfNew_38 ?_
      refine pf_X2_47 S hK hN hP hD hS 1 rfl (Nat.le_of_ble_eq_true rfl) dX2_openIfNew_39 (fun H locs hP hD hS => ?_)
      have hP : va_P G vwCl (wP cI g0 g1 g2 g3 g4 ((((z3.1.1 + (1 : Int32)), z3.1.2), z3.2), u.2)) H := hP
      have hD : va_D A (wP cI g0 g1 g2 g3 g4 ((((z3.1.1 + (1 : Int32)), z3.1.2), z3.2), u.2)) := hD
      exact retMv hQ S hr hlocks hK hN hP hD hS h dX2_openIfNew_42

def fX2_recordsThatFit_j88 (u : TP) (x1 : Int32) (x2 : Int32) (x3 : Int32) (x4 : Int32) (x5 : Int32) (x6 : Int32) : Option ((Int32 × Int32 × Int32 × Int32 × Int32 × Int32) ⊕ (Nat × (Int32))) := some (.inl (x1, x2, x3, x4, x5, (x6 + 1)))
def fX2_recordsThatFit_j74 (u : TP) (x1 : Int32) (x2 : Int32) (x3 : Int32) (x5 : Int32) (x6 : Int32) (t0 : Int32) (t1 : Int32) : Option ((Int32 × Int32 × Int32 × Int32 × Int32 × Int32) ⊕ (Nat × (Int32))) := (if 0 ≤ (t1 - t0) then fX2_recordsThatFit_j88 u x1 x2 x3 (t1 - t0) (x5 + 1) x6 else some (.inr (0, x5)))
def fX2_recordsThatFit_j60 (u : TP) (x1 : Int32) (x2 : Int32) (x3 : Int32) (x4 : Int32) (x5 : Int32) (x6 : Int32) (x7 : Int32) : Option ((Int32 × Int32 × Int32 × Int32 × Int32 × Int32) ⊕ (Nat × (Int32))) := (if x7 = 0 then fX2_recordsThatFit_j74 u x1 x2 x3 x5 x6 x2 x4 else fX2_recordsThatFit_j74 u x1 x2 x3 x5 x6 (x2 + (2 : Int32)) x4)
def fX2_recordsThatFit_j40 (u : TP) (x1 : Int32) (x2 : Int32) (x3 : Int32) (x4 : Int32) (x5 : Int32) (x6 : Int32) (t0 : Int32) : Option ((Int32 × Int32 × Int32 × Int32 × Int32 × Int32) ⊕ (Nat × (Int32))) := (if t0 = 0 then ((fX3_sizeOf u.1 x1 x6).bind fun z4 => (if z4 = 0 then fX2_recordsThatFit_j60 u x1 x2 x3 x4 x5 x6 t0 else fX2_recordsThatFit_j88 u x1 x2 x3 x4 x5 x6)) else fX2_recordsThatFit_j60 u x1 x2 x3 x4 x5 x6 t0)
def fX2_recordsThatFit_s22 (u : TP) (x1 : Int32) (x2 : Int32) (x3 : Int32) (x4 : Int32) (x5 : Int32) (x6 : Int32) : Option ((Int32 × Int32 × Int32 × Int32 × Int32 × Int32) ⊕ (Nat × (Int32))) := (if (31 : Int32) ≤ x6 then some (.inr (1, x5)) else (if x6 < x3 then fX2_recordsThatFit_j40 u x1 x2 x3 x4 x5 x6 (0 : Int32) else fX2_recordsThatFit_j40 u x1 x2 x3 x4 x5 x6 (1 : Int32)))
def fX2_recordsThatFit (u : TP) (p0 : Int32) (p1 : Int32) : Option (Int32) := ((fX3_slotCount u.1 p0).bind fun z8 => ((fX2_freeBytes u p0).bind fun z9 => ((itr (fun a : Int32 × Int32 × Int32 × Int32 × Int32 × Int32 => fX2_recordsThatFit_s22 u a.1 a.2.1 a.2.2.1 a.2.2.2.1 a.2.2.2.2.1 a.2.2.2.2.2) FU (p0, p1, z8, z9, (0 : Int32), (0 : Int32))).bind fun b10 => (if b10.1 = 0 then some b10.2 else some b10.2))))
abbrev rmX2_recordsThatFit : Room := { frames := 2, cells := 0, slots := 0, locals := 47 }
set_option maxRecDepth 100000 in
set_option maxHeartbeats 4000000 in
theorem kX2_recordsThatFit (l : Launch) (G : va_G) (cI cS : ClassId) (g0 g1 g2 g3 g4 : Nat) (u : TP) (p0 : Int32) (p1 : Int32) (r : Int32) (hf : fX2_recordsThatFit u p0 p1 = some r) : Met l yX2_recordsThatFit (.code yX2_recordsThatFit cX2_recordsThatFit 8 (some .int) :: bw) rmX2_recordsThatFit (va_Pc [.ref g0, .int p0, .int p1] (PreR G (tysW cI cS) (wP cI g0 g1 g2 g3 g4 u))) (vp_Si (fun r' => r' = r)) 0 0 (fun _ => False) := by
  refine enterR (own := RX2) (by decide) rfl rfl (Nat.le_of_ble_eq_true rfl) ?_
  intro p e s m args below meth c Q hQ S hr hlocks hP hK hN ls hl
  have hx := S.1; have hb := S.2.1; have hml := S.2.2.1; have hown := S.2.2.2.1; have hq := S.2.2.2.2
  have hl : lv_has ls 8 [(0, .ref g0), (1, .int p0), (2, .int p1)] := hl
  have h := hf
  unfold fX2_recordsThatFit at h
  have L22 : ∀ (n9 : Nat) (a9 : Int32 × Int32 × Int32 × Int32 × Int32 × Int32) (b9 : Nat × (Int32)), itr (fun a : Int32 × Int32 × Int32 × Int32 × Int32 × Int32 => fX2_recordsThatFit_s22 u a.1 a.2.1 a.2.2.1 a.2.2.2.1 a.2.2.2.2.1 a.2.2.2.2.2) n9 a9 = some b9 → (fun b : Nat × (Int32) => (b.1 = 0 → ∀ ls : Array Slot, lv_has ls 8 [(5, .int b.2)] → W p l e rmX2_recordsThatFit s m args below meth c s.heap [] 0 0 Q (F0 m 82 ls [])) ∧ (¬ b.1 = 0 → ∀ ls : Array Slot, lv_has ls 8 [(5, .int b.2)] → W p l e rmX2_recordsThatFit s m args below meth c s.heap [] 0 0 Q (F0 m 94 ls []))) b9 → (fun a : Int32 × Int32 × Int32 × Int32 × Int32 × Int32 => ∀ ls : Array Slot, lv_has ls 8 [(0, .ref g0), (1, .int a.1), (2, .int a.2.1), (3, .int a.2.2.1), (4, .int a.2.2.2.1), (5, .int a.2.2.2.2.1), (6, .int a.2.2.2.2.2)] → W p l e rmX2_recordsThatFit s m args below meth c s.heap [] 0 0 Q (F0 m 22 ls [])) a9 := by
    refine itr_ind (Inv := (fun a : Int32 × Int32 × Int32 × Int32 × Int32 × Int32 => ∀ ls : Array Slot, lv_has ls 8 [(0, .ref g0), (1, .int a.1), (2, .int a.2.1), (3, .int a.2.2.1), (4, .int a.2.2.2.1), (5, .int a.2.2.2.2.1), (6, .int a.2.2.2.2.2)] → W p l e rmX2_recordsThatFit s m args below meth c s.heap [] 0 0 Q (F0 m 22 ls []))) (Ex := (fun b : Nat × (Int32) => (b.1 = 0 → ∀ ls : Array Slot, lv_has ls 8 [(5, .int b.2)] → W p l e rmX2_recordsThatFit s m args below meth c s.heap [] 0 0 Q (F0 m 82 ls [])) ∧ (¬ b.1 = 0 → ∀ ls : Array Slot, lv_has ls 8 [(5, .int b.2)] → W p l e rmX2_recordsThatFit s m args below meth c s.heap [] 0 0 Q (F0 m 94 ls [])))) ?_
    rintro ⟨x1, x2, x3, x4, x5, x6⟩ z h hI hE
    have h : fX2_recordsThatFit_s22 u x1 x2 x3 x4 x5 x6 = some z := h
    unfold fX2_recordsThatFit_s22 at h
    show ∀ ls : Array Slot, lv_has ls 8 [(0, .ref g0), (1, .int x1), (2, .int x2), (3, .int x3), (4, .int x4), (5, .int x5), (6, .int x6)] → W p l e rmX2_recordsThatFit s m args below meth c s.heap [] 0 0 Q (F0 m 22 ls [])
    have J88 : ∀ (x1 : Int32) (x2 : Int32) (x3 : Int32) (x4 : Int32) (x5 : Int32) (x6 : Int32) , fX2_recordsThatFit_j88 u x1 x2 x3 x4 x5 x6 = some z → ∀ ls : Array Slot, lv_has ls 8 [(0, .ref g0), (1, .int x1), (2, .int x2), (3, .int x3), (4, .int x4), (5, .int x5), (6, .int x6)] → W p l e rmX2_recordsThatFit s m args below meth c s.heap [] 0 0 Q (F0 m 88 ls []) := by
      intro x1 x2 x3 x4 x5 x6 h
      unfold fX2_recordsThatFit_j88 at h
      intro ls hl
      refine lv_iinc (v := (x6 + 1)) (lv' := [(6, .int (x6 + 1)), (0, .ref g0), (1, .int x1), (2, .int x2), (3, .int x3), (4, .int x4), (5, .int x5)]) hx hb dX2_recordsThatFit_88 hl (k := 6) rfl rfl (by decide) rfl (fun ls hl => ?_)
      refine lv_goto (tgt := 22) hx hb dX2_recordsThatFit_91 (by decide) ?_
      exact hI _ (Option.some.inj h) _ (lv_sub hl [1, 2, 3, 4, 5, 6, 0] rfl)
    have J74 : ∀ (x1 : Int32) (x2 : Int32) (x3 : Int32) (x5 : Int32) (x6 : Int32) (t0 : Int32) (t1 : Int32) , fX2_recordsThatFit_j74 u x1 x2 x3 x5 x6 t0 t1 = some z → ∀ ls : Array Slot, lv_has ls 8 [(0, .ref g0), (1, .int x1), (2, .int x2), (3, .int x3), (5, .int x5), (6, .int x6)] → W p l e rmX2_recordsThatFit s m args below meth c s.heap [] 0 0 Q (F0 m 74 ls [.int t0, .int t1]) := by
      intro x1 x2 x3 x5 x6 t0 t1 h
      unfold fX2_recordsThatFit_j74 at h
      intro ls hl
      refine lv_isub hx hb dX2_recordsThatFit_74 ?_
      refine lv_istore (lv' := [(4, .int (t1 - t0)), (0, .ref g0), (1, .int x1), (2, .int x2), (3, .int x3), (5, .int x5), (6, .int x6)]) hx hb dX2_recordsThatFit_75 hl (by decide) rfl (fun ls hl => ?_)
      refine lv_iload hx hb dX2_recordsThatFit_77 (lv_at hl 0 rfl) ?_
      refine lv_if_ge (tgt := 85) hx hb dX2_recordsThatFit_79 (by decide) (fun c1 => ?_) (fun c1 => ?_)
      · have h := (if_pos c1).symm.trans h
        refine lv_iinc (v := (x5 + 1)) (lv' := [(5, .int (x5 + 1)), (4, .int (t1 - t0)), (0, .ref g0), (1, .int x1), (2, .int x2), (3, .int x3), (6, .int x6)]) hx hb dX2_recordsThatFit_85 hl (k := 5) rfl rfl (by decide) rfl (fun ls hl => ?_)
        exact J88 x1 x2 x3 (t1 - t0) (x5 + 1) x6 h _ (lv_sub hl [2, 3, 4, 5, 1, 0, 6] rfl)
      · have h := (if_neg c1).symm.trans h
        exact (hE _ (Option.some.inj h)).1 rfl _ (lv_sub hl [5] rfl)
    have J60 : ∀ (x1 : Int32) (x2 : Int32) (x3 : Int32) (x4 : Int32) (x5 : Int32) (x6 : Int32) (x7 : Int32) , fX2_recordsThatFit_j60 u x1 x2 x3 x4 x5 x6 x7 = some z → ∀ ls : Array Slot, lv_has ls 8 [(0, .ref g0), (1, .int x1), (2, .int x2), (3, .int x3), (4, .int x4), (5, .int x5), (6, .int x6), (7, .int x7)] → W p l e rmX2_recordsThatFit s m args below meth c s.heap [] 0 0 Q (F0 m 60 ls []) := by
      intro x1 x2 x3 x4 x5 x6 x7 h
      unfold fX2_recordsThatFit_j60 at h
      intro ls hl
      refine lv_iload hx hb dX2_recordsThatFit_60 (lv_at hl 4 rfl) ?_
      refine lv_iload hx hb dX2_recordsThatFit_62 (lv_at hl 7 rfl) ?_
      refine lv_if_eq (tgt := 73) hx hb dX2_recordsThatFit_64 (by decide) (fun c2 => ?_) (fun c2 => ?_)
      · have h := (if_pos c2).symm.trans h
        refine lv_iload_n hx hb dX2_recordsThatFit_73 rfl (lv_at hl 2 rfl) ?_
        exact J74 x1 x2 x3 x5 x6 x2 x4 h _ (lv_sub hl [0, 1, 2, 3, 5, 6] rfl)
      · have h := (if_neg c2).symm.trans h
        refine lv_iload_n hx hb dX2_recordsThatFit_67 rfl (lv_at hl 2 rfl) ?_
        refine lv_iconst (v := 2) hx hb dX2_recordsThatFit_68 (by decide) ?_
        refine lv_iadd hx hb dX2_recordsThatFit_69 ?_
        refine lv_goto (tgt := 74) hx hb dX2_recordsThatFit_70 (by decide) ?_
        exact J74 x1 x2 x3 x5 x6 (x2 + (2 : Int32)) x4 h _ (lv_sub hl [0, 1, 2, 3, 5, 6] rfl)
    have J40 : ∀ (x1 : Int32) (x2 : Int32) (x3 : Int32) (x4 : Int32) (x5 : Int32) (x6 : Int32) (t0 : Int32) , fX2_recordsThatFit_j40 u x1 x2 x3 x4 x5 x6 t0 = some z → ∀ ls : Array Slot, lv_has ls 8 [(0, .ref g0), (1, .int x1), (2, .int x2), (3, .int x3), (4, .int x4), (5, .int x5), (6, .int x6)] → W p l e rmX2_recordsThatFit s m args below meth c s.heap [] 0 0 Q (F0 m 40 ls [.int t0]) := by
      intro x1 x2 x3 x4 x5 x6 t0 h
      unfold fX2_recordsThatFit_j40 at h
      intro ls hl
      refine lv_istore (lv' := [(7, .int t0), (0, .ref g0), (1, .int x1), (2, .int x2), (3, .int x3), (4, .int x4), (5, .int x5), (6, .int x6)]) hx hb dX2_recordsThatFit_40 hl (by decide) rfl (fun ls hl => ?_)
      refine lv_iload hx hb dX2_recordsThatFit_42 (lv_at hl 0 rfl) ?_
      refine lv_if_ne (tgt := 60) hx hb dX2_recordsThatFit_44 (by decide) (fun c3 => ?_) (fun c3 => ?_)
      · have h := (if_neg c3).symm.trans h
        exact J60 x1 x2 x3 x4 x5 x6 t0 h _ (lv_sub hl [1, 2, 3, 4, 5, 6, 7, 0] rfl)
      · have h := (if_pos c3).symm.trans h
        refine lv_aload_n hx hb dX2_recordsThatFit_47 rfl (lv_at hl 1 rfl) ?_
        refine gf_X2_12 S hK hN hP 0 rfl (v := .ref g1) rfl dX2_recordsThatFit_48 ?_
        refine lv_iload_n hx hb dX2_recordsThatFit_51 rfl (lv_at hl 2 rfl) ?_
        refine lv_iload hx hb dX2_recordsThatFit_52 (lv_at hl 7 rfl) ?_
        obtain ⟨z4, e_z4, h⟩ := bnd h
        refine roI (cc_X2_34 g1 g2 S hK hN (hP.sub [1, 2] rfl) e_z4 hl.1 (Nat.le_of_ble_eq_true rfl) ⟨Nat.le_of_ble_eq_true rfl, Nat.le_of_ble_eq_true rfl⟩ dX2_recordsThatFit_54 ⟨Nat.le_of_ble_eq_true rfl, Nat.le_of_ble_eq_true rfl⟩) ?_
        refine lv_if_ne (tgt := 88) hx hb dX2_recordsThatFit_57 (by decide) (fun c5 => ?_) (fun c5 => ?_)
        · have h := (if_neg c5).symm.trans h
          exact J88 x1 x2 x3 x4 x5 x6 h _ (lv_sub hl [1, 2, 3, 4, 5, 6, 7] rfl)
        · have h := (if_pos c5).symm.trans h
          exact J60 x1 x2 x3 x4 x5 x6 t0 h _ (lv_sub hl [1, 2, 3, 4, 5, 6, 7, 0] rfl)
    intro ls hl
    refine lv_iload hx hb dX2_recordsThatFit_22 (lv_at hl 6 rfl) ?_
    refine lv_bipush (v := 31) hx hb dX2_recordsThatFit_24 (by decide) ?_
    refine lv_icmp_ge (tgt := 94) hx hb dX2_recordsThatFit_26 (by decide) (fun c6 => ?_) (fun c6 => ?_)
    · have h := (if_pos c6).symm.trans h
      exact (hE _ (Option.some.inj h)).2 (fun q => nomatch q) _ (lv_sub hl [5] rfl)
    · have h := (if_neg c6).symm.trans h
      refine lv_iload hx hb dX2_recordsThatFit_29 (lv_at hl 6 rfl) ?_
      refine lv_iload_n hx hb dX2_recordsThatFit_31 rfl (lv_at hl 3 rfl) ?_
      refine lv_icmp_lt (tgt := 39) hx hb dX2_recordsThatFit_32 (by decide) (fun c7 => ?_) (fun c7 => ?_)
      · have h := (if_pos c7).symm.trans h
        refine lv_iconst (v := 0) hx hb dX2_recordsThatFit_39 (by decide) ?_
        exact J40 x1 x2 x3 x4 x5 x6 (0 : Int32) h _ (lv_sub hl [0, 1, 2, 3, 4, 5, 6] rfl)
      · have h := (if_neg c7).symm.trans h
        refine lv_iconst (v := 1) hx hb dX2_recordsThatFit_35 (by decide) ?_
        refine lv_goto (tgt := 40) hx hb dX2_recordsThatFit_36 (by decide) ?_
        exact J40 x1 x2 x3 x4 x5 x6 (1 : Int32) h _ (lv_sub hl [0, 1, 2, 3, 4, 5, 6] rfl)
  refine lv_aload_n hx hb dX2_recordsThatFit_0 rfl (lv_at hl 0 rfl) ?_
  refine gf_X2_12 S hK hN hP 0 rfl (v := .ref g1) rfl dX2_recordsThatFit_1 ?_
  refine lv_iload_n hx hb dX2_recordsThatFit_4 rfl (lv_at hl 1 rfl) ?_
  obtain ⟨z8, e_z8, h⟩ := bnd h
  refine roI (cc_X2_27 g1 g2 S hK hN (hP.sub [1, 2] rfl) e_z8 hl.1 (Nat.le_of_ble_eq_true rfl) ⟨Nat.le_of_ble_eq_true rfl, Nat.le_of_ble_eq_true rfl⟩ dX2_recordsThatFit_5 ⟨Nat.le_of_ble_eq_true rfl, Nat.le_of_ble_eq_true rfl⟩) ?_
  refine lv_istore_n (lv' := [(3, .int z8), (0, .ref g0), (1, .int p0), (2, .int p1)]) hx hb dX2_recordsThatFit_8 rfl hl (by decide) rfl (fun ls hl => ?_)
  refine lv_aload_n hx hb dX2_recordsThatFit_9 rfl (lv_at hl 1 rfl) ?_
  refine lv_iload_n hx hb dX2_recordsThatFit_10 rfl (lv_at hl 2 rfl) ?_
  obtain ⟨z9, e_z9, h⟩ := bnd h
  refine roI (cc_X2_38 g0 g1 g2 g3 g4 S hK hN hP e_z9 hl.1 (Nat.le_of_ble_eq_true rfl) ⟨Nat.le_of_ble_eq_true rfl, Nat.le_of_ble_eq_true rfl⟩ dX2_recordsThatFit_11 ⟨Nat.le_of_ble_eq_true rfl, Nat.le_of_ble_eq_true rfl⟩) ?_
  refine lv_istore (lv' := [(4, .int z9), (3, .int z8), (0, .ref g0), (1, .int p0), (2, .int p1)]) hx hb dX2_recordsThatFit_14 hl (by decide) rfl (fun ls hl => ?_)
  refine lv_iconst (v := 0) hx hb dX2_recordsThatFit_16 (by decide) ?_
  refine lv_istore (lv' := [(5, .int (0 : Int32)), (4, .int z9), (3, .int z8), (0, .ref g0), (1, .int p0), (2, .int p1)]) hx hb dX2_recordsThatFit_17 hl (by decide) rfl (fun ls hl => ?_)
  refine lv_iconst (v := 0) hx hb dX2_recordsThatFit_19 (by decide) ?_
  refine lv_istore (lv' := [(6, .int (0 : Int32)), (5, .int (0 : Int32)), (4, .int z9), (3, .int z8), (0, .ref g0), (1, .int p0), (2, .int p1)]) hx hb dX2_recordsThatFit_20 hl (by decide) rfl (fun ls hl => ?_)
  obtain ⟨b10, e_b10, h⟩ := bnd h
  refine L22 _ _ _ e_b10 ⟨?_, ?_⟩ _ (lv_sub hl [4, 5, 6, 3, 2, 1, 0] rfl)
  · skip
    intro c11
    have h := (if_pos c11).symm.trans h
    intro ls hl
    refine lv_iload hx hb dX2_recordsThatFit_82 (lv_at hl 0 rfl) ?_
    exact retR hQ S hr hlocks h dX2_recordsThatFit_84
  · intro c12
    have h := (if_neg c12).symm.trans h
    intro ls hl
    refine lv_iload hx hb dX2_recordsThatFit_94 (lv_at hl 0 rfl) ?_
    exact retR hQ S hr hlocks h dX2_recordsThatFit_96

theorem cc_X2_59 {p : Program} {l : Launch} {e : Env} {R : Room} {s : State} {m : MethodId} {args : Array Value} {below : List Frame} {meth : Method} {c : Code} {H : Heap} {locs : List Loc} {cells slots : Nat} {cc : ByteArray} {pc nL : Nat} {ls : Array Slot} {rest : List Value} {G : va_G} (g0 g1 : Nat) {cI cS : ClassId} {u : TS}  {p0 : Int32} {p1 : Int32} {r : Int32} (S : CallFix p m c cc nL s args bw RX2) (hK : va_K G vwCl (tysW cI cS) s) (hN : NW s) (hP : va_P G vwCl (wS cI g0 g1 u) H) (hf : fX3_offsetOf u p0 p1 = some r) (hsz : ls.size = nL) (hst : (rest.map fun v => v.category).sum ≤ 8) (hR : rmX3_offsetOf.frames + 1 ≤ R.frames ∧ 8 + (4 + 11) + rmX3_offsetOf.locals ≤ R.locals) (hdg : decode cc pc = .ok (.invokevirtual 59, 3)) (hcs : cells + 0 ≤ R.cells ∧ slots + 0 ≤ R.slots) : va_Run p l e R s m args below meth c H locs cells slots 0 0 (F0 m pc ls (.int p1 :: .int p0 :: .ref g0 :: rest)) rest (vp_Si (fun r' => r' = r) (#[.ref g0, .int p0, .int p1] : Array Value)) (fun _ => False) :=
  va_runVN (As := [.int p0, .int p1]) (rest := rest) S (kX3_offsetOf l G cI cS g0 g1 u p0 p1 r hf) ⟨va_cnB 2 S.2.2.2.2 (gdC q_75) rfl rfl rfl (hN _ nq_39) (S.2.2.2.2 _ q_35) (by decide +kernel) hR, S.2.2.2.2 _ q_80, S.2.2.2.2 _ q_81⟩ (pvR (q := (RX3, TX3, 5)) hK hN hP (ci := 3) (q0 := 0) rfl rfl) rfl rfl hsz rfl (lv_room hst) hdg hcs
def fX2_eraseRecord_j133 (u : TP) (x1 : Int32) (x5 : Int32) (x6 : Int32) (x7 : Int32) : Option ((TP × Int32 × Int32 × Int32 × Int32) ⊕ (TP × Int32 × Int32)) := some (.inl (u, x1, x5, x6, (x7 + 1)))
def fX2_eraseRecord_s96 (u : TP) (x1 : Int32) (x5 : Int32) (x6 : Int32) (x7 : Int32) : Option ((TP × Int32 × Int32 × Int32 × Int32) ⊕ (TP × Int32 × Int32)) := (if x5 ≤ x7 then some (.inr (u, x1, x6)) else ((fX3_sizeOf u.1 x1 x7).bind fun z2 => (if z2 ≤ 0 then fX2_eraseRecord_j133 u x1 x5 x6 x7 else ((fX3_offsetOf u.1 x1 x7).bind fun z4 => fX2_eraseRecord_j133 u x1 x5 (if z4 < x6 then z4 else x6) x7))))
def fX2_eraseRecord_s24 (u : TP) (x1 : Int32) (x2 : Int32) (x3 : Int32) (x4 : Int32) (x5 : Int32) : Option ((TP × Int32 × Int32 × Int32 × Int32 × Int32) ⊕ (TP × Int32 × Int32)) := (if x4 ≤ x5 then some (.inr (u, x1, x2)) else ((fX3_setByte u.1 x1 (x3 + x5) (0 : Int32)).bind fun z6 => some (.inl ((z6, u.2), x1, x2, x3, x4, (x5 + 1)))))
def fX2_eraseRecord (u : TP) (p0 : Int32) (p1 : Int32) : Option (TP) := ((fX3_offsetOf u.1 p0 p1).bind fun z7 => ((fX3_sizeOf u.1 p0 p1).bind fun z8 => ((itr (fun a : TP × Int32 × Int32 × Int32 × Int32 × Int32 => fX2_eraseRecord_s24 a.1 a.2.1 a.2.2.1 a.2.2.2.1 a.2.2.2.2.1 a.2.2.2.2.2) FU (u, p0, p1, z7, z8, (0 : Int32))).bind fun b9 => ((fX4_slotOffset b9.2.2).bind fun z10 => ((fX3_setByte b9.1.1 b9.2.1 z10 (0 : Int32)).bind fun z11 => ((fX4_slotOffset b9.2.2).bind fun z12 => ((fX3_setByte z11 b9.2.1 (z12 + (1 : Int32)) (0 : Int32)).bind fun z13 => ((fX3_slotCount z13 b9.2.1).bind fun z14 => ((itr (fun a : TP × Int32 × Int32 × Int32 × Int32 => fX2_eraseRecord_s96 a.1 a.2.1 a.2.2.1 a.2.2.2.1 a.2.2.2.2) FU ((z13, b9.1.2), b9.2.1, z14, (128 : Int32), (0 : Int32))).bind fun b15 => ((fX3_setByte b15.1.1 b15.2.1 (1 : Int32) b15.2.2).bind fun z16 => some (z16, b15.1.2)))))))))))
abbrev rmX2_eraseRecord : Room := { frames := 1, cells := 0, slots := 0, locals := 40 }
set_option maxRecDepth 100000 in
set_option maxHeartbeats 4000000 in
theorem kX2_eraseRecord (l : Launch) (G : va_G) (cI cS : ClassId) (g0 g1 g2 g3 g4 : Nat) (sz : Nat) (u : TP) (p0 : Int32) (p1 : Int32) (r : TP) (hf : fX2_eraseRecord u p0 p1 = some r) : Met l yX2_eraseRecord (.code yX2_eraseRecord cX2_eraseRecord 8 none :: bw) rmX2_eraseRecord (va_Pc [.ref g0, .int p0, .int p1] (PreM G (tysW cI cS) (wP cI g0 g1 g2 g3 g4 u) sz)) (va_Qv (fun u' => u' = r) (PoM G (tysW cI cS) (va_A (wP cI g0 g1 g2 g3 g4 u) sz) (wP cI g0 g1 g2 g3 g4)) (va_A (wP cI g0 g1 g2 g3 g4 u) sz)) 0 0 (va_A (wP cI g0 g1 g2 g3 g4 u) sz) := by
  refine enterM (own := RX2) (by decide) rfl (Nat.le_of_ble_eq_true rfl) ?_
  intro p e s m args below meth c A Q hAe hQ S hr hlocks hP hK hN hD hA hS ls hl
  rw [hAe] at hQ
  have hx := S.1; have hb := S.2.1; have hml := S.2.2.1; have hown := S.2.2.2.1; have hq := S.2.2.2.2
  have hl : lv_has ls 8 [(0, .ref g0), (1, .int p0), (2, .int p1)] := hl
  have h := hf
  unfold fX2_eraseRecord at h
  have L96 : ∀ (n9 : Nat) (a9 : TP × Int32 × Int32 × Int32 × Int32) (b9 : TP × Int32 × Int32), itr (fun a : TP × Int32 × Int32 × Int32 × Int32 => fX2_eraseRecord_s96 a.1 a.2.1 a.2.2.1 a.2.2.2.1 a.2.2.2.2) n9 a9 = some b9 → (fun b : TP × Int32 × Int32 => ∀ (H : Heap) (locs : List Loc), va_P G vwCl (wP cI g0 g1 g2 g3 g4 b.1) H → va_D A (wP cI g0 g1 g2 g3 g4 b.1) → va_S A s.heap H locs → ∀ ls : Array Slot, lv_has ls 8 [(0, .ref g0), (1, .int b.2.1), (6, .int b.2.2)] → W p l e rmX2_eraseRecord s m args below meth c H locs 0 0 Q (F0 m 139 ls [])) b9 → (fun a : TP × Int32 × Int32 × Int32 × Int32 => ∀ (H : Heap) (locs : List Loc), va_P G vwCl (wP cI g0 g1 g2 g3 g4 a.1) H → va_D A (wP cI g0 g1 g2 g3 g4 a.1) → va_S A s.heap H locs → ∀ ls : Array Slot, lv_has ls 8 [(0, .ref g0), (1, .int a.2.1), (5, .int a.2.2.1), (6, .int a.2.2.2.1), (7, .int a.2.2.2.2)] → W p l e rmX2_eraseRecord s m args below meth c H locs 0 0 Q (F0 m 96 ls [])) a9 := by
    refine itr_ind (Inv := (fun a : TP × Int32 × Int32 × Int32 × Int32 => ∀ (H : Heap) (locs : List Loc), va_P G vwCl (wP cI g0 g1 g2 g3 g4 a.1) H → va_D A (wP cI g0 g1 g2 g3 g4 a.1) → va_S A s.heap H locs → ∀ ls : Array Slot, lv_has ls 8 [(0, .ref g0), (1, .int a.2.1), (5, .int a.2.2.1), (6, .int a.2.2.2.1), (7, .int a.2.2.2.2)] → W p l e rmX2_eraseRecord s m args below meth c H locs 0 0 Q (F0 m 96 ls []))) (Ex := (fun b : TP × Int32 × Int32 => ∀ (H : Heap) (locs : List Loc), va_P G vwCl (wP cI g0 g1 g2 g3 g4 b.1) H → va_D A (wP cI g0 g1 g2 g3 g4 b.1) → va_S A s.heap H locs → ∀ ls : Array Slot, lv_has ls 8 [(0, .ref g0), (1, .int b.2.1), (6, .int b.2.2)] → W p l e rmX2_eraseRecord s m args below meth c H locs 0 0 Q (F0 m 139 ls []))) ?_
    rintro ⟨u, x1, x5, x6, x7⟩ z h hI hE
    have h : fX2_eraseRecord_s96 u x1 x5 x6 x7 = some z := h
    unfold fX2_eraseRecord_s96 at h
    show ∀ (H : Heap) (locs : List Loc), va_P G vwCl (wP cI g0 g1 g2 g3 g4 u) H → va_D A (wP cI g0 g1 g2 g3 g4 u) → va_S A s.heap H locs → ∀ ls : Array Slot, lv_has ls 8 [(0, .ref g0), (1, .int x1), (5, .int x5), (6, .int x6), (7, .int x7)] → W p l e rmX2_eraseRecord s m args below meth c H locs 0 0 Q (F0 m 96 ls [])
    have J133 : ∀ (u : TP) (x1 : Int32) (x5 : Int32) (x6 : Int32) (x7 : Int32) , fX2_eraseRecord_j133 u x1 x5 x6 x7 = some z → ∀ (H : Heap) (locs : List Loc), va_P G vwCl (wP cI g0 g1 g2 g3 g4 u) H → va_D A (wP cI g0 g1 g2 g3 g4 u) → va_S A s.heap H locs → ∀ ls : Array Slot, lv_has ls 8 [(0, .ref g0), (1, .int x1), (5, .int x5), (6, .int x6), (7, .int x7)] → W p l e rmX2_eraseRecord s m args below meth c H locs 0 0 Q (F0 m 133 ls []) := by
      intro u x1 x5 x6 x7 h
      unfold fX2_eraseRecord_j133 at h
      intro H locs hP hD hS ls hl
      refine lv_iinc (v := (x7 + 1)) (lv' := [(7, .int (x7 + 1)), (0, .ref g0), (1, .int x1), (5, .int x5), (6, .int x6)]) hx hb dX2_eraseRecord_133 hl (k := 4) rfl rfl (by decide) rfl (fun ls hl => ?_)
      refine lv_goto (tgt := 96) hx hb dX2_eraseRecord_136 (by decide) ?_
      exact hI _ (Option.some.inj h) _ _ hP hD hS _ (lv_sub hl [1, 2, 3, 4, 0] rfl)
    intro H locs hP hD hS ls hl
    refine lv_iload hx hb dX2_eraseRecord_96 (lv_at hl 4 rfl) ?_
    refine lv_iload hx hb dX2_eraseRecord_98 (lv_at hl 2 rfl) ?_
    refine lv_icmp_ge (tgt := 139) hx hb dX2_eraseRecord_100 (by decide) (fun c1 => ?_) (fun c1 => ?_)
    · have h := (if_pos c1).symm.trans h
      exact hE _ (Option.some.inj h) _ _ hP hD hS _ (lv_sub hl [0, 1, 3] rfl)
    · have h := (if_neg c1).symm.trans h
      refine lv_aload_n hx hb dX2_eraseRecord_103 rfl (lv_at hl 0 rfl) ?_
      refine gf_X2_12 S hK hN hP 0 rfl (v := .ref g1) rfl dX2_eraseRecord_104 ?_
      refine lv_iload_n hx hb dX2_eraseRecord_107 rfl (lv_at hl 1 rfl) ?_
      refine lv_iload hx hb dX2_eraseRecord_108 (lv_at hl 4 rfl) ?_
      obtain ⟨z2, e_z2, h⟩ := bnd h
      refine roI (cc_X2_34 g1 g2 S hK hN (hP.sub [1, 2] rfl) e_z2 hl.1 (Nat.le_of_ble_eq_true rfl) ⟨Nat.le_of_ble_eq_true rfl, Nat.le_of_ble_eq_true rfl⟩ dX2_eraseRecord_110 ⟨Nat.le_of_ble_eq_true rfl, Nat.le_of_ble_eq_true rfl⟩) ?_
      refine lv_if_le (tgt := 133) hx hb dX2_eraseRecord_113 (by decide) (fun c3 => ?_) (fun c3 => ?_)
      · have h := (if_pos c3).symm.trans h
        exact J133 u x1 x5 x6 x7 h _ _ hP hD hS _ (lv_sub hl [0, 1, 2, 3, 4] rfl)
      · have h := (if_neg c3).symm.trans h
        refine lv_iload hx hb dX2_eraseRecord_116 (lv_at hl 3 rfl) ?_
        refine lv_aload_n hx hb dX2_eraseRecord_118 rfl (lv_at hl 0 rfl) ?_
        refine gf_X2_12 S hK hN hP 0 rfl (v := .ref g1) rfl dX2_eraseRecord_119 ?_
        refine lv_iload_n hx hb dX2_eraseRecord_122 rfl (lv_at hl 1 rfl) ?_
        refine lv_iload hx hb dX2_eraseRecord_123 (lv_at hl 4 rfl) ?_
        obtain ⟨z4, e_z4, h⟩ := bnd h
        refine roI (cc_X2_59 g1 g2 S hK hN (hP.sub [1, 2] rfl) e_z4 hl.1 (Nat.le_of_ble_eq_true rfl) ⟨Nat.le_of_ble_eq_true rfl, Nat.le_of_ble_eq_true rfl⟩ dX2_eraseRecord_125 ⟨Nat.le_of_ble_eq_true rfl, Nat.le_of_ble_eq_true rfl⟩) ?_
        refine va_mmin hx hb (by rw [hml]; exact hl.1.symm) hown (hq _ q_77) (hq _ q_78) (hq _ q_6) (hq _ q_79) (Nat.le_of_ble_eq_true rfl) (Nat.le_of_ble_eq_true rfl) (Nat.le_of_ble_eq_true rfl) (Nat.le_of_ble_eq_true rfl) dX2_eraseRecord_128 ?_
        refine lv_istore (lv' := [(6, .int (if z4 < x6 then z4 else x6)), (0, .ref g0), (1, .int x1), (5, .int x5), (7, .int x7)]) hx hb dX2_eraseRecord_131 hl (by decide) rfl (fun ls hl => ?_)
        exact J133 u x1 x5 (if z4 < x6 then z4 else x6) x7 h _ _ hP hD hS _ (lv_sub hl [1, 2, 3, 0, 4] rfl)
  have L24 : ∀ (n9 : Nat) (a9 : TP × Int32 × Int32 × Int32 × Int32 × Int32) (b9 : TP × Int32 × Int32), itr (fun a : TP × Int32 × Int32 × Int32 × Int32 × Int32 => fX2_eraseRecord_s24 a.1 a.2.1 a.2.2.1 a.2.2.2.1 a.2.2.2.2.1 a.2.2.2.2.2) n9 a9 = some b9 → (fun b : TP × Int32 × Int32 => ∀ (H : Heap) (locs : List Loc), va_P G vwCl (wP cI g0 g1 g2 g3 g4 b.1) H → va_D A (wP cI g0 g1 g2 g3 g4 b.1) → va_S A s.heap H locs → ∀ ls : Array Slot, lv_has ls 8 [(0, .ref g0), (1, .int b.2.1), (2, .int b.2.2)] → W p l e rmX2_eraseRecord s m args below meth c H locs 0 0 Q (F0 m 50 ls [])) b9 → (fun a : TP × Int32 × Int32 × Int32 × Int32 × Int32 => ∀ (H : Heap) (locs : List Loc), va_P G vwCl (wP cI g0 g1 g2 g3 g4 a.1) H → va_D A (wP cI g0 g1 g2 g3 g4 a.1) → va_S A s.heap H locs → ∀ ls : Array Slot, lv_has ls 8 [(0, .ref g0), (1, .int a.2.1), (2, .int a.2.2.1), (3, .int a.2.2.2.1), (4, .int a.2.2.2.2.1), (5, .int a.2.2.2.2.2)] → W p l e rmX2_eraseRecord s m args below meth c H locs 0 0 Q (F0 m 24 ls [])) a9 := by
    refine itr_ind (Inv := (fun a : TP × Int32 × Int32 × Int32 × Int32 × Int32 => ∀ (H : Heap) (locs : List Loc), va_P G vwCl (wP cI g0 g1 g2 g3 g4 a.1) H → va_D A (wP cI g0 g1 g2 g3 g4 a.1) → va_S A s.heap H locs → ∀ ls : Array Slot, lv_has ls 8 [(0, .ref g0), (1, .int a.2.1), (2, .int a.2.2.1), (3, .int a.2.2.2.1), (4, .int a.2.2.2.2.1), (5, .int a.2.2.2.2.2)] → W p l e rmX2_eraseRecord s m args below meth c H locs 0 0 Q (F0 m 24 ls []))) (Ex := (fun b : TP × Int32 × Int32 => ∀ (H : Heap) (locs : List Loc), va_P G vwCl (wP cI g0 g1 g2 g3 g4 b.1) H → va_D A (wP cI g0 g1 g2 g3 g4 b.1) → va_S A s.heap H locs → ∀ ls : Array Slot, lv_has ls 8 [(0, .ref g0), (1, .int b.2.1), (2, .int b.2.2)] → W p l e rmX2_eraseRecord s m args below meth c H locs 0 0 Q (F0 m 50 ls []))) ?_
    rintro ⟨u, x1, x2, x3, x4, x5⟩ z h hI hE
    have h : fX2_eraseRecord_s24 u x1 x2 x3 x4 x5 = some z := h
    unfold fX2_eraseRecord_s24 at h
    show ∀ (H : Heap) (locs : List Loc), va_P G vwCl (wP cI g0 g1 g2 g3 g4 u) H → va_D A (wP cI g0 g1 g2 g3 g4 u) → va_S A s.heap H locs → ∀ ls : Array Slot, lv_has ls 8 [(0, .ref g0), (1, .int x1), (2, .int x2), (3, .int x3), (4, .int x4), (5, .int x5)] → W p l e rmX2_eraseRecord s m args below meth c H locs 0 0 Q (F0 m 24 ls [])
    intro H locs hP hD hS ls hl
    refine lv_iload hx hb dX2_eraseRecord_24 (lv_at hl 5 rfl) ?_
    refine lv_iload hx hb dX2_eraseRecord_26 (lv_at hl 4 rfl) ?_
    refine lv_icmp_ge (tgt := 50) hx hb dX2_eraseRecord_28 (by decide) (fun c5 => ?_) (fun c5 => ?_)
    · have h := (if_pos c5).symm.trans h
      exact hE _ (Option.some.inj h) _ _ hP hD hS _ (lv_sub hl [0, 1, 2] rfl)
    · have h := (if_neg c5).symm.trans h
      refine lv_aload_n hx hb dX2_eraseRecord_31 rfl (lv_at hl 0 rfl) ?_
      refine gf_X2_12 S hK hN hP 0 rfl (v := .ref g1) rfl dX2_eraseRecord_32 ?_
      refine lv_iload_n hx hb dX2_eraseRecord_35 rfl (lv_at hl 1 rfl) ?_
      refine lv_iload_n hx hb dX2_eraseRecord_36 rfl (lv_at hl 3 rfl) ?_
      refine lv_iload hx hb dX2_eraseRecord_37 (lv_at hl 5 rfl) ?_
      refine lv_iadd hx hb dX2_eraseRecord_39 ?_
      refine lv_iconst (v := 0) hx hb dX2_eraseRecord_40 (by decide) ?_
      obtain ⟨z6, e_z6, h⟩ := bnd h
      refine mjv (cc_X2_55 g1 g2 S hK hN (hP.sub [1, 2] rfl) (hD.sub [1, 2] (by decide) rfl) e_z6 hl.1 (Nat.le_of_ble_eq_true rfl) ⟨Nat.le_of_ble_eq_true rfl, Nat.le_of_ble_eq_true rfl⟩ dX2_eraseRecord_41 ⟨Nat.le_of_ble_eq_true rfl, Nat.le_of_ble_eq_true rfl⟩) hS hP hD hA [1, 2] [0, 3, 4] rfl rfl (by decide) (by decide) [0, 3, 4, 1, 2] (by decide) (wP cI g0 g1 g2 g3 g4 (z6, u.2)) rfl (fun H locs hP hD hS => ?_)
      refine lv_iinc (v := (x5 + 1)) (lv' := [(5, .int (x5 + 1)), (0, .ref g0), (1, .int x1), (2, .int x2), (3, .int x3), (4, .int x4)]) hx hb dX2_eraseRecord_44 hl (k := 5) rfl rfl (by decide) rfl (fun ls hl => ?_)
      refine lv_goto (tgt := 24) hx hb dX2_eraseRecord_47 (by decide) ?_
      exact hI _ (Option.some.inj h) _ _ hP hD hS _ (lv_sub hl [1, 2, 3, 4, 5, 0] rfl)
  refine lv_aload_n hx hb dX2_eraseRecord_0 rfl (lv_at hl 0 rfl) ?_
  refine gf_X2_12 S hK hN hP 0 rfl (v := .ref g1) rfl dX2_eraseRecord_1 ?_
  refine lv_iload_n hx hb dX2_eraseRecord_4 rfl (lv_at hl 1 rfl) ?_
  refine lv_iload_n hx hb dX2_eraseRecord_5 rfl (lv_at hl 2 rfl) ?_
  obtain ⟨z7, e_z7, h⟩ := bnd h
  refine roI (cc_X2_59 g1 g2 S hK hN (hP.sub [1, 2] rfl) e_z7 hl.1 (Nat.le_of_ble_eq_true rfl) ⟨Nat.le_of_ble_eq_true rfl, Nat.le_of_ble_eq_true rfl⟩ dX2_eraseRecord_6 ⟨Nat.le_of_ble_eq_true rfl, Nat.le_of_ble_eq_true rfl⟩) ?_
  refine lv_istore_n (lv' := [(3, .int z7), (0, .ref g0), (1, .int p0), (2, .int p1)]) hx hb dX2_eraseRecord_9 rfl hl (by decide) rfl (fun ls hl => ?_)
  refine lv_aload_n hx hb dX2_eraseRecord_10 rfl (lv_at hl 1 rfl) ?_
  refine gf_X2_12 S hK hN hP 0 rfl (v := .ref g1) rfl dX2_eraseRecord_11 ?_
  refine lv_iload_n hx hb dX2_eraseRecord_14 rfl (lv_at hl 2 rfl) ?_
  refine lv_iload_n hx hb dX2_eraseRecord_15 rfl (lv_at hl 3 rfl) ?_
  obtain ⟨z8, e_z8, h⟩ := bnd h
  refine roI (cc_X2_34 g1 g2 S hK hN (hP.sub [1, 2] rfl) e_z8 hl.1 (Nat.le_of_ble_eq_true rfl) ⟨Nat.le_of_ble_eq_true rfl, Nat.le_of_ble_eq_true rfl⟩ dX2_eraseRecord_16 ⟨Nat.le_of_ble_eq_true rfl, Nat.le_of_ble_eq_true rfl⟩) ?_
  refine lv_istore (lv' := [(4, .int z8), (3, .int z7), (0, .ref g0), (1, .int p0), (2, .int p1)]) hx hb dX2_eraseRecord_19 hl (by decide) rfl (fun ls hl => ?_)
  refine lv_iconst (v := 0) hx hb dX2_eraseRecord_21 (by decide) ?_
  refine lv_istore (lv' := [(5, .int (0 : Int32)), (4, .int z8), (3, .int z7), (0, .ref g0), (1, .int p0), (2, .int p1)]) hx hb dX2_eraseRecord_22 hl (by decide) rfl (fun ls hl => ?_)
  obtain ⟨b9, e_b9, h⟩ := bnd h
  refine L24 _ _ _ e_b9 ?_ _ _ hP hD hS _ (lv_sub hl [3, 4, 5, 2, 1, 0] rfl)
  intro H locs hP hD hS ls hl
  refine lv_aload_n hx hb dX2_eraseRecord_50 rfl (lv_at hl 0 rfl) ?_
  refine gf_X2_12 S hK hN hP 0 rfl (v := .ref g1) rfl dX2_eraseRecord_51 ?_
  refine lv_iload_n hx hb dX2_eraseRecord_54 rfl (lv_at hl 1 rfl) ?_
  refine lv_iload_n hx hb dX2_eraseRecord_55 rfl (lv_at hl 2 rfl) ?_
  obtain ⟨z10, e_z10, h⟩ := bnd h
  refine roI (cc_X2_31 S hK hN va_P0 e_z10 hl.1 (Nat.le_of_ble_eq_true rfl) ⟨Nat.le_of_ble_eq_true rfl, Nat.le_of_ble_eq_true rfl⟩ dX2_eraseRecord_56 ⟨Nat.le_of_ble_eq_true rfl, Nat.le_of_ble_eq_true rfl⟩) ?_
  refine lv_iconst (v := 0) hx hb dX2_eraseRecord_59 (by decide) ?_
  obtain ⟨z11, e_z11, h⟩ := bnd h
  refine mjv (cc_X2_55 g1 g2 S hK hN (hP.sub [1, 2] rfl) (hD.sub [1, 2] (by decide) rfl) e_z11 hl.1 (Nat.le_of_ble_eq_true rfl) ⟨Nat.le_of_ble_eq_true rfl, Nat.le_of_ble_eq_true rfl⟩ dX2_eraseRecord_60 ⟨Nat.le_of_ble_eq_true rfl, Nat.le_of_ble_eq_true rfl⟩) hS hP hD hA [1, 2] [0, 3, 4] rfl rfl (by decide) (by decide) [0, 3, 4, 1, 2] (by decide) (wP cI g0 g1 g2 g3 g4 (z11, b9.1.2)) rfl (fun H locs hP hD hS => ?_)
  refine lv_aload_n hx hb dX2_eraseRecord_63 rfl (lv_at hl 0 rfl) ?_
  refine gf_X2_12 S hK hN hP 0 rfl (v := .ref g1) rfl dX2_eraseRecord_64 ?_
  refine lv_iload_n hx hb dX2_eraseRecord_67 rfl (lv_at hl 1 rfl) ?_
  refine lv_iload_n hx hb dX2_eraseRecord_68 rfl (lv_at hl 2 rfl) ?_
  obtain ⟨z12, e_z12, h⟩ := bnd h
  refine roI (cc_X2_31 S hK hN va_P0 e_z12 hl.1 (Nat.le_of_ble_eq_true rfl) ⟨Nat.le_of_ble_eq_true rfl, Nat.le_of_ble_eq_true rfl⟩ dX2_eraseRecord_69 ⟨Nat.le_of_ble_eq_true rfl, Nat.le_of_ble_eq_true rfl⟩) ?_
  refine lv_iconst (v := 1) hx hb dX2_eraseRecord_72 (by decide) ?_
  refine lv_iadd hx hb dX2_eraseRecord_73 ?_
  refine lv_iconst (v := 0) hx hb dX2_eraseRecord_74 (by decide) ?_
  obtain ⟨z13, e_z13, h⟩ := bnd h
  refine mjv (cc_X2_55 g1 g2 S hK hN (hP.sub [1, 2] rfl) (hD.sub [1, 2] (by decide) rfl) e_z13 hl.1 (Nat.le_of_ble_eq_true rfl) ⟨Nat.le_of_ble_eq_true rfl, Nat.le_of_ble_eq_true rfl⟩ dX2_eraseRecord_75 ⟨Nat.le_of_ble_eq_true rfl, Nat.le_of_ble_eq_true rfl⟩) hS hP hD hA [1, 2] [0, 3, 4] rfl rfl (by decide) (by decide) [0, 3, 4, 1, 2] (by decide) (wP cI g0 g1 g2 g3 g4 (z13, b9.1.2)) rfl (fun H locs hP hD hS => ?_)
  refine lv_aload_n hx hb dX2_eraseRecord_78 rfl (lv_at hl 0 rfl) ?_
  refine gf_X2_12 S hK hN hP 0 rfl (v := .ref g1) rfl dX2_eraseRecord_79 ?_
  refine lv_iload_n hx hb dX2_eraseRecord_82 rfl (lv_at hl 1 rfl) ?_
  obtain ⟨z14, e_z14, h⟩ := bnd h
  refine roI (cc_X2_27 g1 g2 S hK hN (hP.sub [1, 2] rfl) e_z14 hl.1 (Nat.le_of_ble_eq_true rfl) ⟨Nat.le_of_ble_eq_true rfl, Nat.le_of_ble_eq_true rfl⟩ dX2_eraseRecord_83 ⟨Nat.le_of_ble_eq_true rfl, Nat.le_of_ble_eq_true rfl⟩) ?_
  refine lv_istore (lv' := [(5, .int z14), (0, .ref g0), (1, .int b9.2.1), (2, .int b9.2.2)]) hx hb dX2_eraseRecord_86 hl (by decide) rfl (fun ls hl => ?_)
  refine lv_sipush (v := 128) hx hb dX2_eraseRecord_88 (by decide) ?_
  refine lv_istore (lv' := [(6, .int (128 : Int32)), (5, .int z14), (0, .ref g0), (1, .int b9.2.1), (2, .int b9.2.2)]) hx hb dX2_eraseRecord_91 hl (by decide) rfl (fun ls hl => ?_)
  refine lv_iconst (v := 0) hx hb dX2_eraseRecord_93 (by decide) ?_
  refine lv_istore (lv' := [(7, .int (0 : Int32)), (6, .int (128 : Int32)), (5, .int z14), (0, .ref g0), (1, .int b9.2.1), (2, .int b9.2.2)]) hx hb dX2_eraseRecord_94 hl (by decide) rfl (fun ls hl => ?_)
  obtain ⟨b15, e_b15, h⟩ := bnd h
  refine L96 _ _ _ e_b15 ?_ _ _ hP hD hS _ (lv_sub hl [3, 4, 2, 1, 0] rfl)
  intro H locs hP hD hS ls hl
  refine lv_aload_n hx hb dX2_eraseRecord_139 rfl (lv_at hl 0 rfl) ?_
  refine gf_X2_12 S hK hN hP 0 rfl (v := .ref g1) rfl dX2_eraseRecord_140 ?_
  refine lv_iload_n hx hb dX2_eraseRecord_143 rfl (lv_at hl 1 rfl) ?_
  refine lv_iconst (v := 1) hx hb dX2_eraseRecord_144 (by decide) ?_
  refine lv_iload hx hb dX2_eraseRecord_145 (lv_at hl 2 rfl) ?_
  obtain ⟨z16, e_z16, h⟩ := bnd h
  refine mjv (cc_X2_55 g1 g2 S hK hN (hP.sub [1, 2] rfl) (hD.sub [1, 2] (by decide) rfl) e_z16 hl.1 (Nat.le_of_ble_eq_true rfl) ⟨Nat.le_of_ble_eq_true rfl, Nat.le_of_ble_eq_true rfl⟩ dX2_eraseRecord_147 ⟨Nat.le_of_ble_eq_true rfl, Nat.le_of_ble_eq_true rfl⟩) hS hP hD hA [1, 2] [0, 3, 4] rfl rfl (by decide) (by decide) [0, 3, 4, 1, 2] (by decide) (wP cI g0 g1 g2 g3 g4 (z16, b15.1.2)) rfl (fun H locs hP hD hS => ?_)
  exact retMv hQ S hr hlocks hK hN hP hD hS h dX2_eraseRecord_150

theorem cc_X2_67 {p : Program} {l : Launch} {e : Env} {R : Room} {s : State} {m : MethodId} {args : Array Value} {below : List Frame} {meth : Method} {c : Code} {H : Heap} {locs : List Loc} {cells slots : Nat} {cc : ByteArray} {pc nL : Nat} {ls : Array Slot} {rest : List Value} {G : va_G}  {cI cS : ClassId}  {p0 : Int32} {r : Int32} (S : CallFix p m c cc nL s args bw RX2) (hK : va_K G vwCl (tysW cI cS) s) (hN : NW s) (hP : va_P G vwCl wE H) (hf : fX4_pageIn p0 = some r) (hsz : ls.size = nL) (hst : (rest.map fun v => v.category).sum ≤ 8) (hR : rmX4_pageIn.frames + 1 ≤ R.frames ∧ 8 + (1 + 11) + rmX4_pageIn.locals ≤ R.locals) (hdg : decode cc pc = .ok (.invokestatic 67, 3)) (hcs : cells + 0 ≤ R.cells ∧ slots + 0 ≤ R.slots) : va_Run p l e R s m args below meth c H locs cells slots 0 0 (F0 m pc ls (.int p0 :: rest)) rest (vp_Si (fun r' => r' = r) (#[.int p0] : Array Value)) (fun _ => False) :=
  va_runSN (As := [.int p0]) (rest := rest) S (kX4_pageIn l G cI cS p0 r hf) ⟨va_cnB 1 S.2.2.2.2 (gdC q_82) rfl rfl rfl (hN _ nq_37) (S.2.2.2.2 _ q_49) (by decide +kernel) hR, S.2.2.2.2 _ q_84, trivial⟩ (psR hK hN hP) rfl rfl hsz rfl (lv_room hst) hdg hcs
theorem cc_X2_70 {p : Program} {l : Launch} {e : Env} {R : Room} {s : State} {m : MethodId} {args : Array Value} {below : List Frame} {meth : Method} {c : Code} {H : Heap} {locs : List Loc} {cells slots : Nat} {cc : ByteArray} {pc nL : Nat} {ls : Array Slot} {rest : List Value} {G : va_G}  {cI cS : ClassId}  {p0 : Int32} {r : Int32} (S : CallFix p m c cc nL s args bw RX2) (hK : va_K G vwCl (tysW cI cS) s) (hN : NW s) (hP : va_P G vwCl wE H) (hf : fX4_slotIn p0 = some r) (hsz : ls.size = nL) (hst : (rest.map fun v => v.category).sum ≤ 8) (hR : rmX4_slotIn.frames + 1 ≤ R.frames ∧ 8 + (1 + 11) + rmX4_slotIn.locals ≤ R.locals) (hdg : decode cc pc = .ok (.invokestatic 70, 3)) (hcs : cells + 0 ≤ R.cells ∧ slots + 0 ≤ R.slots) : va_Run p l e R s m args below meth c H locs cells slots 0 0 (F0 m pc ls (.int p0 :: rest)) rest (vp_Si (fun r' => r' = r) (#[.int p0] : Array Value)) (fun _ => False) :=
  va_runSN (As := [.int p0]) (rest := rest) S (kX4_slotIn l G cI cS p0 r hf) ⟨va_cnB 1 S.2.2.2.2 (gdC q_83) rfl rfl rfl (hN _ nq_38) (S.2.2.2.2 _ q_49) (by decide +kernel) hR, S.2.2.2.2 _ q_85, trivial⟩ (psR hK hN hP) rfl rfl hsz rfl (lv_room hst) hdg hcs
theorem cc_X2_73 {p : Program} {l : Launch} {e : Env} {R : Room} {s : State} {m : MethodId} {args : Array Value} {below : List Frame} {meth : Method} {c : Code} {H : Heap} {locs : List Loc} {cells slots : Nat} {cc : ByteArray} {pc nL : Nat} {ls : Array Slot} {rest : List Value} {G : va_G} {A : Nat → Prop} (g0 g1 g2 g3 g4 : Nat) {cI cS : ClassId} {u : TP}  {p0 : Int32} {p1 : Int32} {r : TP} (S : CallFix p m c cc nL s args bw RX2) (hK : va_K G vwCl (tysW cI cS) s) (hN : NW s) (hP : va_P G vwCl (wP cI g0 g1 g2 g3 g4 u) H) (hD : va_D A (wP cI g0 g1 g2 g3 g4 u)) (hf : fX2_eraseRecord u p0 p1 = some r) (hsz : ls.size = nL) (hst : (rest.map fun v => v.category).sum ≤ 8) (hR : rmX2_eraseRecord.frames + 1 ≤ R.frames ∧ 8 + (8 + 11) + rmX2_eraseRecord.locals ≤ R.locals) (hdg : decode cc pc = .ok (.invokevirtual 73, 3)) (hcs : cells + 0 ≤ R.cells ∧ slots + 0 ≤ R.slots) : va_Run p l e R s m args below meth c H locs cells slots 0 0 (F0 m pc ls (.int p1 :: .int p0 :: .ref g0 :: rest)) rest (va_Qv (fun u' => u' = r) (PoM G (tysW cI cS) (va_A (wP cI g0 g1 g2 g3 g4 u) H.size) (wP cI g0 g1 g2 g3 g4)) (va_A (wP cI g0 g1 g2 g3 g4 u) H.size) (#[.ref g0, .int p0, .int p1] : Array Value)) (va_A (wP cI g0 g1 g2 g3 g4 u) H.size) :=
  va_runV (As := [.int p0, .int p1]) (rest := rest) S (kX2_eraseRecord l G cI cS g0 g1 g2 g3 g4 H.size u p0 p1 r hf) (cwV 2 S.2.2.2.2 (gdV q_86 q_87 q_88 q_56 q_76) rfl rfl rfl (by decide +kernel) hR) (pvM (q := (RX2, TX2, 2)) hK hN hP hD (ci := 2) (q0 := 0) rfl rfl) rfl rfl hsz rfl (lv_room hst) hdg hcs
def fX2_removeRecord_j47 (u : TP) (x2 : Int32) (x3 : Int32) : Option (TP) := ((fX3_setByte u.1 x2 (0 : Int32) x3).bind fun z1 => some (z1, u.2))
def fX2_removeRecord_s23 (u : TP) (x2 : Int32) (x3 : Int32) : Option ((TP × Int32 × Int32) ⊕ (TP × Int32 × Int32)) := (if x3 ≤ 0 then some (.inr (u, x2, x3)) else ((fX3_sizeOf u.1 x2 (x3 - (1 : Int32))).bind fun z3 => (if z3 = 0 then some (.inl (u, x2, (x3 + (-1)))) else some (.inr (u, x2, x3)))))
def fX2_removeRecord (u : TP) (p0 : Int32) : Option (TP) := ((fX4_pageIn p0).bind fun z5 => ((fX4_slotIn p0).bind fun z6 => ((fX2_eraseRecord u z5 z6).bind fun z7 => ((fX3_slotCount z7.1 z5).bind fun z8 => ((itr (fun a : TP × Int32 × Int32 => fX2_removeRecord_s23 a.1 a.2.1 a.2.2) FU (z7, z5, z8)).bind fun b9 => fX2_removeRecord_j47 b9.1 b9.2.1 b9.2.2)))))
abbrev rmX2_removeRecord : Room := { frames := 2, cells := 0, slots := 0, locals := 67 }
set_option maxRecDepth 100000 in
set_option maxHeartbeats 4000000 in
theorem kX2_removeRecord (l : Launch) (G : va_G) (cI cS : ClassId) (g0 g1 g2 g3 g4 : Nat) (sz : Nat) (u : TP) (p0 : Int32) (r : TP) (hf : fX2_removeRecord u p0 = some r) : Met l yX2_removeRecord (.code yX2_removeRecord cX2_removeRecord 4 none :: bw) rmX2_removeRecord (va_Pc [.ref g0, .int p0] (PreM G (tysW cI cS) (wP cI g0 g1 g2 g3 g4 u) sz)) (va_Qv (fun u' => u' = r) (PoM G (tysW cI cS) (va_A (wP cI g0 g1 g2 g3 g4 u) sz) (wP cI g0 g1 g2 g3 g4)) (va_A (wP cI g0 g1 g2 g3 g4 u) sz)) 0 0 (va_A (wP cI g0 g1 g2 g3 g4 u) sz) := by
  refine enterM (own := RX2) (by decide) rfl (Nat.le_of_ble_eq_true rfl) ?_
  intro p e s m args below meth c A Q hAe hQ S hr hlocks hP hK hN hD hA hS ls hl
  rw [hAe] at hQ
  have hx := S.1; have hb := S.2.1; have hml := S.2.2.1; have hown := S.2.2.2.1; have hq := S.2.2.2.2
  have hl : lv_has ls 4 [(0, .ref g0), (1, .int p0)] := hl
  have h := hf
  unfold fX2_removeRecord at h
  have J47 : ∀ (u : TP) (x2 : Int32) (x3 : Int32) , fX2_removeRecord_j47 u x2 x3 = some r → ∀ (H : Heap) (locs : List Loc), va_P G vwCl (wP cI g0 g1 g2 g3 g4 u) H → va_D A (wP cI g0 g1 g2 g3 g4 u) → va_S A s.heap H locs → ∀ ls : Array Slot, lv_has ls 4 [(0, .ref g0), (2, .int x2), (3, .int x3)] → W p l e rmX2_removeRecord s m args below meth c H locs 0 0 Q (F0 m 47 ls []) := by
    intro u x2 x3 h
    unfold fX2_removeRecord_j47 at h
    intro H locs hP hD hS ls hl
    refine lv_aload_n hx hb dX2_removeRecord_47 rfl (lv_at hl 0 rfl) ?_
    refine gf_X2_12 S hK hN hP 0 rfl (v := .ref g1) rfl dX2_removeRecord_48 ?_
    refine lv_iload_n hx hb dX2_removeRecord_51 rfl (lv_at hl 1 rfl) ?_
    refine lv_iconst (v := 0) hx hb dX2_removeRecord_52 (by decide) ?_
    refine lv_iload_n hx hb dX2_removeRecord_53 rfl (lv_at hl 2 rfl) ?_
    obtain ⟨z1, e_z1, h⟩ := bnd h
    refine mjv (cc_X2_55 g1 g2 S hK hN (hP.sub [1, 2] rfl) (hD.sub [1, 2] (by decide) rfl) e_z1 hl.1 (Nat.le_of_ble_eq_true rfl) ⟨Nat.le_of_ble_eq_true rfl, Nat.le_of_ble_eq_true rfl⟩ dX2_removeRecord_54 ⟨Nat.le_of_ble_eq_true rfl, Nat.le_of_ble_eq_true rfl⟩) hS hP hD hA [1, 2] [0, 3, 4] rfl rfl (by decide) (by decide) [0, 3, 4, 1, 2] (by decide) (wP cI g0 g1 g2 g3 g4 (z1, u.2)) rfl (fun H locs hP hD hS => ?_)
    exact retMv hQ S hr hlocks hK hN hP hD hS h dX2_removeRecord_57
  have L23 : ∀ (n9 : Nat) (a9 : TP × Int32 × Int32) (b9 : TP × Int32 × Int32), itr (fun a : TP × Int32 × Int32 => fX2_removeRecord_s23 a.1 a.2.1 a.2.2) n9 a9 = some b9 → (fun b : TP × Int32 × Int32 => ∀ (H : Heap) (locs : List Loc), va_P G vwCl (wP cI g0 g1 g2 g3 g4 b.1) H → va_D A (wP cI g0 g1 g2 g3 g4 b.1) → va_S A s.heap H locs → ∀ ls : Array Slot, lv_has ls 4 [(0, .ref g0), (2, .int b.2.1), (3, .int b.2.2)] → W p l e rmX2_removeRecord s m args below meth c H locs 0 0 Q (F0 m 47 ls [])) b9 → (fun a : TP × Int32 × Int32 => ∀ (H : Heap) (locs : List Loc), va_P G vwCl (wP cI g0 g1 g2 g3 g4 a.1) H → va_D A (wP cI g0 g1 g2 g3 g4 a.1) → va_S A s.heap H locs → ∀ ls : Array Slot, lv_has ls 4 [(0, .ref g0), (2, .int a.2.1), (3, .int a.2.2)] → W p l e rmX2_removeRecord s m args below meth c H locs 0 0 Q (F0 m 23 ls [])) a9 := by
    refine itr_ind (Inv := (fun a : TP × Int32 × Int32 => ∀ (H : Heap) (locs : List Loc), va_P G vwCl (wP cI g0 g1 g2 g3 g4 a.1) H → va_D A (wP cI g0 g1 g2 g3 g4 a.1) → va_S A s.heap H locs → ∀ ls : Array Slot, lv_has ls 4 [(0, .ref g0), (2, .int a.2.1), (3, .int a.2.2)] → W p l e rmX2_removeRecord s m args below meth c H locs 0 0 Q (F0 m 23 ls []))) (Ex := (fun b : TP × Int32 × Int32 => ∀ (H : Heap) (locs : List Loc), va_P G vwCl (wP cI g0 g1 g2 g3 g4 b.1) H → va_D A (wP cI g0 g1 g2 g3 g4 b.1) → va_S A s.heap H locs → ∀ ls : Array Slot, lv_has ls 4 [(0, .ref g0), (2, .int b.2.1), (3, .int b.2.2)] → W p l e rmX2_removeRecord s m args below meth c H locs 0 0 Q (F0 m 47 ls []))) ?_
    rintro ⟨u, x2, x3⟩ z h hI hE
    have h : fX2_removeRecord_s23 u x2 x3 = some z := h
    unfold fX2_removeRecord_s23 at h
    show ∀ (H : Heap) (locs : List Loc), va_P G vwCl (wP cI g0 g1 g2 g3 g4 u) H → va_D A (wP cI g0 g1 g2 g3 g4 u) → va_S A s.heap H locs → ∀ ls : Array Slot, lv_has ls 4 [(0, .ref g0), (2, .int x2), (3, .int x3)] → W p l e rmX2_removeRecord s m args below meth c H locs 0 0 Q (F0 m 23 ls [])
    intro H locs hP hD hS ls hl
    refine lv_iload_n hx hb dX2_removeRecord_23 rfl (lv_at hl 2 rfl) ?_
    refine lv_if_le (tgt := 47) hx hb dX2_removeRecord_24 (by decide) (fun c2 => ?_) (fun c2 => ?_)
    · have h := (if_pos c2).symm.trans h
      exact hE _ (Option.some.inj h) _ _ hP hD hS _ (lv_sub hl [0, 1, 2] rfl)
    · have h := (if_neg c2).symm.trans h
      refine lv_aload_n hx hb dX2_removeRecord_27 rfl (lv_at hl 0 rfl) ?_
      refine gf_X2_12 S hK hN hP 0 rfl (v := .ref g1) rfl dX2_removeRecord_28 ?_
      refine lv_iload_n hx hb dX2_removeRecord_31 rfl (lv_at hl 1 rfl) ?_
      refine lv_iload_n hx hb dX2_removeRecord_32 rfl (lv_at hl 2 rfl) ?_
      refine lv_iconst (v := 1) hx hb dX2_removeRecord_33 (by decide) ?_
      refine lv_isub hx hb dX2_removeRecord_34 ?_
      obtain ⟨z3, e_z3, h⟩ := bnd h
      refine roI (cc_X2_34 g1 g2 S hK hN (hP.sub [1, 2] rfl) e_z3 hl.1 (Nat.le_of_ble_eq_true rfl) ⟨Nat.le_of_ble_eq_true rfl, Nat.le_of_ble_eq_true rfl⟩ dX2_removeRecord_35 ⟨Nat.le_of_ble_eq_true rfl, Nat.le_of_ble_eq_true rfl⟩) ?_
      refine lv_if_ne (tgt := 47) hx hb dX2_removeRecord_38 (by decide) (fun c4 => ?_) (fun c4 => ?_)
      · have h := (if_neg c4).symm.trans h
        exact hE _ (Option.some.inj h) _ _ hP hD hS _ (lv_sub hl [0, 1, 2] rfl)
      · have h := (if_pos c4).symm.trans h
        refine lv_iinc (v := (x3 + (-1))) (lv' := [(3, .int (x3 + (-1))), (0, .ref g0), (2, .int x2)]) hx hb dX2_removeRecord_41 hl (k := 2) rfl rfl (by decide) rfl (fun ls hl => ?_)
        refine lv_goto (tgt := 23) hx hb dX2_removeRecord_44 (by decide) ?_
        exact hI _ (Option.some.inj h) _ _ hP hD hS _ (lv_sub hl [1, 2, 0] rfl)
  refine lv_iload_n hx hb dX2_removeRecord_0 rfl (lv_at hl 1 rfl) ?_
  obtain ⟨z5, e_z5, h⟩ := bnd h
  refine roI (cc_X2_67 S hK hN va_P0 e_z5 hl.1 (Nat.le_of_ble_eq_true rfl) ⟨Nat.le_of_ble_eq_true rfl, Nat.le_of_ble_eq_true rfl⟩ dX2_removeRecord_1 ⟨Nat.le_of_ble_eq_true rfl, Nat.le_of_ble_eq_true rfl⟩) ?_
  refine lv_istore_n (lv' := [(2, .int z5), (0, .ref g0), (1, .int p0)]) hx hb dX2_removeRecord_4 rfl hl (by decide) rfl (fun ls hl => ?_)
  refine lv_aload_n hx hb dX2_removeRecord_5 rfl (lv_at hl 1 rfl) ?_
  refine lv_iload_n hx hb dX2_removeRecord_6 rfl (lv_at hl 0 rfl) ?_
  refine lv_iload_n hx hb dX2_removeRecord_7 rfl (lv_at hl 2 rfl) ?_
  obtain ⟨z6, e_z6, h⟩ := bnd h
  refine roI (cc_X2_70 S hK hN va_P0 e_z6 hl.1 (Nat.le_of_ble_eq_true rfl) ⟨Nat.le_of_ble_eq_true rfl, Nat.le_of_ble_eq_true rfl⟩ dX2_removeRecord_8 ⟨Nat.le_of_ble_eq_true rfl, Nat.le_of_ble_eq_true rfl⟩) ?_
  obtain ⟨z7, e_z7, h⟩ := bnd h
  refine muv (cc_X2_73 g0 g1 g2 g3 g4 S hK hN hP hD e_z7 hl.1 (Nat.le_of_ble_eq_true rfl) ⟨Nat.le_of_ble_eq_true rfl, Nat.le_of_ble_eq_true rfl⟩ dX2_removeRecord_11 ⟨Nat.le_of_ble_eq_true rfl, Nat.le_of_ble_eq_true rfl⟩) hS hD (va_free hD hS hA [0, 1, 2, 3, 4] rfl) (fun H locs hP hD hS => ?_)
  have hP : va_P G vwCl (wP cI g0 g1 g2 g3 g4 z7) H := hP
  have hD : va_D A (wP cI g0 g1 g2 g3 g4 z7) := hD
  refine lv_aload_n hx hb dX2_removeRecord_14 rfl (lv_at hl 1 rfl) ?_
  refine gf_X2_12 S hK hN hP 0 rfl (v := .ref g1) rfl dX2_removeRecord_15 ?_
  refine lv_iload_n hx hb dX2_removeRecord_18 rfl (lv_at hl 0 rfl) ?_
  obtain ⟨z8, e_z8, h⟩ := bnd h
  refine roI (cc_X2_27 g1 g2 S hK hN (hP.sub [1, 2] rfl) e_z8 hl.1 (Nat.le_of_ble_eq_true rfl) ⟨Nat.le_of_ble_eq_true rfl, Nat.le_of_ble_eq_true rfl⟩ dX2_removeRecord_19 ⟨Nat.le_of_ble_eq_true rfl, Nat.le_of_ble_eq_true rfl⟩) ?_
  refine lv_istore_n (lv' := [(3, .int z8), (2, .int z5), (0, .ref g0), (1, .int p0)]) hx hb dX2_removeRecord_22 rfl hl (by decide) rfl (fun ls hl => ?_)
  obtain ⟨b9, e_b9, h⟩ := bnd h
  refine L23 _ _ _ e_b9 ?_ _ _ hP hD hS _ (lv_sub hl [2, 1, 0] rfl)
  intro H locs hP hD hS ls hl
  exact J47 b9.1 b9.2.1 b9.2.2 h _ _ hP hD hS _ (lv_sub hl [0, 1, 2] rfl)

theorem cc_X2_89 {p : Program} {l : Launch} {e : Env} {R : Room} {s : State} {m : MethodId} {args : Array Value} {below : List Frame} {meth : Method} {c : Code} {H : Heap} {locs : List Loc} {cells slots : Nat} {cc : ByteArray} {pc nL : Nat} {ls : Array Slot} {rest : List Value} {G : va_G} (g0 g1 n : Nat) {cI cS : ClassId} {u : TB}  {p0 : Int32} {r : Int32} (S : CallFix p m c cc nL s args bw RX2) (hK : va_K G vwCl (tysW cI cS) s) (hN : NW s) (hP : va_P G vwCl (wB cI g0 g1 n u) H) (hf : fX0_at n u p0 = some r) (hsz : ls.size = nL) (hst : (rest.map fun v => v.category).sum ≤ 8) (hR : rmX0_at.frames + 1 ≤ R.frames ∧ 8 + (2 + 11) + rmX0_at.locals ≤ R.locals) (hdg : decode cc pc = .ok (.invokevirtual 89, 3)) (hcs : cells + 0 ≤ R.cells ∧ slots + 0 ≤ R.slots) : va_Run p l e R s m args below meth c H locs cells slots 0 0 (F0 m pc ls (.int p0 :: .ref g0 :: rest)) rest (vp_Si (fun r' => r' = r) (#[.ref g0, .int p0] : Array Value)) (fun _ => False) :=
  va_runVN (As := [.int p0]) (rest := rest) S (kX0_at l G cI cS g0 g1 n u p0 r hf) ⟨va_cnB 1 S.2.2.2.2 (gdC q_10) rfl rfl rfl (hN _ nq_42) (S.2.2.2.2 _ q_17) (by decide +kernel) hR, S.2.2.2.2 _ q_15, S.2.2.2.2 _ q_16⟩ (pvR (q := (RX0, TX0, 2)) hK hN hP (ci := 0) (q0 := 0) rfl rfl) rfl rfl hsz rfl (lv_room hst) hdg hcs
theorem cc_X2_92 {p : Program} {l : Launch} {e : Env} {R : Room} {s : State} {m : MethodId} {args : Array Value} {below : List Frame} {meth : Method} {c : Code} {H : Heap} {locs : List Loc} {cells slots : Nat} {cc : ByteArray} {pc nL : Nat} {ls : Array Slot} {rest : List Value} {G : va_G} {A : Nat → Prop} (g0 g1 n : Nat) {cI cS : ClassId} {u : TB}  {r : TB} (S : CallFix p m c cc nL s args bw RX2) (hK : va_K G vwCl (tysW cI cS) s) (hN : NW s) (hP : va_P G vwCl (wB cI g0 g1 n u) H) (hD : va_D A (wB cI g0 g1 n u)) (hf : fX0_empty n u = some r) (hsz : ls.size = nL) (hst : (rest.map fun v => v.category).sum ≤ 8) (hR : rmX0_empty.frames + 1 ≤ R.frames ∧ 8 + (1 + 11) + rmX0_empty.locals ≤ R.locals) (hdg : decode cc pc = .ok (.invokevirtual 92, 3)) (hcs : cells + 0 ≤ R.cells ∧ slots + 0 ≤ R.slots) : va_Run p l e R s m args below meth c H locs cells slots 0 0 (F0 m pc ls (.ref g0 :: rest)) rest (va_Qv (fun u' => u' = r) (PoM G (tysW cI cS) (va_A (wB cI g0 g1 n u) H.size) (wB cI g0 g1 n)) (va_A (wB cI g0 g1 n u) H.size) (#[.ref g0] : Array Value)) (va_A (wB cI g0 g1 n u) H.size) :=
  va_runVN (As := []) (rest := rest) S (kX0_empty l G cI cS g0 g1 n H.size u r hf) ⟨va_cnB 0 S.2.2.2.2 (gdC q_21) rfl rfl rfl (hN _ nq_40) (S.2.2.2.2 _ q_17) (by decide +kernel) hR, S.2.2.2.2 _ q_24, S.2.2.2.2 _ q_25⟩ (pvM (q := (RX0, TX0, 2)) hK hN hP hD (ci := 0) (q0 := 0) rfl rfl) rfl rfl hsz rfl (lv_room hst) hdg hcs
theorem cc_X2_95 {p : Program} {l : Launch} {e : Env} {R : Room} {s : State} {m : MethodId} {args : Array Value} {below : List Frame} {meth : Method} {c : Code} {H : Heap} {locs : List Loc} {cells slots : Nat} {cc : ByteArray} {pc nL : Nat} {ls : Array Slot} {rest : List Value} {G : va_G} {A : Nat → Prop} (g0 g1 n : Nat) {cI cS : ClassId} {u : TB}  {p0 : Int32} {r : TB} (S : CallFix p m c cc nL s args bw RX2) (hK : va_K G vwCl (tysW cI cS) s) (hN : NW s) (hP : va_P G vwCl (wB cI g0 g1 n u) H) (hD : va_D A (wB cI g0 g1 n u)) (hf : fX0_add n u p0 = some r) (hsz : ls.size = nL) (hst : (rest.map fun v => v.category).sum ≤ 8) (hR : rmX0_add.frames + 1 ≤ R.frames ∧ 8 + (2 + 11) + rmX0_add.locals ≤ R.locals) (hdg : decode cc pc = .ok (.invokevirtual 95, 3)) (hcs : cells + 0 ≤ R.cells ∧ slots + 0 ≤ R.slots) : va_Run p l e R s m args below meth c H locs cells slots 0 0 (F0 m pc ls (.int p0 :: .ref g0 :: rest)) rest (va_Qv (fun u' => u' = r) (PoM G (tysW cI cS) (va_A (wB cI g0 g1 n u) H.size) (wB cI g0 g1 n)) (va_A (wB cI g0 g1 n u) H.size) (#[.ref g0, .int p0] : Array Value)) (va_A (wB cI g0 g1 n u) H.size) :=
  va_runVN (As := [.int p0]) (rest := rest) S (kX0_add l G cI cS g0 g1 n H.size u p0 r hf) ⟨va_cnB 1 S.2.2.2.2 (gdC q_12) rfl rfl rfl (hN _ nq_41) (S.2.2.2.2 _ q_17) (by decide +kernel) hR, S.2.2.2.2 _ q_19, S.2.2.2.2 _ q_20⟩ (pvM (q := (RX0, TX0, 2)) hK hN hP hD (ci := 0) (q0 := 0) rfl rfl) rfl rfl hsz rfl (lv_room hst) hdg hcs
theorem gf_X2_23 {p : Program} {l : Launch} {e : Env} {R : Room} {s : State} {m : MethodId} {args : Array Value} {below : List Frame} {meth : Method} {c : Code} {H : Heap} {locs : List Loc} {cells slots : Nat} {cc : ByteArray} {pc nL : Nat} {ls : Array Slot} {rest : List Value} {G : va_G} {Q : State → Prop} {tys : List (ClassId × FieldType)} {ws : va_W} {a : Nat} (S : CallFix p m c cc nL s args bw RX2) (hK : va_K G vwCl tys s) (hN : NW s) (hP : va_P G vwCl ws H) (q0 : Nat) {fs : List Value} (he : ws[q0]? = some (a, .inr (2, fs))) {v : Value} (hv : fs[1]? = some v) (hdg : decode cc pc = .ok (.getfield 23, 3)) (kk : W p l e R s m args below meth c H locs cells slots Q (F0 m (pc + 3) ls (v :: rest))) : W p l e R s m args below meth c H locs cells slots Q (F0 m pc ls (.ref a :: rest)) :=
  va_get (C := RX2) (T := TX2) (N := 2) S.1 S.2.1 S.2.2.2.2 bi_U2 S.2.2.2.1 hK hP q0 he rfl 1 (by decide) (S.2.2.2.2 _ q_39) (fun _ h9 => h9) hv hdg kk
theorem gf_X2_98 {p : Program} {l : Launch} {e : Env} {R : Room} {s : State} {m : MethodId} {args : Array Value} {below : List Frame} {meth : Method} {c : Code} {H : Heap} {locs : List Loc} {cells slots : Nat} {cc : ByteArray} {pc nL : Nat} {ls : Array Slot} {rest : List Value} {G : va_G} {Q : State → Prop} {tys : List (ClassId × FieldType)} {ws : va_W} {a : Nat} (S : CallFix p m c cc nL s args bw RX2) (hK : va_K G vwCl tys s) (hN : NW s) (hP : va_P G vwCl ws H) (q0 : Nat) {fs : List Value} (he : ws[q0]? = some (a, .inr (3, fs))) {v : Value} (hv : fs[4]? = some v) (hdg : decode cc pc = .ok (.getfield 98, 3)) (kk : W p l e R s m args below meth c H locs cells slots Q (F0 m (pc + 3) ls (v :: rest))) : W p l e R s m args below meth c H locs cells slots Q (F0 m pc ls (.ref a :: rest)) :=
  va_getN (C := RX3) (T := TX3) (N := 5) S.1 S.2.1 S.2.2.2.2 bi_U3 S.2.2.2.1 hK hP q0 he rfl 4 (by decide) (va_Nw.use rfl (hN _ nq_6)) (fun _ h9 => h9) hv hdg kk
theorem pf_X2_98 {p : Program} {l : Launch} {e : Env} {R : Room} {s : State} {m : MethodId} {args : Array Value} {below : List Frame} {meth : Method} {c : Code} {H : Heap} {locs : List Loc} {cells slots : Nat} {cc : ByteArray} {pc nL : Nat} {ls : Array Slot} {rest : List Value} {G : va_G} {Q : State → Prop} {tys : List (ClassId × FieldType)} {ws : va_W} {a : Nat} {A : Nat → Prop} {H0 : Heap} {x : Int32} (S : CallFix p m c cc nL s args bw RX2) (hK : va_K G vwCl tys s) (hN : NW s) (hP : va_P G vwCl ws H) (hD : va_D A ws) (hS : va_S A H0 H locs) (q0 : Nat) {fs : List Value} (he : ws[q0]? = some (a, .inr (3, fs))) (hl : 4 < fs.length) (hdg : decode cc pc = .ok (.putfield 98, 3)) (kk : ∀ (H1 : Heap) (locs1 : List Loc), va_P G vwCl (ws.set q0 (a, .inr (3, fs.set 4 (.int x)))) H1 → va_D A (ws.set q0 (a, .inr (3, fs.set 4 (.int x)))) → va_S A H0 H1 locs1 → W p l e R s m args below meth c H1 locs1 cells slots Q (F0 m (pc + 3) ls rest)) : W p l e R s m args below meth c H locs cells slots Q (F0 m pc ls (.int x :: .ref a :: rest)) :=
  va_putN (ty := .int) (v := .int x) (C := RX3) (T := TX3) (N := 5) S.1 S.2.1 S.2.2.2.2 bi_U3 tyX3 tyX3_ok nmX3 S.2.2.2.1 hK hP hD hS q0 he rfl 4 (by decide) (va_Nw.use rfl (hN _ nq_6)) (fun _ h9 => h9) rfl rfl rfl rfl hl hdg kk
def fX2_compactPage_j188 (u : TP) (x1 : Int32) (x2 : Int32) (x3 : Int32) (x4 : Int32) (x5 : Int32) : Option ((TP × Int32 × Int32 × Int32 × Int32 × Int32) ⊕ (TP × Int32 × Int32 × Int32)) := some (.inl (u, x1, x2, x3, x4, (x5 + 1)))
def fX2_compactPage_s123 (u : TP) (x1 : Int32) (x2 : Int32) (x3 : Int32) (x4 : Int32) (x5 : Int32) (x6 : Int32) (x7 : Int32) (x8 : Int32) : Option ((TP × Int32 × Int32 × Int32 × Int32 × Int32 × Int32 × Int32 × Int32) ⊕ (TP × Int32 × Int32 × Int32 × Int32 × Int32 × Int32 × Int32)) := (if x6 ≤ x8 then some (.inr (u, x1, x2, x3, x4, x5, x6, x7)) else ((fX0_at 128 u.2 (x7 + x8)).bind fun z2 => ((fX3_setByte u.1 x1 (x3 + x8) z2).bind fun z3 => some (.inl ((z3, u.2), x1, x2, x3, x4, x5, x6, x7, (x8 + 1))))))
def fX2_compactPage_s85 (u : TP) (x1 : Int32) (x2 : Int32) (x3 : Int32) (x4 : Int32) (x5 : Int32) : Option ((TP × Int32 × Int32 × Int32 × Int32 × Int32) ⊕ (TP × Int32 × Int32 × Int32)) := (if x2 ≤ x5 then some (.inr (u, x1, x3, x4)) else ((fX3_sizeOf u.1 x1 x5).bind fun z5 => ((fX3_offsetOf u.1 x1 x5).bind fun z6 => ((itr (fun a : TP × Int32 × Int32 × Int32 × Int32 × Int32 × Int32 × Int32 × Int32 => fX2_compactPage_s123 a.1 a.2.1 a.2.2.1 a.2.2.2.1 a.2.2.2.2.1 a.2.2.2.2.2.1 a.2.2.2.2.2.2.1 a.2.2.2.2.2.2.2.1 a.2.2.2.2.2.2.2.2) FU (u, x1, x2, (x3 - z5), x4, x5, z5, z6, (0 : Int32))).bind fun b7 => (if b7.2.2.2.2.2.2.1 ≤ 0 then fX2_compactPage_j188 b7.1 b7.2.1 b7.2.2.1 b7.2.2.2.1 b7.2.2.2.2.1 b7.2.2.2.2.2.1 else (if b7.2.2.2.2.2.2.2 = b7.2.2.2.1 then fX2_compactPage_j188 b7.1 b7.2.1 b7.2.2.1 b7.2.2.2.1 b7.2.2.2.2.1 b7.2.2.2.2.2.1 else ((fX4_slotOffset b7.2.2.2.2.2.1).bind fun z10 => ((fX3_setByte b7.1.1 b7.2.1 z10 b7.2.2.2.1).bind fun z11 => fX2_compactPage_j188 (z11, b7.1.2) b7.2.1 b7.2.2.1 b7.2.2.2.1 (b7.2.2.2.2.1 + 1) b7.2.2.2.2.2.1))))))))
def fX2_compactPage_s52 (u : TP) (x1 : Int32) (x2 : Int32) (x3 : Int32) : Option ((TP × Int32 × Int32 × Int32) ⊕ (TP × Int32 × Int32)) := (if (128 : Int32) ≤ x3 then some (.inr (u, x1, x2)) else ((fX3_setByte u.1 x1 x3 (0 : Int32)).bind fun z13 => some (.inl ((z13, u.2), x1, x2, (x3 + 1)))))
def fX2_compactPage_s18 (u : TP) (x1 : Int32) (x2 : Int32) (x3 : Int32) : Option ((TP × Int32 × Int32 × Int32) ⊕ (TP × Int32 × Int32)) := (if (128 : Int32) ≤ x3 then some (.inr (u, x1, x2)) else ((fX3_byteAt u.1 x1 x3).bind fun z15 => ((fX0_add 128 u.2 z15).bind fun z16 => some (.inl ((u.1, z16), x1, x2, (x3 + 1))))))
def fX2_compactPage (u : TP) (p0 : Int32) : Option (Int32 × TP) := ((fX3_slotCount u.1 p0).bind fun z17 => ((fX0_empty 128 u.2).bind fun z18 => ((itr (fun a : TP × Int32 × Int32 × Int32 => fX2_compactPage_s18 a.1 a.2.1 a.2.2.1 a.2.2.2) FU ((u.1, z18), p0, z17, (0 : Int32))).bind fun b19 => ((fX4_slotOffset b19.2.2).bind fun z20 => ((itr (fun a : TP × Int32 × Int32 × Int32 => fX2_compactPage_s52 a.1 a.2.1 a.2.2.1 a.2.2.2) FU (b19.1, b19.2.1, b19.2.2, z20)).bind fun b21 => ((itr (fun a : TP × Int32 × Int32 × Int32 × Int32 × Int32 => fX2_compactPage_s85 a.1 a.2.1 a.2.2.1 a.2.2.2.1 a.2.2.2.2.1 a.2.2.2.2.2) FU (b21.1, b21.2.1, b21.2.2, (128 : Int32), (0 : Int32), (0 : Int32))).bind fun b22 => ((fX3_setByte b22.1.1 b22.2.1 (1 : Int32) b22.2.2.1).bind fun z23 => some (b22.2.2.2, ((z23.1.1, z23.1.2.1, z23.1.2.2.1, (z23.1.2.2.2 + (1 : Int32))), z23.2), b22.1.2))))))))
abbrev rmX2_compactPage : Room := { frames := 1, cells := 0, slots := 0, locals := 24 }
set_option maxRecDepth 100000 in
set_option maxHeartbeats 4000000 in
theorem kX2_compactPage (l : Launch) (G : va_G) (cI cS : ClassId) (g0 g1 g2 g3 g4 : Nat) (sz : Nat) (u : TP) (p0 : Int32) (r : Int32 × TP) (hf : fX2_compactPage u p0 = some r) : Met l yX2_compactPage (.code yX2_compactPage cX2_compactPage 9 (some .int) :: bw) rmX2_compactPage (va_Pc [.ref g0, .int p0] (PreM G (tysW cI cS) (wP cI g0 g1 g2 g3 g4 u) sz)) (va_Qi (fun r' u' => (r', u') = r) (PoM G (tysW cI cS) (va_A (wP cI g0 g1 g2 g3 g4 u) sz) (wP cI g0 g1 g2 g3 g4)) (va_A (wP cI g0 g1 g2 g3 g4 u) sz)) 0 0 (va_A (wP cI g0 g1 g2 g3 g4 u) sz) := by
  refine enterM (own := RX2) (by decide) rfl (Nat.le_of_ble_eq_true rfl) ?_
  intro p e s m args below meth c A Q hAe hQ S hr hlocks hP hK hN hD hA hS ls hl
  rw [hAe] at hQ
  have hx := S.1; have hb := S.2.1; have hml := S.2.2.1; have hown := S.2.2.2.1; have hq := S.2.2.2.2
  have hl : lv_has ls 9 [(0, .ref g0), (1, .int p0)] := hl
  have h := hf
  unfold fX2_compactPage at h
  have L85 : ∀ (n9 : Nat) (a9 : TP × Int32 × Int32 × Int32 × Int32 × Int32) (b9 : TP × Int32 × Int32 × Int32), itr (fun a : TP × Int32 × Int32 × Int32 × Int32 × Int32 => fX2_compactPage_s85 a.1 a.2.1 a.2.2.1 a.2.2.2.1 a.2.2.2.2.1 a.2.2.2.2.2) n9 a9 = some b9 → (fun b : TP × Int32 × Int32 × Int32 => ∀ (H : Heap) (locs : List Loc), va_P G vwCl (wP cI g0 g1 g2 g3 g4 b.1) H → va_D A (wP cI g0 g1 g2 g3 g4 b.1) → va_S A s.heap H locs → ∀ ls : Array Slot, lv_has ls 9 [(0, .ref g0), (1, .int b.2.1), (3, .int b.2.2.1), (4, .int b.2.2.2)] → W p l e rmX2_compactPage s m args below meth c H locs 0 0 Q (F0 m 194 ls [])) b9 → (fun a : TP × Int32 × Int32 × Int32 × Int32 × Int32 => ∀ (H : Heap) (locs : List Loc), va_P G vwCl (wP cI g0 g1 g2 g3 g4 a.1) H → va_D A (wP cI g0 g1 g2 g3 g4 a.1) → va_S A s.heap H locs → ∀ ls : Array Slot, lv_has ls 9 [(0, .ref g0), (1, .int a.2.1), (2, .int a.2.2.1), (3, .int a.2.2.2.1), (4, .int a.2.2.2.2.1), (5, .int a.2.2.2.2.2)] → W p l e rmX2_compactPage s m args below meth c H locs 0 0 Q (F0 m 85 ls [])) a9 := by
    refine itr_ind (Inv := (fun a : TP × Int32 × Int32 × Int32 × Int32 × Int32 => ∀ (H : Heap) (locs : List Loc), va_P G vwCl (wP cI g0 g1 g2 g3 g4 a.1) H → va_D A (wP cI g0 g1 g2 g3 g4 a.1) → va_S A s.heap H locs → ∀ ls : Array Slot, lv_has ls 9 [(0, .ref g0), (1, .int a.2.1), (2, .int a.2.2.1), (3, .int a.2.2.2.1), (4, .int a.2.2.2.2.1), (5, .int a.2.2.2.2.2)] → W p l e rmX2_compactPage s m args below meth c H locs 0 0 Q (F0 m 85 ls []))) (Ex := (fun b : TP × Int32 × Int32 × Int32 => ∀ (H : Heap) (locs : List Loc), va_P G vwCl (wP cI g0 g1 g2 g3 g4 b.1) H → va_D A (wP cI g0 g1 g2 g3 g4 b.1) → va_S A s.heap H locs → ∀ ls : Array Slot, lv_has ls 9 [(0, .ref g0), (1, .int b.2.1), (3, .int b.2.2.1), (4, .int b.2.2.2)] → W p l e rmX2_compactPage s m args below meth c H locs 0 0 Q (F0 m 194 ls []))) ?_
    rintro ⟨u, x1, x2, x3, x4, x5⟩ z h hI hE
    have h : fX2_compactPage_s85 u x1 x2 x3 x4 x5 = some z := h
    unfold fX2_compactPage_s85 at h
    show ∀ (H : Heap) (locs : List Loc), va_P G vwCl (wP cI g0 g1 g2 g3 g4 u) H → va_D A (wP cI g0 g1 g2 g3 g4 u) → va_S A s.heap H locs → ∀ ls : Array Slot, lv_has ls 9 [(0, .ref g0), (1, .int x1), (2, .int x2), (3, .int x3), (4, .int x4), (5, .int x5)] → W p l e rmX2_compactPage s m args below meth c H locs 0 0 Q (F0 m 85 ls [])
    have J188 : ∀ (u : TP) (x1 : Int32) (x2 : Int32) (x3 : Int32) (x4 : Int32) (x5 : Int32) , fX2_compactPage_j188 u x1 x2 x3 x4 x5 = some z → ∀ (H : Heap) (locs : List Loc), va_P G vwCl (wP cI g0 g1 g2 g3 g4 u) H → va_D A (wP cI g0 g1 g2 g3 g4 u) → va_S A s.heap H locs → ∀ ls : Array Slot, lv_has ls 9 [(0, .ref g0), (1, .int x1), (2, .int x2), (3, .int x3), (4, .int x4), (5, .int x5)] → W p l e rmX2_compactPage s m args below meth c H locs 0 0 Q (F0 m 188 ls []) := by
      intro u x1 x2 x3 x4 x5 h
      unfold fX2_compactPage_j188 at h
      intro H locs hP hD hS ls hl
      refine lv_iinc (v := (x5 + 1)) (lv' := [(5, .int (x5 + 1)), (0, .ref g0), (1, .int x1), (2, .int x2), (3, .int x3), (4, .int x4)]) hx hb dX2_compactPage_188 hl (k := 5) rfl rfl (by decide) rfl (fun ls hl => ?_)
      refine lv_goto (tgt := 85) hx hb dX2_compactPage_191 (by decide) ?_
      exact hI _ (Option.some.inj h) _ _ hP hD hS _ (lv_sub hl [1, 2, 3, 4, 5, 0] rfl)
    have L123 : ∀ (n9 : Nat) (a9 : TP × Int32 × Int32 × Int32 × Int32 × Int32 × Int32 × Int32 × Int32) (b9 : TP × Int32 × Int32 × Int32 × Int32 × Int32 × Int32 × Int32), itr (fun a : TP × Int32 × Int32 × Int32 × Int32 × Int32 × Int32 × Int32 × Int32 => fX2_compactPage_s123 a.1 a.2.1 a.2.2.1 a.2.2.2.1 a.2.2.2.2.1 a.2.2.2.2.2.1 a.2.2.2.2.2.2.1 a.2.2.2.2.2.2.2.1 a.2.2.2.2.2.2.2.2) n9 a9 = some b9 → (fun b : TP × Int32 × Int32 × Int32 × Int32 × Int32 × Int32 × Int32 => ∀ (H : Heap) (locs : List Loc), va_P G vwCl (wP cI g0 g1 g2 g3 g4 b.1) H → va_D A (wP cI g0 g1 g2 g3 g4 b.1) → va_S A s.heap H locs → ∀ ls : Array Slot, lv_has ls 9 [(0, .ref g0), (1, .int b.2.1), (2, .int b.2.2.1), (3, .int b.2.2.2.1), (4, .int b.2.2.2.2.1), (5, .int b.2.2.2.2.2.1), (6, .int b.2.2.2.2.2.2.1), (7, .int b.2.2.2.2.2.2.2)] → W p l e rmX2_compactPage s m args below meth c H locs 0 0 Q (F0 m 160 ls [])) b9 → (fun a : TP × Int32 × Int32 × Int32 × Int32 × Int32 × Int32 × Int32 × Int32 => ∀ (H : Heap) (locs : List Loc), va_P G vwCl (wP cI g0 g1 g2 g3 g4 a.1) H → va_D A (wP cI g0 g1 g2 g3 g4 a.1) → va_S A s.heap H locs → ∀ ls : Array Slot, lv_has ls 9 [(0, .ref g0), (1, .int a.2.1), (2, .int a.2.2.1), (3, .int a.2.2.2.1), (4, .int a.2.2.2.2.1), (5, .int a.2.2.2.2.2.1), (6, .int a.2.2.2.2.2.2.1), (7, .int a.2.2.2.2.2.2.2.1), (8, .int a.2.2.2.2.2.2.2.2)] → W p l e rmX2_compactPage s m args below meth c H locs 0 0 Q (F0 m 123 ls [])) a9 := by
      refine itr_ind (Inv := (fun a : TP × Int32 × Int32 × Int32 × Int32 × Int32 × Int32 × Int32 × Int32 => ∀ (H : Heap) (locs : List Loc), va_P G vwCl (wP cI g0 g1 g2 g3 g4 a.1) H → va_D A (wP cI g0 g1 g2 g3 g4 a.1) → va_S A s.heap H locs → ∀ ls : Array Slot, lv_has ls 9 [(0, .ref g0), (1, .int a.2.1), (2, .int a.2.2.1), (3, .int a.2.2.2.1), (4, .int a.2.2.2.2.1), (5, .int a.2.2.2.2.2.1), (6, .int a.2.2.2.2.2.2.1), (7, .int a.2.2.2.2.2.2.2.1), (8, .int a.2.2.2.2.2.2.2.2)] → W p l e rmX2_compactPage s m args below meth c H locs 0 0 Q (F0 m 123 ls []))) (Ex := (fun b : TP × Int32 × Int32 × Int32 × Int32 × Int32 × Int32 × Int32 => ∀ (H : Heap) (locs : List Loc), va_P G vwCl (wP cI g0 g1 g2 g3 g4 b.1) H → va_D A (wP cI g0 g1 g2 g3 g4 b.1) → va_S A s.heap H locs → ∀ ls : Array Slot, lv_has ls 9 [(0, .ref g0), (1, .int b.2.1), (2, .int b.2.2.1), (3, .int b.2.2.2.1), (4, .int b.2.2.2.2.1), (5, .int b.2.2.2.2.2.1), (6, .int b.2.2.2.2.2.2.1), (7, .int b.2.2.2.2.2.2.2)] → W p l e rmX2_compactPage s m args below meth c H locs 0 0 Q (F0 m 160 ls []))) ?_
      rintro ⟨u, x1, x2, x3, x4, x5, x6, x7, x8⟩ z h hI hE
      have h : fX2_compactPage_s123 u x1 x2 x3 x4 x5 x6 x7 x8 = some z := h
      unfold fX2_compactPage_s123 at h
      show ∀ (H : Heap) (locs : List Loc), va_P G vwCl (wP cI g0 g1 g2 g3 g4 u) H → va_D A (wP cI g0 g1 g2 g3 g4 u) → va_S A s.heap H locs → ∀ ls : Array Slot, lv_has ls 9 [(0, .ref g0), (1, .int x1), (2, .int x2), (3, .int x3), (4, .int x4), (5, .int x5), (6, .int x6), (7, .int x7), (8, .int x8)] → W p l e rmX2_compactPage s m args below meth c H locs 0 0 Q (F0 m 123 ls [])
      intro H locs hP hD hS ls hl
      refine lv_iload hx hb dX2_compactPage_123 (lv_at hl 8 rfl) ?_
      refine lv_iload hx hb dX2_compactPage_125 (lv_at hl 6 rfl) ?_
      refine lv_icmp_ge (tgt := 160) hx hb dX2_compactPage_127 (by decide) (fun c1 => ?_) (fun c1 => ?_)
      · have h := (if_pos c1).symm.trans h
        exact hE _ (Option.some.inj h) _ _ hP hD hS _ (lv_sub hl [0, 1, 2, 3, 4, 5, 6, 7] rfl)
      · have h := (if_neg c1).symm.trans h
        refine lv_aload_n hx hb dX2_compactPage_130 rfl (lv_at hl 0 rfl) ?_
        refine gf_X2_12 S hK hN hP 0 rfl (v := .ref g1) rfl dX2_compactPage_131 ?_
        refine lv_iload_n hx hb dX2_compactPage_134 rfl (lv_at hl 1 rfl) ?_
        refine lv_iload_n hx hb dX2_compactPage_135 rfl (lv_at hl 3 rfl) ?_
        refine lv_iload hx hb dX2_compactPage_136 (lv_at hl 8 rfl) ?_
        refine lv_iadd hx hb dX2_compactPage_138 ?_
        refine lv_aload_n hx hb dX2_compactPage_139 rfl (lv_at hl 0 rfl) ?_
        refine gf_X2_23 S hK hN hP 0 rfl (v := .ref g3) rfl dX2_compactPage_140 ?_
        refine lv_iload hx hb dX2_compactPage_143 (lv_at hl 7 rfl) ?_
        refine lv_iload hx hb dX2_compactPage_145 (lv_at hl 8 rfl) ?_
        refine lv_iadd hx hb dX2_compactPage_147 ?_
        obtain ⟨z2, e_z2, h⟩ := bnd h
        refine roI (cc_X2_89 g3 g4 128 S hK hN (hP.sub [3, 4] rfl) e_z2 hl.1 (Nat.le_of_ble_eq_true rfl) ⟨Nat.le_of_ble_eq_true rfl, Nat.le_of_ble_eq_true rfl⟩ dX2_compactPage_148 ⟨Nat.le_of_ble_eq_true rfl, Nat.le_of_ble_eq_true rfl⟩) ?_
        obtain ⟨z3, e_z3, h⟩ := bnd h
        refine mjv (cc_X2_55 g1 g2 S hK hN (hP.sub [1, 2] rfl) (hD.sub [1, 2] (by decide) rfl) e_z3 hl.1 (Nat.le_of_ble_eq_true rfl) ⟨Nat.le_of_ble_eq_true rfl, Nat.le_of_ble_eq_true rfl⟩ dX2_compactPage_151 ⟨Nat.le_of_ble_eq_true rfl, Nat.le_of_ble_eq_true rfl⟩) hS hP hD hA [1, 2] [0, 3, 4] rfl rfl (by decide) (by decide) [0, 3, 4, 1, 2] (by decide) (wP cI g0 g1 g2 g3 g4 (z3, u.2)) rfl (fun H locs hP hD hS => ?_)
        refine lv_iinc (v := (x8 + 1)) (lv' := [(8, .int (x8 + 1)), (0, .ref g0), (1, .int x1), (2, .int x2), (3, .int x3), (4, .int x4), (5, .int x5), (6, .int x6), (7, .int x7)]) hx hb dX2_compactPage_154 hl (k := 8) rfl rfl (by decide) rfl (fun ls hl => ?_)
        refine lv_goto (tgt := 123) hx hb dX2_compactPage_157 (by decide) ?_
        exact hI _ (Option.some.inj h) _ _ hP hD hS _ (lv_sub hl [1, 2, 3, 4, 5, 6, 7, 8, 0] rfl)
    intro H locs hP hD hS ls hl
    refine lv_iload hx hb dX2_compactPage_85 (lv_at hl 5 rfl) ?_
    refine lv_iload_n hx hb dX2_compactPage_87 rfl (lv_at hl 2 rfl) ?_
    refine lv_icmp_ge (tgt := 194) hx hb dX2_compactPage_88 (by decide) (fun c4 => ?_) (fun c4 => ?_)
    · have h := (if_pos c4).symm.trans h
      exact hE _ (Option.some.inj h) _ _ hP hD hS _ (lv_sub hl [0, 1, 3, 4] rfl)
    · have h := (if_neg c4).symm.trans h
      refine lv_aload_n hx hb dX2_compactPage_91 rfl (lv_at hl 0 rfl) ?_
      refine gf_X2_12 S hK hN hP 0 rfl (v := .ref g1) rfl dX2_compactPage_92 ?_
      refine lv_iload_n hx hb dX2_compactPage_95 rfl (lv_at hl 1 rfl) ?_
      refine lv_iload hx hb dX2_compactPage_96 (lv_at hl 5 rfl) ?_
      obtain ⟨z5, e_z5, h⟩ := bnd h
      refine roI (cc_X2_34 g1 g2 S hK hN (hP.sub [1, 2] rfl) e_z5 hl.1 (Nat.le_of_ble_eq_true rfl) ⟨Nat.le_of_ble_eq_true rfl, Nat.le_of_ble_eq_true rfl⟩ dX2_compactPage_98 ⟨Nat.le_of_ble_eq_true rfl, Nat.le_of_ble_eq_true rfl⟩) ?_
      refine lv_istore (lv' := [(6, .int z5), (0, .ref g0), (1, .int x1), (2, .int x2), (3, .int x3), (4, .int x4), (5, .int x5)]) hx hb dX2_compactPage_101 hl (by decide) rfl (fun ls hl => ?_)
      refine lv_aload_n hx hb dX2_compactPage_103 rfl (lv_at hl 1 rfl) ?_
      refine gf_X2_12 S hK hN hP 0 rfl (v := .ref g1) rfl dX2_compactPage_104 ?_
      refine lv_iload_n hx hb dX2_compactPage_107 rfl (lv_at hl 2 rfl) ?_
      refine lv_iload hx hb dX2_compactPage_108 (lv_at hl 6 rfl) ?_
      obtain ⟨z6, e_z6, h⟩ := bnd h
      refine roI (cc_X2_59 g1 g2 S hK hN (hP.sub [1, 2] rfl) e_z6 hl.1 (Nat.le_of_ble_eq_true rfl) ⟨Nat.le_of_ble_eq_true rfl, Nat.le_of_ble_eq_true rfl⟩ dX2_compactPage_110 ⟨Nat.le_of_ble_eq_true rfl, Nat.le_of_ble_eq_true rfl⟩) ?_
      refine lv_istore (lv' := [(7, .int z6), (6, .int z5), (0, .ref g0), (1, .int x1), (2, .int x2), (3, .int x3), (4, .int x4), (5, .int x5)]) hx hb dX2_compactPage_113 hl (by decide) rfl (fun ls hl => ?_)
      refine lv_iload_n hx hb dX2_compactPage_115 rfl (lv_at hl 5 rfl) ?_
      refine lv_iload hx hb dX2_compactPage_116 (lv_at hl 1 rfl) ?_
      refine lv_isub hx hb dX2_compactPage_118 ?_
      refine lv_istore_n (lv' := [(3, .int (x3 - z5)), (7, .int z6), (6, .int z5), (0, .ref g0), (1, .int x1), (2, .int x2), (4, .int x4), (5, .int x5)]) hx hb dX2_compactPage_119 rfl hl (by decide) rfl (fun ls hl => ?_)
      refine lv_iconst (v := 0) hx hb dX2_compactPage_120 (by decide) ?_
      refine lv_istore (lv' := [(8, .int (0 : Int32)), (3, .int (x3 - z5)), (7, .int z6), (6, .int z5), (0, .ref g0), (1, .int x1), (2, .int x2), (4, .int x4), (5, .int x5)]) hx hb dX2_compactPage_121 hl (by decide) rfl (fun ls hl => ?_)
      obtain ⟨b7, e_b7, h⟩ := bnd h
      refine L123 _ _ _ e_b7 ?_ _ _ hP hD hS _ (lv_sub hl [4, 5, 6, 1, 7, 8, 3, 2, 0] rfl)
      intro H locs hP hD hS ls hl
      refine lv_iload hx hb dX2_compactPage_160 (lv_at hl 6 rfl) ?_
      refine lv_if_le (tgt := 188) hx hb dX2_compactPage_162 (by decide) (fun c8 => ?_) (fun c8 => ?_)
      · have h := (if_pos c8).symm.trans h
        exact J188 b7.1 b7.2.1 b7.2.2.1 b7.2.2.2.1 b7.2.2.2.2.1 b7.2.2.2.2.2.1 h _ _ hP hD hS _ (lv_sub hl [0, 1, 2, 3, 4, 5] rfl)
      · have h := (if_neg c8).symm.trans h
        refine lv_iload hx hb dX2_compactPage_165 (lv_at hl 7 rfl) ?_
        refine lv_iload_n hx hb dX2_compactPage_167 rfl (lv_at hl 3 rfl) ?_
        refine lv_icmp_eq (tgt := 188) hx hb dX2_compactPage_168 (by decide) (fun c9 => ?_) (fun c9 => ?_)
        · have h := (if_pos c9).symm.trans h
          exact J188 b7.1 b7.2.1 b7.2.2.1 b7.2.2.2.1 b7.2.2.2.2.1 b7.2.2.2.2.2.1 h _ _ hP hD hS _ (lv_sub hl [0, 1, 2, 3, 4, 5] rfl)
        · have h := (if_neg c9).symm.trans h
          refine lv_aload_n hx hb dX2_compactPage_171 rfl (lv_at hl 0 rfl) ?_
          refine gf_X2_12 S hK hN hP 0 rfl (v := .ref g1) rfl dX2_compactPage_172 ?_
          refine lv_iload_n hx hb dX2_compactPage_175 rfl (lv_at hl 1 rfl) ?_
          refine lv_iload hx hb dX2_compactPage_176 (lv_at hl 5 rfl) ?_
          obtain ⟨z10, e_z10, h⟩ := bnd h
          refine roI (cc_X2_31 S hK hN va_P0 e_z10 hl.1 (Nat.le_of_ble_eq_true rfl) ⟨Nat.le_of_ble_eq_true rfl, Nat.le_of_ble_eq_true rfl⟩ dX2_compactPage_178 ⟨Nat.le_of_ble_eq_true rfl, Nat.le_of_ble_eq_true rfl⟩) ?_
          refine lv_iload_n hx hb dX2_compactPage_181 rfl (lv_at hl 3 rfl) ?_
          obtain ⟨z11, e_z11, h⟩ := bnd h
          refine mjv (cc_X2_55 g1 g2 S hK hN (hP.sub [1, 2] rfl) (hD.sub [1, 2] (by decide) rfl) e_z11 hl.1 (Nat.le_of_ble_eq_true rfl) ⟨Nat.le_of_ble_eq_true rfl, Nat.le_of_ble_eq_true rfl⟩ dX2_compactPage_182 ⟨Nat.le_of_ble_eq_true rfl, Nat.le_of_ble_eq_true rfl⟩) hS hP hD hA [1, 2] [0, 3, 4] rfl rfl (by decide) (by decide) [0, 3, 4, 1, 2] (by decide) (wP cI g0 g1 g2 g3 g4 (z11, b7.1.2)) rfl (fun H locs hP hD hS => ?_)
          refine lv_iinc (v := (b7.2.2.2.2.1 + 1)) (lv' := [(4, .int (b7.2.2.2.2.1 + 1)), (0, .ref g0), (1, .int b7.2.1), (2, .int b7.2.2.1), (3, .int b7.2.2.2.1), (5, .int b7.2.2.2.2.2.1), (6, .int b7.2.2.2.2.2.2.1), (7, .int b7.2.2.2.2.2.2.2)]) hx hb dX2_compactPage_185 hl (k := 4) rfl rfl (by decide) rfl (fun ls hl => ?_)
          exact J188 (z11, b7.1.2) b7.2.1 b7.2.2.1 b7.2.2.2.1 (b7.2.2.2.2.1 + 1) b7.2.2.2.2.2.1 h _ _ hP hD hS _ (lv_sub hl [1, 2, 3, 4, 0, 5] rfl)
  have L52 : ∀ (n9 : Nat) (a9 : TP × Int32 × Int32 × Int32) (b9 : TP × Int32 × Int32), itr (fun a : TP × Int32 × Int32 × Int32 => fX2_compactPage_s52 a.1 a.2.1 a.2.2.1 a.2.2.2) n9 a9 = some b9 → (fun b : TP × Int32 × Int32 => ∀ (H : Heap) (locs : List Loc), va_P G vwCl (wP cI g0 g1 g2 g3 g4 b.1) H → va_D A (wP cI g0 g1 g2 g3 g4 b.1) → va_S A s.heap H locs → ∀ ls : Array Slot, lv_has ls 9 [(0, .ref g0), (1, .int b.2.1), (2, .int b.2.2)] → W p l e rmX2_compactPage s m args below meth c H locs 0 0 Q (F0 m 75 ls [])) b9 → (fun a : TP × Int32 × Int32 × Int32 => ∀ (H : Heap) (locs : List Loc), va_P G vwCl (wP cI g0 g1 g2 g3 g4 a.1) H → va_D A (wP cI g0 g1 g2 g3 g4 a.1) → va_S A s.heap H locs → ∀ ls : Array Slot, lv_has ls 9 [(0, .ref g0), (1, .int a.2.1), (2, .int a.2.2.1), (3, .int a.2.2.2)] → W p l e rmX2_compactPage s m args below meth c H locs 0 0 Q (F0 m 52 ls [])) a9 := by
    refine itr_ind (Inv := (fun a : TP × Int32 × Int32 × Int32 => ∀ (H : Heap) (locs : List Loc), va_P G vwCl (wP cI g0 g1 g2 g3 g4 a.1) H → va_D A (wP cI g0 g1 g2 g3 g4 a.1) → va_S A s.heap H locs → ∀ ls : Array Slot, lv_has ls 9 [(0, .ref g0), (1, .int a.2.1), (2, .int a.2.2.1), (3, .int a.2.2.2)] → W p l e rmX2_compactPage s m args below meth c H locs 0 0 Q (F0 m 52 ls []))) (Ex := (fun b : TP × Int32 × Int32 => ∀ (H : Heap) (locs : List Loc), va_P G vwCl (wP cI g0 g1 g2 g3 g4 b.1) H → va_D A (wP cI g0 g1 g2 g3 g4 b.1) → va_S A s.heap H locs → ∀ ls : Array Slot, lv_has ls 9 [(0, .ref g0), (1, .int b.2.1), (2, .int b.2.2)] → W p l e rmX2_compactPage s m args below meth c H locs 0 0 Q (F0 m 75 ls []))) ?_
    rintro ⟨u, x1, x2, x3⟩ z h hI hE
    have h : fX2_compactPage_s52 u x1 x2 x3 = some z := h
    unfold fX2_compactPage_s52 at h
    show ∀ (H : Heap) (locs : List Loc), va_P G vwCl (wP cI g0 g1 g2 g3 g4 u) H → va_D A (wP cI g0 g1 g2 g3 g4 u) → va_S A s.heap H locs → ∀ ls : Array Slot, lv_has ls 9 [(0, .ref g0), (1, .int x1), (2, .int x2), (3, .int x3)] → W p l e rmX2_compactPage s m args below meth c H locs 0 0 Q (F0 m 52 ls [])
    intro H locs hP hD hS ls hl
    refine lv_iload_n hx hb dX2_compactPage_52 rfl (lv_at hl 3 rfl) ?_
    refine lv_sipush (v := 128) hx hb dX2_compactPage_53 (by decide) ?_
    refine lv_icmp_ge (tgt := 75) hx hb dX2_compactPage_56 (by decide) (fun c12 => ?_) (fun c12 => ?_)
    · have h := (if_pos c12).symm.trans h
      exact hE _ (Option.some.inj h) _ _ hP hD hS _ (lv_sub hl [0, 1, 2] rfl)
    · have h := (if_neg c12).symm.trans h
      refine lv_aload_n hx hb dX2_compactPage_59 rfl (lv_at hl 0 rfl) ?_
      refine gf_X2_12 S hK hN hP 0 rfl (v := .ref g1) rfl dX2_compactPage_60 ?_
      refine lv_iload_n hx hb dX2_compactPage_63 rfl (lv_at hl 1 rfl) ?_
      refine lv_iload_n hx hb dX2_compactPage_64 rfl (lv_at hl 3 rfl) ?_
      refine lv_iconst (v := 0) hx hb dX2_compactPage_65 (by decide) ?_
      obtain ⟨z13, e_z13, h⟩ := bnd h
      refine mjv (cc_X2_55 g1 g2 S hK hN (hP.sub [1, 2] rfl) (hD.sub [1, 2] (by decide) rfl) e_z13 hl.1 (Nat.le_of_ble_eq_true rfl) ⟨Nat.le_of_ble_eq_true rfl, Nat.le_of_ble_eq_true rfl⟩ dX2_compactPage_66 ⟨Nat.le_of_ble_eq_true rfl, Nat.le_of_ble_eq_true rfl⟩) hS hP hD hA [1, 2] [0, 3, 4] rfl rfl (by decide) (by decide) [0, 3, 4, 1, 2] (by decide) (wP cI g0 g1 g2 g3 g4 (z13, u.2)) rfl (fun H locs hP hD hS => ?_)
      refine lv_iinc (v := (x3 + 1)) (lv' := [(3, .int (x3 + 1)), (0, .ref g0), (1, .int x1), (2, .int x2)]) hx hb dX2_compactPage_69 hl (k := 3) rfl rfl (by decide) rfl (fun ls hl => ?_)
      refine lv_goto (tgt := 52) hx hb dX2_compactPage_72 (by decide) ?_
      exact hI _ (Option.some.inj h) _ _ hP hD hS _ (lv_sub hl [1, 2, 3, 0] rfl)
  have L18 : ∀ (n9 : Nat) (a9 : TP × Int32 × Int32 × Int32) (b9 : TP × Int32 × Int32), itr (fun a : TP × Int32 × Int32 × Int32 => fX2_compactPage_s18 a.1 a.2.1 a.2.2.1 a.2.2.2) n9 a9 = some b9 → (fun b : TP × Int32 × Int32 => ∀ (H : Heap) (locs : List Loc), va_P G vwCl (wP cI g0 g1 g2 g3 g4 b.1) H → va_D A (wP cI g0 g1 g2 g3 g4 b.1) → va_S A s.heap H locs → ∀ ls : Array Slot, lv_has ls 9 [(0, .ref g0), (1, .int b.2.1), (2, .int b.2.2)] → W p l e rmX2_compactPage s m args below meth c H locs 0 0 Q (F0 m 47 ls [])) b9 → (fun a : TP × Int32 × Int32 × Int32 => ∀ (H : Heap) (locs : List Loc), va_P G vwCl (wP cI g0 g1 g2 g3 g4 a.1) H → va_D A (wP cI g0 g1 g2 g3 g4 a.1) → va_S A s.heap H locs → ∀ ls : Array Slot, lv_has ls 9 [(0, .ref g0), (1, .int a.2.1), (2, .int a.2.2.1), (3, .int a.2.2.2)] → W p l e rmX2_compactPage s m args below meth c H locs 0 0 Q (F0 m 18 ls [])) a9 := by
    refine itr_ind (Inv := (fun a : TP × Int32 × Int32 × Int32 => ∀ (H : Heap) (locs : List Loc), va_P G vwCl (wP cI g0 g1 g2 g3 g4 a.1) H → va_D A (wP cI g0 g1 g2 g3 g4 a.1) → va_S A s.heap H locs → ∀ ls : Array Slot, lv_has ls 9 [(0, .ref g0), (1, .int a.2.1), (2, .int a.2.2.1), (3, .int a.2.2.2)] → W p l e rmX2_compactPage s m args below meth c H locs 0 0 Q (F0 m 18 ls []))) (Ex := (fun b : TP × Int32 × Int32 => ∀ (H : Heap) (locs : List Loc), va_P G vwCl (wP cI g0 g1 g2 g3 g4 b.1) H → va_D A (wP cI g0 g1 g2 g3 g4 b.1) → va_S A s.heap H locs → ∀ ls : Array Slot, lv_has ls 9 [(0, .ref g0), (1, .int b.2.1), (2, .int b.2.2)] → W p l e rmX2_compactPage s m args below meth c H locs 0 0 Q (F0 m 47 ls []))) ?_
    rintro ⟨u, x1, x2, x3⟩ z h hI hE
    have h : fX2_compactPage_s18 u x1 x2 x3 = some z := h
    unfold fX2_compactPage_s18 at h
    show ∀ (H : Heap) (locs : List Loc), va_P G vwCl (wP cI g0 g1 g2 g3 g4 u) H → va_D A (wP cI g0 g1 g2 g3 g4 u) → va_S A s.heap H locs → ∀ ls : Array Slot, lv_has ls 9 [(0, .ref g0), (1, .int x1), (2, .int x2), (3, .int x3)] → W p l e rmX2_compactPage s m args below meth c H locs 0 0 Q (F0 m 18 ls [])
    intro H locs hP hD hS ls hl
    refine lv_iload_n hx hb dX2_compactPage_18 rfl (lv_at hl 3 rfl) ?_
    refine lv_sipush (v := 128) hx hb dX2_compactPage_19 (by decide) ?_
    refine lv_icmp_ge (tgt := 47) hx hb dX2_compactPage_22 (by decide) (fun c14 => ?_) (fun c14 => ?_)
    · have h := (if_pos c14).symm.trans h
      exact hE _ (Option.some.inj h) _ _ hP hD hS _ (lv_sub hl [0, 1, 2] rfl)
    · have h := (if_neg c14).symm.trans h
      refine lv_aload_n hx hb dX2_compactPage_25 rfl (lv_at hl 0 rfl) ?_
      refine gf_X2_23 S hK hN hP 0 rfl (v := .ref g3) rfl dX2_compactPage_26 ?_
      refine lv_aload_n hx hb dX2_compactPage_29 rfl (lv_at hl 0 rfl) ?_
      refine gf_X2_12 S hK hN hP 0 rfl (v := .ref g1) rfl dX2_compactPage_30 ?_
      refine lv_iload_n hx hb dX2_compactPage_33 rfl (lv_at hl 1 rfl) ?_
      refine lv_iload_n hx hb dX2_compactPage_34 rfl (lv_at hl 3 rfl) ?_
      obtain ⟨z15, e_z15, h⟩ := bnd h
      refine roI (cc_X2_41 g1 g2 S hK hN (hP.sub [1, 2] rfl) e_z15 hl.1 (Nat.le_of_ble_eq_true rfl) ⟨Nat.le_of_ble_eq_true rfl, Nat.le_of_ble_eq_true rfl⟩ dX2_compactPage_35 ⟨Nat.le_of_ble_eq_true rfl, Nat.le_of_ble_eq_true rfl⟩) ?_
      obtain ⟨z16, e_z16, h⟩ := bnd h
      refine mjv (cc_X2_95 g3 g4 128 S hK hN (hP.sub [3, 4] rfl) (hD.sub [3, 4] (by decide) rfl) e_z16 hl.1 (Nat.le_of_ble_eq_true rfl) ⟨Nat.le_of_ble_eq_true rfl, Nat.le_of_ble_eq_true rfl⟩ dX2_compactPage_38 ⟨Nat.le_of_ble_eq_true rfl, Nat.le_of_ble_eq_true rfl⟩) hS hP hD hA [3, 4] [0, 1, 2] rfl rfl (by decide) (by decide) [0, 1, 2, 3, 4] (by decide) (wP cI g0 g1 g2 g3 g4 (u.1, z16)) rfl (fun H locs hP hD hS => ?_)
      refine lv_iinc (v := (x3 + 1)) (lv' := [(3, .int (x3 + 1)), (0, .ref g0), (1, .int x1), (2, .int x2)]) hx hb dX2_compactPage_41 hl (k := 3) rfl rfl (by decide) rfl (fun ls hl => ?_)
      refine lv_goto (tgt := 18) hx hb dX2_compactPage_44 (by decide) ?_
      exact hI _ (Option.some.inj h) _ _ hP hD hS _ (lv_sub hl [1, 2, 3, 0] rfl)
  refine lv_aload_n hx hb dX2_compactPage_0 rfl (lv_at hl 0 rfl) ?_
  refine gf_X2_12 S hK hN hP 0 rfl (v := .ref g1) rfl dX2_compactPage_1 ?_
  refine lv_iload_n hx hb dX2_compactPage_4 rfl (lv_at hl 1 rfl) ?_
  obtain ⟨z17, e_z17, h⟩ := bnd h
  refine roI (cc_X2_27 g1 g2 S hK hN (hP.sub [1, 2] rfl) e_z17 hl.1 (Nat.le_of_ble_eq_true rfl) ⟨Nat.le_of_ble_eq_true rfl, Nat.le_of_ble_eq_true rfl⟩ dX2_compactPage_5 ⟨Nat.le_of_ble_eq_true rfl, Nat.le_of_ble_eq_true rfl⟩) ?_
  refine lv_istore_n (lv' := [(2, .int z17), (0, .ref g0), (1, .int p0)]) hx hb dX2_compactPage_8 rfl hl (by decide) rfl (fun ls hl => ?_)
  refine lv_aload_n hx hb dX2_compactPage_9 rfl (lv_at hl 1 rfl) ?_
  refine gf_X2_23 S hK hN hP 0 rfl (v := .ref g3) rfl dX2_compactPage_10 ?_
  obtain ⟨z18, e_z18, h⟩ := bnd h
  refine mjv (cc_X2_92 g3 g4 128 S hK hN (hP.sub [3, 4] rfl) (hD.sub [3, 4] (by decide) rfl) e_z18 hl.1 (Nat.le_of_ble_eq_true rfl) ⟨Nat.le_of_ble_eq_true rfl, Nat.le_of_ble_eq_true rfl⟩ dX2_compactPage_13 ⟨Nat.le_of_ble_eq_true rfl, Nat.le_of_ble_eq_true rfl⟩) hS hP hD hA [3, 4] [0, 1, 2] rfl rfl (by decide) (by decide) [0, 1, 2, 3, 4] (by decide) (wP cI g0 g1 g2 g3 g4 (u.1, z18)) rfl (fun H locs hP hD hS => ?_)
  refine lv_iconst (v := 0) hx hb dX2_compactPage_16 (by decide) ?_
  refine lv_istore_n (lv' := [(3, .int (0 : Int32)), (2, .int z17), (0, .ref g0), (1, .int p0)]) hx hb dX2_compactPage_17 rfl hl (by decide) rfl (fun ls hl => ?_)
  obtain ⟨b19, e_b19, h⟩ := bnd h
  refine L18 _ _ _ e_b19 ?_ _ _ hP hD hS _ (lv_sub hl [2, 3, 1, 0] rfl)
  intro H locs hP hD hS ls hl
  refine lv_iload_n hx hb dX2_compactPage_47 rfl (lv_at hl 2 rfl) ?_
  obtain ⟨z20, e_z20, h⟩ := bnd h
  refine roI (cc_X2_31 S hK hN va_P0 e_z20 hl.1 (Nat.le_of_ble_eq_true rfl) ⟨Nat.le_of_ble_eq_true rfl, Nat.le_of_ble_eq_true rfl⟩ dX2_compactPage_48 ⟨Nat.le_of_ble_eq_true rfl, Nat.le_of_ble_eq_true rfl⟩) ?_
  refine lv_istore_n (lv' := [(3, .int z20), (0, .ref g0), (1, .int b19.2.1), (2, .int b19.2.2)]) hx hb dX2_compactPage_51 rfl hl (by decide) rfl (fun ls hl => ?_)
  obtain ⟨b21, e_b21, h⟩ := bnd h
  refine L52 _ _ _ e_b21 ?_ _ _ hP hD hS _ (lv_sub hl [1, 2, 3, 0] rfl)
  intro H locs hP hD hS ls hl
  refine lv_sipush (v := 128) hx hb dX2_compactPage_75 (by decide) ?_
  refine lv_istore_n (lv' := [(3, .int (128 : Int32)), (0, .ref g0), (1, .int b21.2.1), (2, .int b21.2.2)]) hx hb dX2_compactPage_78 rfl hl (by decide) rfl (fun ls hl => ?_)
  refine lv_iconst (v := 0) hx hb dX2_compactPage_79 (by decide) ?_
  refine lv_istore (lv' := [(4, .int (0 : Int32)), (3, .int (128 : Int32)), (0, .ref g0), (1, .int b21.2.1), (2, .int b21.2.2)]) hx hb dX2_compactPage_80 hl (by decide) rfl (fun ls hl => ?_)
  refine lv_iconst (v := 0) hx hb dX2_compactPage_82 (by decide) ?_
  refine lv_istore (lv' := [(5, .int (0 : Int32)), (4, .int (0 : Int32)), (3, .int (128 : Int32)), (0, .ref g0), (1, .int b21.2.1), (2, .int b21.2.2)]) hx hb dX2_compactPage_83 hl (by decide) rfl (fun ls hl => ?_)
  obtain ⟨b22, e_b22, h⟩ := bnd h
  refine L85 _ _ _ e_b22 ?_ _ _ hP hD hS _ (lv_sub hl [3, 4, 5, 2, 1, 0] rfl)
  intro H locs hP hD hS ls hl
  refine lv_aload_n hx hb dX2_compactPage_194 rfl (lv_at hl 0 rfl) ?_
  refine gf_X2_12 S hK hN hP 0 rfl (v := .ref g1) rfl dX2_compactPage_195 ?_
  refine lv_iload_n hx hb dX2_compactPage_198 rfl (lv_at hl 1 rfl) ?_
  refine lv_iconst (v := 1) hx hb dX2_compactPage_199 (by decide) ?_
  refine lv_iload_n hx hb dX2_compactPage_200 rfl (lv_at hl 2 rfl) ?_
  obtain ⟨z23, e_z23, h⟩ := bnd h
  refine mjv (cc_X2_55 g1 g2 S hK hN (hP.sub [1, 2] rfl) (hD.sub [1, 2] (by decide) rfl) e_z23 hl.1 (Nat.le_of_ble_eq_true rfl) ⟨Nat.le_of_ble_eq_true rfl, Nat.le_of_ble_eq_true rfl⟩ dX2_compactPage_201 ⟨Nat.le_of_ble_eq_true rfl, Nat.le_of_ble_eq_true rfl⟩) hS hP hD hA [1, 2] [0, 3, 4] rfl rfl (by decide) (by decide) [0, 3, 4, 1, 2] (by decide) (wP cI g0 g1 g2 g3 g4 (z23, b22.1.2)) rfl (fun H locs hP hD hS => ?_)
  refine lv_aload_n hx hb dX2_compactPage_204 rfl (lv_at hl 0 rfl) ?_
  refine gf_X2_12 S hK hN hP 0 rfl (v := .ref g1) rfl dX2_compactPage_205 ?_
  refine lv_dup hx hb dX2_compactPage_208 rfl ?_
  refine gf_X2_98 S hK hN hP 1 rfl (v := .int z23.1.2.2.2) rfl dX2_compactPage_209 ?_
  refine lv_iconst (v := 1) hx hb dX2_compactPage_212 (by decide) ?_
  refine lv_iadd hx hb dX2_compactPage_213 ?_
  refine pf_X2_98 S hK hN hP hD hS 1 rfl (Nat.le_of_ble_eq_true rfl) dX2_compactPage_214 (fun H locs hP hD hS => ?_)
  have hP : va_P G vwCl (wP cI g0 g1 g2 g3 g4 (((z23.1.1, z23.1.2.1, z23.1.2.2.1, (z23.1.2.2.2 + (1 : Int32))), z23.2), b22.1.2)) H := hP
  have hD : va_D A (wP cI g0 g1 g2 g3 g4 (((z23.1.1, z23.1.2.1, z23.1.2.2.1, (z23.1.2.2.2 + (1 : Int32))), z23.2), b22.1.2)) := hD
  refine lv_iload hx hb dX2_compactPage_217 (lv_at hl 3 rfl) ?_
  exact retMi hQ S hr hlocks hK hN hP hD hS h dX2_compactPage_219

theorem cc_X2_80 {p : Program} {l : Launch} {e : Env} {R : Room} {s : State} {m : MethodId} {args : Array Value} {below : List Frame} {meth : Method} {c : Code} {H : Heap} {locs : List Loc} {cells slots : Nat} {cc : ByteArray} {pc nL : Nat} {ls : Array Slot} {rest : List Value} {G : va_G} (g0 g1 g2 g3 g4 : Nat) {cI cS : ClassId} {u : TP}  {p0 : Int32} {p1 : Int32} {r : Int32} (S : CallFix p m c cc nL s args bw RX2) (hK : va_K G vwCl (tysW cI cS) s) (hN : NW s) (hP : va_P G vwCl (wP cI g0 g1 g2 g3 g4 u) H) (hf : fX2_gapWith u p0 p1 = some r) (hsz : ls.size = nL) (hst : (rest.map fun v => v.category).sum ≤ 8) (hR : rmX2_gapWith.frames + 1 ≤ R.frames ∧ 8 + (3 + 11) + rmX2_gapWith.locals ≤ R.locals) (hdg : decode cc pc = .ok (.invokevirtual 80, 3)) (hcs : cells + 0 ≤ R.cells ∧ slots + 0 ≤ R.slots) : va_Run p l e R s m args below meth c H locs cells slots 0 0 (F0 m pc ls (.int p1 :: .int p0 :: .ref g0 :: rest)) rest (vp_Si (fun r' => r' = r) (#[.ref g0, .int p0, .int p1] : Array Value)) (fun _ => False) :=
  va_runV (As := [.int p0, .int p1]) (rest := rest) S (kX2_gapWith l G cI cS g0 g1 g2 g3 g4 u p0 p1 r hf) (cwV 2 S.2.2.2.2 (gdV q_92 q_93 q_94 q_56 q_58) rfl rfl rfl (by decide +kernel) hR) (pvR (q := (RX2, TX2, 2)) hK hN hP (ci := 2) (q0 := 0) rfl rfl) rfl rfl hsz rfl (lv_room hst) hdg hcs
theorem cc_X2_86 {p : Program} {l : Launch} {e : Env} {R : Room} {s : State} {m : MethodId} {args : Array Value} {below : List Frame} {meth : Method} {c : Code} {H : Heap} {locs : List Loc} {cells slots : Nat} {cc : ByteArray} {pc nL : Nat} {ls : Array Slot} {rest : List Value} {G : va_G} {A : Nat → Prop} (g0 g1 g2 g3 g4 : Nat) {cI cS : ClassId} {u : TP}  {p0 : Int32} {r : Int32 × TP} (S : CallFix p m c cc nL s args bw RX2) (hK : va_K G vwCl (tysW cI cS) s) (hN : NW s) (hP : va_P G vwCl (wP cI g0 g1 g2 g3 g4 u) H) (hD : va_D A (wP cI g0 g1 g2 g3 g4 u)) (hf : fX2_compactPage u p0 = some r) (hsz : ls.size = nL) (hst : (rest.map fun v => v.category).sum ≤ 8) (hR : rmX2_compactPage.frames + 1 ≤ R.frames ∧ 8 + (9 + 11) + rmX2_compactPage.locals ≤ R.locals) (hdg : decode cc pc = .ok (.invokevirtual 86, 3)) (hcs : cells + 0 ≤ R.cells ∧ slots + 0 ≤ R.slots) : va_Run p l e R s m args below meth c H locs cells slots 0 0 (F0 m pc ls (.int p0 :: .ref g0 :: rest)) rest (va_Qi (fun r' u' => (r', u') = r) (PoM G (tysW cI cS) (va_A (wP cI g0 g1 g2 g3 g4 u) H.size) (wP cI g0 g1 g2 g3 g4)) (va_A (wP cI g0 g1 g2 g3 g4 u) H.size) (#[.ref g0, .int p0] : Array Value)) (va_A (wP cI g0 g1 g2 g3 g4 u) H.size) :=
  va_runV (As := [.int p0]) (rest := rest) S (kX2_compactPage l G cI cS g0 g1 g2 g3 g4 H.size u p0 r hf) (cwV 1 S.2.2.2.2 (gdV q_95 q_96 q_97 q_56 q_90) rfl rfl rfl (by decide +kernel) hR) (pvM (q := (RX2, TX2, 2)) hK hN hP hD (ci := 2) (q0 := 0) rfl rfl) rfl rfl hsz rfl (lv_room hst) hdg hcs
theorem gf_X2_83 {p : Program} {l : Launch} {e : Env} {R : Room} {s : State} {m : MethodId} {args : Array Value} {below : List Frame} {meth : Method} {c : Code} {H : Heap} {locs : List Loc} {cells slots : Nat} {cc : ByteArray} {pc nL : Nat} {ls : Array Slot} {rest : List Value} {G : va_G} {Q : State → Prop} {tys : List (ClassId × FieldType)} {ws : va_W} {a : Nat} (S : CallFix p m c cc nL s args bw RX2) (hK : va_K G vwCl tys s) (hN : NW s) (hP : va_P G vwCl ws H) (q0 : Nat) {fs : List Value} (he : ws[q0]? = some (a, .inr (0, fs))) {v : Value} (hv : fs[1]? = some v) (hdg : decode cc pc = .ok (.getfield 83, 3)) (kk : W p l e R s m args below meth c H locs cells slots Q (F0 m (pc + 3) ls (v :: rest))) : W p l e R s m args below meth c H locs cells slots Q (F0 m pc ls (.ref a :: rest)) :=
  va_getN (C := RX0) (T := TX0) (N := 2) S.1 S.2.1 S.2.2.2.2 bi_U0 S.2.2.2.1 hK hP q0 he rfl 1 (by decide) (va_Nw.use rfl (hN _ nq_10)) (fun _ h9 => h9) hv hdg kk
def fX2_putRecord_s98 (n : Nat) (u : TP × TB) (x3 : Int32) (x4 : Int32) (x6 : Int32) (x7 : Int32) : Option (((TP × TB) × Int32 × Int32 × Int32 × Int32) ⊕ ((TP × TB) × Int32 × Int32 × Int32)) := (if u.2.1 ≤ x7 then some (.inr (u, x3, x4, x6)) else ((fX0_at n u.2 x7).bind fun z2 => ((fX3_setByte u.1.1 x3 (x6 + x7) z2).bind fun z3 => some (.inl (((z3, u.1.2), u.2), x3, x4, x6, (x7 + 1))))))
def fX2_putRecord_j68 (n : Nat) (u : TP × TB) (x3 : Int32) (x4 : Int32) (x5 : Int32) : Option (TP × TB) := ((fX3_setByte u.1.1 x3 (0 : Int32) x5).bind fun z4 => ((fX3_byteAt z4 x3 (1 : Int32)).bind fun z5 => ((itr (fun a : (TP × TB) × Int32 × Int32 × Int32 × Int32 => fX2_putRecord_s98 n a.1 a.2.1 a.2.2.1 a.2.2.2.1 a.2.2.2.2) FU (((z4, u.1.2), u.2), x3, x4, (z5 - u.2.1), (0 : Int32))).bind fun b6 => ((fX4_slotOffset b6.2.2.1).bind fun z7 => ((fX3_setByte b6.1.1.1 b6.2.1 z7 b6.2.2.2).bind fun z8 => ((fX4_slotOffset b6.2.2.1).bind fun z9 => ((fX3_setByte z8 b6.2.1 (z9 + (1 : Int32)) b6.1.2.1).bind fun z10 => ((fX3_setByte z10 b6.2.1 (1 : Int32) b6.2.2.2).bind fun z11 => some ((z11, b6.1.1.2), b6.1.2)))))))))
def fX2_putRecord_j31 (n : Nat) (u : TP × TB) (x3 : Int32) (x4 : Int32) : Option (TP × TB) := ((fX3_slotCount u.1.1 x3).bind fun z12 => ((fX2_gapWith u.1 x3 (if z12 < (x4 + (1 : Int32)) then (x4 + (1 : Int32)) else z12)).bind fun z13 => (if u.2.1 ≤ z13 then fX2_putRecord_j68 n u x3 x4 (if z12 < (x4 + (1 : Int32)) then (x4 + (1 : Int32)) else z12) else ((fX2_compactPage u.1 x3).bind fun z15 => fX2_putRecord_j68 n (z15.2, u.2) x3 x4 (if z12 < (x4 + (1 : Int32)) then (x4 + (1 : Int32)) else z12)))))
def fX2_putRecord (n : Nat) (u : TP × TB) (p0 : Int32) : Option (TP × TB) := ((fX4_pageIn p0).bind fun z16 => ((fX4_slotIn p0).bind fun z17 => ((fX3_slotCount u.1.1 z16).bind fun z18 => (if z18 ≤ z17 then fX2_putRecord_j31 n u z16 z17 else ((fX2_eraseRecord u.1 z16 z17).bind fun z20 => fX2_putRecord_j31 n (z20, u.2) z16 z17)))))
abbrev rmX2_putRecord : Room := { frames := 2, cells := 0, slots := 0, locals := 67 }
set_option maxRecDepth 100000 in
set_option maxHeartbeats 4000000 in
theorem kX2_putRecord (l : Launch) (G : va_G) (cI cS : ClassId) (g0 g1 g2 g3 g4 g5 g6 n : Nat) (sz : Nat) (u : TP × TB) (p0 : Int32) (r : TP × TB) (hf : fX2_putRecord n u p0 = some r) : Met l yX2_putRecord (.code yX2_putRecord cX2_putRecord 8 none :: bw) rmX2_putRecord (va_Pc [.ref g0, .int p0, .ref g5] (PreM G (tysW cI cS) (wPB cI g0 g1 g2 g3 g4 g5 g6 n u) sz)) (va_Qv (fun u' => u' = r) (PoM G (tysW cI cS) (va_A (wPB cI g0 g1 g2 g3 g4 g5 g6 n u) sz) (wPB cI g0 g1 g2 g3 g4 g5 g6 n)) (va_A (wPB cI g0 g1 g2 g3 g4 g5 g6 n u) sz)) 0 0 (va_A (wPB cI g0 g1 g2 g3 g4 g5 g6 n u) sz) := by
  refine enterM (own := RX2) (by decide) rfl (Nat.le_of_ble_eq_true rfl) ?_
  intro p e s m args below meth c A Q hAe hQ S hr hlocks hP hK hN hD hA hS ls hl
  rw [hAe] at hQ
  have hx := S.1; have hb := S.2.1; have hml := S.2.2.1; have hown := S.2.2.2.1; have hq := S.2.2.2.2
  have hl : lv_has ls 8 [(0, .ref g0), (1, .int p0), (2, .ref g5)] := hl
  have h := hf
  unfold fX2_putRecord at h
  have L98 : ∀ (n9 : Nat) (a9 : (TP × TB) × Int32 × Int32 × Int32 × Int32) (b9 : (TP × TB) × Int32 × Int32 × Int32), itr (fun a : (TP × TB) × Int32 × Int32 × Int32 × Int32 => fX2_putRecord_s98 n a.1 a.2.1 a.2.2.1 a.2.2.2.1 a.2.2.2.2) n9 a9 = some b9 → (fun b : (TP × TB) × Int32 × Int32 × Int32 => ∀ (H : Heap) (locs : List Loc), va_P G vwCl (wPB cI g0 g1 g2 g3 g4 g5 g6 n b.1) H → va_D A (wPB cI g0 g1 g2 g3 g4 g5 g6 n b.1) → va_S A s.heap H locs → ∀ ls : Array Slot, lv_has ls 8 [(0, .ref g0), (2, .ref g5), (3, .int b.2.1), (4, .int b.2.2.1), (6, .int b.2.2.2)] → W p l e rmX2_putRecord s m args below meth c H locs 0 0 Q (F0 m 132 ls [])) b9 → (fun a : (TP × TB) × Int32 × Int32 × Int32 × Int32 => ∀ (H : Heap) (locs : List Loc), va_P G vwCl (wPB cI g0 g1 g2 g3 g4 g5 g6 n a.1) H → va_D A (wPB cI g0 g1 g2 g3 g4 g5 g6 n a.1) → va_S A s.heap H locs → ∀ ls : Array Slot, lv_has ls 8 [(0, .ref g0), (2, .ref g5), (3, .int a.2.1), (4, .int a.2.2.1), (6, .int a.2.2.2.1), (7, .int a.2.2.2.2)] → W p l e rmX2_putRecord s m args below meth c H locs 0 0 Q (F0 m 98 ls [])) a9 := by
    refine itr_ind (Inv := (fun a : (TP × TB) × Int32 × Int32 × Int32 × Int32 => ∀ (H : Heap) (locs : List Loc), va_P G vwCl (wPB cI g0 g1 g2 g3 g4 g5 g6 n a.1) H → va_D A (wPB cI g0 g1 g2 g3 g4 g5 g6 n a.1) → va_S A s.heap H locs → ∀ ls : Array Slot, lv_has ls 8 [(0, .ref g0), (2, .ref g5), (3, .int a.2.1), (4, .int a.2.2.1), (6, .int a.2.2.2.1), (7, .int a.2.2.2.2)] → W p l e rmX2_putRecord s m args below meth c H locs 0 0 Q (F0 m 98 ls []))) (Ex := (fun b : (TP × TB) × Int32 × Int32 × Int32 => ∀ (H : Heap) (locs : List Loc), va_P G vwCl (wPB cI g0 g1 g2 g3 g4 g5 g6 n b.1) H → va_D A (wPB cI g0 g1 g2 g3 g4 g5 g6 n b.1) → va_S A s.heap H locs → ∀ ls : Array Slot, lv_has ls 8 [(0, .ref g0), (2, .ref g5), (3, .int b.2.1), (4, .int b.2.2.1), (6, .int b.2.2.2)] → W p l e rmX2_putRecord s m args below meth c H locs 0 0 Q (F0 m 132 ls []))) ?_
    rintro ⟨u, x3, x4, x6, x7⟩ z h hI hE
    have h : fX2_putRecord_s98 n u x3 x4 x6 x7 = some z := h
    unfold fX2_putRecord_s98 at h
    show ∀ (H : Heap) (locs : List Loc), va_P G vwCl (wPB cI g0 g1 g2 g3 g4 g5 g6 n u) H → va_D A (wPB cI g0 g1 g2 g3 g4 g5 g6 n u) → va_S A s.heap H locs → ∀ ls : Array Slot, lv_has ls 8 [(0, .ref g0), (2, .ref g5), (3, .int x3), (4, .int x4), (6, .int x6), (7, .int x7)] → W p l e rmX2_putRecord s m args below meth c H locs 0 0 Q (F0 m 98 ls [])
    intro H locs hP hD hS ls hl
    refine lv_iload hx hb dX2_putRecord_98 (lv_at hl 5 rfl) ?_
    refine lv_aload_n hx hb dX2_putRecord_100 rfl (lv_at hl 1 rfl) ?_
    refine gf_X2_83 S hK hN hP 5 rfl (v := .int u.2.1) rfl dX2_putRecord_101 ?_
    refine lv_icmp_ge (tgt := 132) hx hb dX2_putRecord_104 (by decide) (fun c1 => ?_) (fun c1 => ?_)
    · have h := (if_pos c1).symm.trans h
      exact hE _ (Option.some.inj h) _ _ hP hD hS _ (lv_sub hl [0, 1, 2, 3, 4] rfl)
    · have h := (if_neg c1).symm.trans h
      refine lv_aload_n hx hb dX2_putRecord_107 rfl (lv_at hl 0 rfl) ?_
      refine gf_X2_12 S hK hN hP 0 rfl (v := .ref g1) rfl dX2_putRecord_108 ?_
      refine lv_iload_n hx hb dX2_putRecord_111 rfl (lv_at hl 2 rfl) ?_
      refine lv_iload hx hb dX2_putRecord_112 (lv_at hl 4 rfl) ?_
      refine lv_iload hx hb dX2_putRecord_114 (lv_at hl 5 rfl) ?_
      refine lv_iadd hx hb dX2_putRecord_116 ?_
      refine lv_aload_n hx hb dX2_putRecord_117 rfl (lv_at hl 1 rfl) ?_
      refine lv_iload hx hb dX2_putRecord_118 (lv_at hl 5 rfl) ?_
      obtain ⟨z2, e_z2, h⟩ := bnd h
      refine roI (cc_X2_89 g5 g6 n S hK hN (hP.sub [5, 6] rfl) e_z2 hl.1 (Nat.le_of_ble_eq_true rfl) ⟨Nat.le_of_ble_eq_true rfl, Nat.le_of_ble_eq_true rfl⟩ dX2_putRecord_120 ⟨Nat.le_of_ble_eq_true rfl, Nat.le_of_ble_eq_true rfl⟩) ?_
      obtain ⟨z3, e_z3, h⟩ := bnd h
      refine mjv (cc_X2_55 g1 g2 S hK hN (hP.sub [1, 2] rfl) (hD.sub [1, 2] (by decide) rfl) e_z3 hl.1 (Nat.le_of_ble_eq_true rfl) ⟨Nat.le_of_ble_eq_true rfl, Nat.le_of_ble_eq_true rfl⟩ dX2_putRecord_123 ⟨Nat.le_of_ble_eq_true rfl, Nat.le_of_ble_eq_true rfl⟩) hS hP hD hA [1, 2] [0, 3, 4, 5, 6] rfl rfl (by decide) (by decide) [0, 5, 6, 1, 2, 3, 4] (by decide) (wPB cI g0 g1 g2 g3 g4 g5 g6 n ((z3, u.1.2), u.2)) rfl (fun H locs hP hD hS => ?_)
      refine lv_iinc (v := (x7 + 1)) (lv' := [(7, .int (x7 + 1)), (0, .ref g0), (2, .ref g5), (3, .int x3), (4, .int x4), (6, .int x6)]) hx hb dX2_putRecord_126 hl (k := 5) rfl rfl (by decide) rfl (fun ls hl => ?_)
      refine lv_goto (tgt := 98) hx hb dX2_putRecord_129 (by decide) ?_
      exact hI _ (Option.some.inj h) _ _ hP hD hS _ (lv_sub hl [1, 2, 3, 4, 5, 0] rfl)
  have J68 : ∀ (u : TP × TB) (x3 : Int32) (x4 : Int32) (x5 : Int32) , fX2_putRecord_j68 n u x3 x4 x5 = some r → ∀ (H : Heap) (locs : List Loc), va_P G vwCl (wPB cI g0 g1 g2 g3 g4 g5 g6 n u) H → va_D A (wPB cI g0 g1 g2 g3 g4 g5 g6 n u) → va_S A s.heap H locs → ∀ ls : Array Slot, lv_has ls 8 [(0, .ref g0), (2, .ref g5), (3, .int x3), (4, .int x4), (5, .int x5)] → W p l e rmX2_putRecord s m args below meth c H locs 0 0 Q (F0 m 68 ls []) := by
    intro u x3 x4 x5 h
    unfold fX2_putRecord_j68 at h
    intro H locs hP hD hS ls hl
    refine lv_aload_n hx hb dX2_putRecord_68 rfl (lv_at hl 0 rfl) ?_
    refine gf_X2_12 S hK hN hP 0 rfl (v := .ref g1) rfl dX2_putRecord_69 ?_
    refine lv_iload_n hx hb dX2_putRecord_72 rfl (lv_at hl 2 rfl) ?_
    refine lv_iconst (v := 0) hx hb dX2_putRecord_73 (by decide) ?_
    refine lv_iload hx hb dX2_putRecord_74 (lv_at hl 4 rfl) ?_
    obtain ⟨z4, e_z4, h⟩ := bnd h
    refine mjv (cc_X2_55 g1 g2 S hK hN (hP.sub [1, 2] rfl) (hD.sub [1, 2] (by decide) rfl) e_z4 hl.1 (Nat.le_of_ble_eq_true rfl) ⟨Nat.le_of_ble_eq_true rfl, Nat.le_of_ble_eq_true rfl⟩ dX2_putRecord_76 ⟨Nat.le_of_ble_eq_true rfl, Nat.le_of_ble_eq_true rfl⟩) hS hP hD hA [1, 2] [0, 3, 4, 5, 6] rfl rfl (by decide) (by decide) [0, 5, 6, 1, 2, 3, 4] (by decide) (wPB cI g0 g1 g2 g3 g4 g5 g6 n ((z4, u.1.2), u.2)) rfl (fun H locs hP hD hS => ?_)
    refine lv_aload_n hx hb dX2_putRecord_79 rfl (lv_at hl 0 rfl) ?_
    refine gf_X2_12 S hK hN hP 0 rfl (v := .ref g1) rfl dX2_putRecord_80 ?_
    refine lv_iload_n hx hb dX2_putRecord_83 rfl (lv_at hl 2 rfl) ?_
    refine lv_iconst (v := 1) hx hb dX2_putRecord_84 (by decide) ?_
    obtain ⟨z5, e_z5, h⟩ := bnd h
    refine roI (cc_X2_41 g1 g2 S hK hN (hP.sub [1, 2] rfl) e_z5 hl.1 (Nat.le_of_ble_eq_true rfl) ⟨Nat.le_of_ble_eq_true rfl, Nat.le_of_ble_eq_true rfl⟩ dX2_putRecord_85 ⟨Nat.le_of_ble_eq_true rfl, Nat.le_of_ble_eq_true rfl⟩) ?_
    refine lv_aload_n hx hb dX2_putRecord_88 rfl (lv_at hl 1 rfl) ?_
    refine gf_X2_83 S hK hN hP 5 rfl (v := .int u.2.1) rfl dX2_putRecord_89 ?_
    refine lv_isub hx hb dX2_putRecord_92 ?_
    refine lv_istore (lv' := [(6, .int (z5 - u.2.1)), (0, .ref g0), (2, .ref g5), (3, .int x3), (4, .int x4), (5, .int x5)]) hx hb dX2_putRecord_93 hl (by decide) rfl (fun ls hl => ?_)
    refine lv_iconst (v := 0) hx hb dX2_putRecord_95 (by decide) ?_
    refine lv_istore (lv' := [(7, .int (0 : Int32)), (6, .int (z5 - u.2.1)), (0, .ref g0), (2, .ref g5), (3, .int x3), (4, .int x4), (5, .int x5)]) hx hb dX2_putRecord_96 hl (by decide) rfl (fun ls hl => ?_)
    obtain ⟨b6, e_b6, h⟩ := bnd h
    refine L98 _ _ _ e_b6 ?_ _ _ hP hD hS _ (lv_sub hl [2, 3, 4, 5, 1, 0] rfl)
    intro H locs hP hD hS ls hl
    refine lv_aload_n hx hb dX2_putRecord_132 rfl (lv_at hl 0 rfl) ?_
    refine gf_X2_12 S hK hN hP 0 rfl (v := .ref g1) rfl dX2_putRecord_133 ?_
    refine lv_iload_n hx hb dX2_putRecord_136 rfl (lv_at hl 2 rfl) ?_
    refine lv_iload hx hb dX2_putRecord_137 (lv_at hl 3 rfl) ?_
    obtain ⟨z7, e_z7, h⟩ := bnd h
    refine roI (cc_X2_31 S hK hN va_P0 e_z7 hl.1 (Nat.le_of_ble_eq_true rfl) ⟨Nat.le_of_ble_eq_true rfl, Nat.le_of_ble_eq_true rfl⟩ dX2_putRecord_139 ⟨Nat.le_of_ble_eq_true rfl, Nat.le_of_ble_eq_true rfl⟩) ?_
    refine lv_iload hx hb dX2_putRecord_142 (lv_at hl 4 rfl) ?_
    obtain ⟨z8, e_z8, h⟩ := bnd h
    refine mjv (cc_X2_55 g1 g2 S hK hN (hP.sub [1, 2] rfl) (hD.sub [1, 2] (by decide) rfl) e_z8 hl.1 (Nat.le_of_ble_eq_true rfl) ⟨Nat.le_of_ble_eq_true rfl, Nat.le_of_ble_eq_true rfl⟩ dX2_putRecord_144 ⟨Nat.le_of_ble_eq_true rfl, Nat.le_of_ble_eq_true rfl⟩) hS hP hD hA [1, 2] [0, 3, 4, 5, 6] rfl rfl (by decide) (by decide) [0, 5, 6, 1, 2, 3, 4] (by decide) (wPB cI g0 g1 g2 g3 g4 g5 g6 n ((z8, b6.1.1.2), b6.1.2)) rfl (fun H locs hP hD hS => ?_)
    refine lv_aload_n hx hb dX2_putRecord_147 rfl (lv_at hl 0 rfl) ?_
    refine gf_X2_12 S hK hN hP 0 rfl (v := .ref g1) rfl dX2_putRecord_148 ?_
    refine lv_iload_n hx hb dX2_putRecord_151 rfl (lv_at hl 2 rfl) ?_
    refine lv_iload hx hb dX2_putRecord_152 (lv_at hl 3 rfl) ?_
    obtain ⟨z9, e_z9, h⟩ := bnd h
    refine roI (cc_X2_31 S hK hN va_P0 e_z9 hl.1 (Nat.le_of_ble_eq_true rfl) ⟨Nat.le_of_ble_eq_true rfl, Nat.le_of_ble_eq_true rfl⟩ dX2_putRecord_154 ⟨Nat.le_of_ble_eq_true rfl, Nat.le_of_ble_eq_true rfl⟩) ?_
    refine lv_iconst (v := 1) hx hb dX2_putRecord_157 (by decide) ?_
    refine lv_iadd hx hb dX2_putRecord_158 ?_
    refine lv_aload_n hx hb dX2_putRecord_159 rfl (lv_at hl 1 rfl) ?_
    refine gf_X2_83 S hK hN hP 5 rfl (v := .int b6.1.2.1) rfl dX2_putRecord_160 ?_
    obtain ⟨z10, e_z10, h⟩ := bnd h
    refine mjv (cc_X2_55 g1 g2 S hK hN (hP.sub [1, 2] rfl) (hD.sub [1, 2] (by decide) rfl) e_z10 hl.1 (Nat.le_of_ble_eq_true rfl) ⟨Nat.le_of_ble_eq_true rfl, Nat.le_of_ble_eq_true rfl⟩ dX2_putRecord_163 ⟨Nat.le_of_ble_eq_true rfl, Nat.le_of_ble_eq_true rfl⟩) hS hP hD hA [1, 2] [0, 3, 4, 5, 6] rfl rfl (by decide) (by decide) [0, 5, 6, 1, 2, 3, 4] (by decide) (wPB cI g0 g1 g2 g3 g4 g5 g6 n ((z10, b6.1.1.2), b6.1.2)) rfl (fun H locs hP hD hS => ?_)
    refine lv_aload_n hx hb dX2_putRecord_166 rfl (lv_at hl 0 rfl) ?_
    refine gf_X2_12 S hK hN hP 0 rfl (v := .ref g1) rfl dX2_putRecord_167 ?_
    refine lv_iload_n hx hb dX2_putRecord_170 rfl (lv_at hl 2 rfl) ?_
    refine lv_iconst (v := 1) hx hb dX2_putRecord_171 (by decide) ?_
    refine lv_iload hx hb dX2_putRecord_172 (lv_at hl 4 rfl) ?_
    obtain ⟨z11, e_z11, h⟩ := bnd h
    refine mjv (cc_X2_55 g1 g2 S hK hN (hP.sub [1, 2] rfl) (hD.sub [1, 2] (by decide) rfl) e_z11 hl.1 (Nat.le_of_ble_eq_true rfl) ⟨Nat.le_of_ble_eq_true rfl, Nat.le_of_ble_eq_true rfl⟩ dX2_putRecord_174 ⟨Nat.le_of_ble_eq_true rfl, Nat.le_of_ble_eq_true rfl⟩) hS hP hD hA [1, 2] [0, 3, 4, 5, 6] rfl rfl (by decide) (by decide) [0, 5, 6, 1, 2, 3, 4] (by decide) (wPB cI g0 g1 g2 g3 g4 g5 g6 n ((z11, b6.1.1.2), b6.1.2)) rfl (fun H locs hP hD hS => ?_)
    exact retMv hQ S hr hlocks hK hN hP hD hS h dX2_putRecord_177
  have J31 : ∀ (u : TP × TB) (x3 : Int32) (x4 : Int32) , fX2_putRecord_j31 n u x3 x4 = some r → ∀ (H : Heap) (locs : List Loc), va_P G vwCl (wPB cI g0 g1 g2 g3 g4 g5 g6 n u) H → va_D A (wPB cI g0 g1 g2 g3 g4 g5 g6 n u) → va_S A s.heap H locs → ∀ ls : Array Slot, lv_has ls 8 [(0, .ref g0), (2, .ref g5), (3, .int x3), (4, .int x4)] → W p l e rmX2_putRecord s m args below meth c H locs 0 0 Q (F0 m 31 ls []) := by
    intro u x3 x4 h
    unfold fX2_putRecord_j31 at h
    intro H locs hP hD hS ls hl
    refine lv_aload_n hx hb dX2_putRecord_31 rfl (lv_at hl 0 rfl) ?_
    refine gf_X2_12 S hK hN hP 0 rfl (v := .ref g1) rfl dX2_putRecord_32 ?_
    refine lv_iload_n hx hb dX2_putRecord_35 rfl (lv_at hl 2 rfl) ?_
    obtain ⟨z12, e_z12, h⟩ := bnd h
    refine roI (cc_X2_27 g1 g2 S hK hN (hP.sub [1, 2] rfl) e_z12 hl.1 (Nat.le_of_ble_eq_true rfl) ⟨Nat.le_of_ble_eq_true rfl, Nat.le_of_ble_eq_true rfl⟩ dX2_putRecord_36 ⟨Nat.le_of_ble_eq_true rfl, Nat.le_of_ble_eq_true rfl⟩) ?_
    refine lv_iload hx hb dX2_putRecord_39 (lv_at hl 3 rfl) ?_
    refine lv_iconst (v := 1) hx hb dX2_putRecord_41 (by decide) ?_
    refine lv_iadd hx hb dX2_putRecord_42 ?_
    refine va_mmax hx hb (by rw [hml]; exact hl.1.symm) hown (hq _ q_91) (hq _ q_5) (hq _ q_6) (hq _ q_7) (Nat.le_of_ble_eq_true rfl) (Nat.le_of_ble_eq_true rfl) (Nat.le_of_ble_eq_true rfl) (Nat.le_of_ble_eq_true rfl) dX2_putRecord_43 ?_
    refine lv_istore (lv' := [(5, .int (if z12 < (x4 + (1 : Int32)) then (x4 + (1 : Int32)) else z12)), (0, .ref g0), (2, .ref g5), (3, .int x3), (4, .int x4)]) hx hb dX2_putRecord_46 hl (by decide) rfl (fun ls hl => ?_)
    refine lv_aload_n hx hb dX2_putRecord_48 rfl (lv_at hl 1 rfl) ?_
    refine lv_iload_n hx hb dX2_putRecord_49 rfl (lv_at hl 3 rfl) ?_
    refine lv_iload hx hb dX2_putRecord_50 (lv_at hl 0 rfl) ?_
    obtain ⟨z13, e_z13, h⟩ := bnd h
    refine roI (cc_X2_80 g0 g1 g2 g3 g4 S hK hN (hP.sub [0, 1, 2, 3, 4] rfl) e_z13 hl.1 (Nat.le_of_ble_eq_true rfl) ⟨Nat.le_of_ble_eq_true rfl, Nat.le_of_ble_eq_true rfl⟩ dX2_putRecord_52 ⟨Nat.le_of_ble_eq_true rfl, Nat.le_of_ble_eq_true rfl⟩) ?_
    refine lv_aload_n hx hb dX2_putRecord_55 rfl (lv_at hl 2 rfl) ?_
    refine gf_X2_83 S hK hN hP 5 rfl (v := .int u.2.1) rfl dX2_putRecord_56 ?_
    refine lv_icmp_ge (tgt := 68) hx hb dX2_putRecord_59 (by decide) (fun c14 => ?_) (fun c14 => ?_)
    · have h := (if_pos c14).symm.trans h
      exact J68 u x3 x4 (if z12 < (x4 + (1 : Int32)) then (x4 + (1 : Int32)) else z12) h _ _ hP hD hS _ (lv_sub hl [1, 2, 3, 4, 0] rfl)
    · have h := (if_neg c14).symm.trans h
      refine lv_aload_n hx hb dX2_putRecord_62 rfl (lv_at hl 1 rfl) ?_
      refine lv_iload_n hx hb dX2_putRecord_63 rfl (lv_at hl 3 rfl) ?_
      obtain ⟨z15, e_z15, h⟩ := bnd h
      refine mji (cc_X2_86 g0 g1 g2 g3 g4 S hK hN (hP.sub [0, 1, 2, 3, 4] rfl) (hD.sub [0, 1, 2, 3, 4] (by decide) rfl) e_z15 hl.1 (Nat.le_of_ble_eq_true rfl) ⟨Nat.le_of_ble_eq_true rfl, Nat.le_of_ble_eq_true rfl⟩ dX2_putRecord_64 ⟨Nat.le_of_ble_eq_true rfl, Nat.le_of_ble_eq_true rfl⟩) hS hP hD hA [0, 1, 2, 3, 4] [5, 6] rfl rfl (by decide) (by decide) [2, 3, 4, 5, 6, 0, 1] (by decide) (wPB cI g0 g1 g2 g3 g4 g5 g6 n (z15.2, u.2)) rfl (fun H locs hP hD hS => ?_)
      refine lv_pop hx hb dX2_putRecord_67 rfl ?_
      exact J68 (z15.2, u.2) x3 x4 (if z12 < (x4 + (1 : Int32)) then (x4 + (1 : Int32)) else z12) h _ _ hP hD hS _ (lv_sub hl [1, 2, 3, 4, 0] rfl)
  refine lv_iload_n hx hb dX2_putRecord_0 rfl (lv_at hl 1 rfl) ?_
  obtain ⟨z16, e_z16, h⟩ := bnd h
  refine roI (cc_X2_67 S hK hN va_P0 e_z16 hl.1 (Nat.le_of_ble_eq_true rfl) ⟨Nat.le_of_ble_eq_true rfl, Nat.le_of_ble_eq_true rfl⟩ dX2_putRecord_1 ⟨Nat.le_of_ble_eq_true rfl, Nat.le_of_ble_eq_true rfl⟩) ?_
  refine lv_istore_n (lv' := [(3, .int z16), (0, .ref g0), (1, .int p0), (2, .ref g5)]) hx hb dX2_putRecord_4 rfl hl (by decide) rfl (fun ls hl => ?_)
  refine lv_iload_n hx hb dX2_putRecord_5 rfl (lv_at hl 2 rfl) ?_
  obtain ⟨z17, e_z17, h⟩ := bnd h
  refine roI (cc_X2_70 S hK hN va_P0 e_z17 hl.1 (Nat.le_of_ble_eq_true rfl) ⟨Nat.le_of_ble_eq_true rfl, Nat.le_of_ble_eq_true rfl⟩ dX2_putRecord_6 ⟨Nat.le_of_ble_eq_true rfl, Nat.le_of_ble_eq_true rfl⟩) ?_
  refine lv_istore (lv' := [(4, .int z17), (3, .int z16), (0, .ref g0), (1, .int p0), (2, .ref g5)]) hx hb dX2_putRecord_9 hl (by decide) rfl (fun ls hl => ?_)
  refine lv_iload hx hb dX2_putRecord_11 (lv_at hl 0 rfl) ?_
  refine lv_aload_n hx hb dX2_putRecord_13 rfl (lv_at hl 2 rfl) ?_
  refine gf_X2_12 S hK hN hP 0 rfl (v := .ref g1) rfl dX2_putRecord_14 ?_
  refine lv_iload_n hx hb dX2_putRecord_17 rfl (lv_at hl 1 rfl) ?_
  obtain ⟨z18, e_z18, h⟩ := bnd h
  refine roI (cc_X2_27 g1 g2 S hK hN (hP.sub [1, 2] rfl) e_z18 hl.1 (Nat.le_of_ble_eq_true rfl) ⟨Nat.le_of_ble_eq_true rfl, Nat.le_of_ble_eq_true rfl⟩ dX2_putRecord_18 ⟨Nat.le_of_ble_eq_true rfl, Nat.le_of_ble_eq_true rfl⟩) ?_
  refine lv_icmp_ge (tgt := 31) hx hb dX2_putRecord_21 (by decide) (fun c19 => ?_) (fun c19 => ?_)
  · have h := (if_pos c19).symm.trans h
    exact J31 u z16 z17 h _ _ hP hD hS _ (lv_sub hl [2, 4, 1, 0] rfl)
  · have h := (if_neg c19).symm.trans h
    refine lv_aload_n hx hb dX2_putRecord_24 rfl (lv_at hl 2 rfl) ?_
    refine lv_iload_n hx hb dX2_putRecord_25 rfl (lv_at hl 1 rfl) ?_
    refine lv_iload hx hb dX2_putRecord_26 (lv_at hl 0 rfl) ?_
    obtain ⟨z20, e_z20, h⟩ := bnd h
    refine mjv (cc_X2_73 g0 g1 g2 g3 g4 S hK hN (hP.sub [0, 1, 2, 3, 4] rfl) (hD.sub [0, 1, 2, 3, 4] (by decide) rfl) e_z20 hl.1 (Nat.le_of_ble_eq_true rfl) ⟨Nat.le_of_ble_eq_true rfl, Nat.le_of_ble_eq_true rfl⟩ dX2_putRecord_28 ⟨Nat.le_of_ble_eq_true rfl, Nat.le_of_ble_eq_true rfl⟩) hS hP hD hA [0, 1, 2, 3, 4] [5, 6] rfl rfl (by decide) (by decide) [2, 3, 4, 5, 6, 0, 1] (by decide) (wPB cI g0 g1 g2 g3 g4 g5 g6 n (z20, u.2)) rfl (fun H locs hP hD hS => ?_)
    exact J31 (z20, u.2) z16 z17 h _ _ hP hD hS _ (lv_sub hl [2, 4, 1, 0] rfl)
