theorem gf_X5_22 {p : Program} {l : Launch} {e : Env} {R : Room} {s : State} {m : MethodId} {args : Array Value} {below : List Frame} {meth : Method} {c : Code} {H : Heap} {locs : List Loc} {cells slots : Nat} {cc : ByteArray} {pc nL : Nat} {ls : Array Slot} {rest : List Value} {G : va_G} {Q : State → Prop} {tys : List (ClassId × FieldType)} {ws : va_W} {a : Nat} (S : CallFix p m c cc nL s args bw RX5) (hK : va_K G vwCl tys s) (hN : NW s) (hP : va_P G vwCl ws H) (q0 : Nat) {fs : List Value} (he : ws[q0]? = some (a, .inr (5, fs))) {v : Value} (hv : fs[0]? = some v) (hdg : decode cc pc = .ok (.getfield 22, 3)) (kk : W p l e R s m args below meth c H locs cells slots Q (F0 m (pc + 3) ls (v :: rest))) : W p l e R s m args below meth c H locs cells slots Q (F0 m pc ls (.ref a :: rest)) :=
  va_get (C := RX5) (T := TX5) (N := 12) S.1 S.2.1 S.2.2.2.2 bi_U5 S.2.2.2.1 hK hP q0 he rfl 0 (by decide) (S.2.2.2.2 _ q_383) (fun _ h9 => h9) hv hdg kk
def fX5_thrown (u : TM) : Option (Int32) := some u.1.1
abbrev rmX5_thrown : Room := { frames := 0, cells := 0, slots := 0, locals := 0 }
set_option maxRecDepth 100000 in
set_option maxHeartbeats 4000000 in
theorem kX5_thrown (l : Launch) (G : va_G) (cI cS : ClassId) (ga : Nat → Nat) (u : TM) (r : Int32) (hf : fX5_thrown u = some r) : Met l yX5_thrown (.code yX5_thrown cX5_thrown 1 (some .int) :: bw) rmX5_thrown (va_Pc [.ref (ga 0)] (PreR G (tysW cI cS) (wM cI ga u))) (vp_Si (fun r' => r' = r)) 0 0 (fun _ => False) := by
  refine enterR (own := RX5) (by decide) rfl rfl (Nat.le_of_ble_eq_true rfl) ?_
  intro p e s m args below meth c Q hQ S hr hlocks hP hK hN ls hl
  have hx := S.1; have hb := S.2.1; have hml := S.2.2.1; have hown := S.2.2.2.1; have hq := S.2.2.2.2
  have hl : lv_has ls 1 [(0, .ref (ga 0))] := hl
  have h := hf
  unfold fX5_thrown at h
  refine lv_aload_n hx hb dX5_thrown_0 rfl (lv_at hl 0 rfl) ?_
  refine gf_X5_22 S hK hN hP 0 rfl (v := .int u.1.1) rfl dX5_thrown_1 ?_
  exact retR hQ S hr hlocks h dX5_thrown_4

def fX5_in (p0 : Int32) (p1 : Int32) (p2 : Int32) : Option (Int32) := (if p0 < p1 then some (0 : Int32) else (if p2 < p0 then some (0 : Int32) else some (1 : Int32)))
abbrev rmX5_in : Room := { frames := 0, cells := 0, slots := 0, locals := 0 }
set_option maxRecDepth 100000 in
set_option maxHeartbeats 4000000 in
theorem kX5_in (l : Launch) (G : va_G) (cI cS : ClassId) (p0 : Int32) (p1 : Int32) (p2 : Int32) (r : Int32) (hf : fX5_in p0 p1 p2 = some r) : Met l yX5_in (.code yX5_in cX5_in 3 (some .boolean) :: bw) rmX5_in (va_Pc [.int p0, .int p1, .int p2] (PreR G (tysW cI cS) wE)) (vp_Si (fun r' => r' = r)) 0 0 (fun _ => False) := by
  refine enterR (own := RX5) (by decide) rfl rfl (Nat.le_of_ble_eq_true rfl) ?_
  intro p e s m args below meth c Q hQ S hr hlocks hP hK hN ls hl
  have hx := S.1; have hb := S.2.1; have hml := S.2.2.1; have hown := S.2.2.2.1; have hq := S.2.2.2.2
  have hl : lv_has ls 3 [(0, .int p0), (1, .int p1), (2, .int p2)] := hl
  have h := hf
  unfold fX5_in at h
  refine lv_iload_n hx hb dX5_in_0 rfl (lv_at hl 0 rfl) ?_
  refine lv_iload_n hx hb dX5_in_1 rfl (lv_at hl 1 rfl) ?_
  refine lv_icmp_lt (tgt := 14) hx hb dX5_in_2 (by decide) (fun c1 => ?_) (fun c1 => ?_)
  · have h := (if_pos c1).symm.trans h
    refine lv_iconst (v := 0) hx hb dX5_in_14 (by decide) ?_
    exact retRz hQ S hr hlocks rfl h dX5_in_15
  · have h := (if_neg c1).symm.trans h
    refine lv_iload_n hx hb dX5_in_5 rfl (lv_at hl 0 rfl) ?_
    refine lv_iload_n hx hb dX5_in_6 rfl (lv_at hl 2 rfl) ?_
    refine lv_icmp_gt (tgt := 14) hx hb dX5_in_7 (by decide) (fun c2 => ?_) (fun c2 => ?_)
    · have h := (if_pos c2).symm.trans h
      refine lv_iconst (v := 0) hx hb dX5_in_14 (by decide) ?_
      exact retRz hQ S hr hlocks rfl h dX5_in_15
    · have h := (if_neg c2).symm.trans h
      refine lv_iconst (v := 1) hx hb dX5_in_10 (by decide) ?_
      refine lv_goto (tgt := 15) hx hb dX5_in_11 (by decide) ?_
      exact retRz hQ S hr hlocks rfl h dX5_in_15

theorem pf_X5_22 {p : Program} {l : Launch} {e : Env} {R : Room} {s : State} {m : MethodId} {args : Array Value} {below : List Frame} {meth : Method} {c : Code} {H : Heap} {locs : List Loc} {cells slots : Nat} {cc : ByteArray} {pc nL : Nat} {ls : Array Slot} {rest : List Value} {G : va_G} {Q : State → Prop} {tys : List (ClassId × FieldType)} {ws : va_W} {a : Nat} {A : Nat → Prop} {H0 : Heap} {x : Int32} (S : CallFix p m c cc nL s args bw RX5) (hK : va_K G vwCl tys s) (hN : NW s) (hP : va_P G vwCl ws H) (hD : va_D A ws) (hS : va_S A H0 H locs) (q0 : Nat) {fs : List Value} (he : ws[q0]? = some (a, .inr (5, fs))) (hl : 0 < fs.length) (hdg : decode cc pc = .ok (.putfield 22, 3)) (kk : ∀ (H1 : Heap) (locs1 : List Loc), va_P G vwCl (ws.set q0 (a, .inr (5, fs.set 0 (.int x)))) H1 → va_D A (ws.set q0 (a, .inr (5, fs.set 0 (.int x)))) → va_S A H0 H1 locs1 → W p l e R s m args below meth c H1 locs1 cells slots Q (F0 m (pc + 3) ls rest)) : W p l e R s m args below meth c H locs cells slots Q (F0 m pc ls (.int x :: .ref a :: rest)) :=
  va_put (ty := .int) (v := .int x) (C := RX5) (T := TX5) (N := 12) S.1 S.2.1 S.2.2.2.2 bi_U5 tyX5 tyX5_ok nmX5 S.2.2.2.1 hK hP hD hS q0 he rfl 0 (by decide) (S.2.2.2.2 _ q_383) (fun _ h9 => h9) rfl rfl rfl rfl hl hdg kk
def fX5_holds (u : TM) (p0 : Int32) : Option (Int32 × TM) := (if p0 = 0 then some ((1 : Int32), (p0, u.1.2), u.2) else some ((0 : Int32), (p0, u.1.2), u.2))
abbrev rmX5_holds : Room := { frames := 0, cells := 0, slots := 0, locals := 0 }
set_option maxRecDepth 100000 in
set_option maxHeartbeats 4000000 in
theorem kX5_holds (l : Launch) (G : va_G) (cI cS : ClassId) (ga : Nat → Nat) (sz : Nat) (u : TM) (p0 : Int32) (r : Int32 × TM) (hf : fX5_holds u p0 = some r) : Met l yX5_holds (.code yX5_holds cX5_holds 2 (some .boolean) :: bw) rmX5_holds (va_Pc [.ref (ga 0), .int p0] (PreM G (tysW cI cS) (wM cI ga u) sz)) (va_Qi (fun r' u' => (r', u') = r) (PoM G (tysW cI cS) (va_A (wM cI ga u) sz) (wM cI ga)) (va_A (wM cI ga u) sz)) 0 0 (va_A (wM cI ga u) sz) := by
  refine enterM (own := RX5) (by decide) rfl (Nat.le_of_ble_eq_true rfl) ?_
  intro p e s m args below meth c A Q hAe hQ S hr hlocks hP hK hN hD hA hS ls hl
  rw [hAe] at hQ
  have hx := S.1; have hb := S.2.1; have hml := S.2.2.1; have hown := S.2.2.2.1; have hq := S.2.2.2.2
  have hl : lv_has ls 2 [(0, .ref (ga 0)), (1, .int p0)] := hl
  have h := hf
  unfold fX5_holds at h
  refine lv_aload_n hx hb dX5_holds_0 rfl (lv_at hl 0 rfl) ?_
  refine lv_iload_n hx hb dX5_holds_1 rfl (lv_at hl 1 rfl) ?_
  refine pf_X5_22 S hK hN hP hD hS 0 rfl (Nat.le_of_ble_eq_true rfl) dX5_holds_2 (fun H locs hP hD hS => ?_)
  have hP : va_P G vwCl (wM cI ga ((p0, u.1.2), u.2)) H := hP
  have hD : va_D A (wM cI ga ((p0, u.1.2), u.2)) := hD
  refine lv_iload_n hx hb dX5_holds_5 rfl (lv_at hl 1 rfl) ?_
  refine lv_if_ne (tgt := 13) hx hb dX5_holds_6 (by decide) (fun c1 => ?_) (fun c1 => ?_)
  · have h := (if_neg c1).symm.trans h
    refine lv_iconst (v := 0) hx hb dX5_holds_13 (by decide) ?_
    exact retMz hQ S hr hlocks rfl hK hN hP hD hS h dX5_holds_14
  · have h := (if_pos c1).symm.trans h
    refine lv_iconst (v := 1) hx hb dX5_holds_9 (by decide) ?_
    refine lv_goto (tgt := 14) hx hb dX5_holds_10 (by decide) ?_
    exact retMz hQ S hr hlocks rfl hK hN hP hD hS h dX5_holds_14

theorem gf_X5_7 {p : Program} {l : Launch} {e : Env} {R : Room} {s : State} {m : MethodId} {args : Array Value} {below : List Frame} {meth : Method} {c : Code} {H : Heap} {locs : List Loc} {cells slots : Nat} {cc : ByteArray} {pc nL : Nat} {ls : Array Slot} {rest : List Value} {G : va_G} {Q : State → Prop} {tys : List (ClassId × FieldType)} {ws : va_W} {a : Nat} (S : CallFix p m c cc nL s args bw RX5) (hK : va_K G vwCl tys s) (hN : NW s) (hP : va_P G vwCl ws H) (q0 : Nat) {fs : List Value} (he : ws[q0]? = some (a, .inr (5, fs))) {v : Value} (hv : fs[1]? = some v) (hdg : decode cc pc = .ok (.getfield 7, 3)) (kk : W p l e R s m args below meth c H locs cells slots Q (F0 m (pc + 3) ls (v :: rest))) : W p l e R s m args below meth c H locs cells slots Q (F0 m pc ls (.ref a :: rest)) :=
  va_get (C := RX5) (T := TX5) (N := 12) S.1 S.2.1 S.2.2.2.2 bi_U5 S.2.2.2.1 hK hP q0 he rfl 1 (by decide) (S.2.2.2.2 _ q_378) (fun _ h9 => h9) hv hdg kk
def fX5_of (u : TM) (p0 : Int32) (p1 : Int32) : Option (Int32) := ((rd u.2.1 10724 (((4 : Int32) + ((191 : Int32) * p0)) + p1)).bind fun z1 => some z1)
abbrev rmX5_of : Room := { frames := 0, cells := 0, slots := 0, locals := 0 }
set_option maxRecDepth 100000 in
set_option maxHeartbeats 4000000 in
theorem kX5_of (l : Launch) (G : va_G) (cI cS : ClassId) (ga : Nat → Nat) (u : TM) (p0 : Int32) (p1 : Int32) (r : Int32) (hf : fX5_of u p0 p1 = some r) : Met l yX5_of (.code yX5_of cX5_of 3 (some .int) :: bw) rmX5_of (va_Pc [.ref (ga 0), .int p0, .int p1] (PreR G (tysW cI cS) (wM cI ga u))) (vp_Si (fun r' => r' = r)) 0 0 (fun _ => False) := by
  refine enterR (own := RX5) (by decide) rfl rfl (Nat.le_of_ble_eq_true rfl) ?_
  intro p e s m args below meth c Q hQ S hr hlocks hP hK hN ls hl
  have hx := S.1; have hb := S.2.1; have hml := S.2.2.1; have hown := S.2.2.2.1; have hq := S.2.2.2.2
  have hl : lv_has ls 3 [(0, .ref (ga 0)), (1, .int p0), (2, .int p1)] := hl
  have h := hf
  unfold fX5_of at h
  refine lv_aload_n hx hb dX5_of_0 rfl (lv_at hl 0 rfl) ?_
  refine gf_X5_7 S hK hN hP 0 rfl (v := .ref (ga 1)) rfl dX5_of_1 ?_
  refine lv_iconst (v := 4) hx hb dX5_of_4 (by decide) ?_
  refine lv_sipush (v := 191) hx hb dX5_of_5 (by decide) ?_
  refine lv_iload_n hx hb dX5_of_8 rfl (lv_at hl 1 rfl) ?_
  refine lv_imul hx hb dX5_of_9 ?_
  refine lv_iadd hx hb dX5_of_10 ?_
  refine lv_iload_n hx hb dX5_of_11 rfl (lv_at hl 2 rfl) ?_
  refine lv_iadd hx hb dX5_of_12 ?_
  obtain ⟨z1, e_z1, h⟩ := bnd h
  refine iaO (f := u.2.1) hx hb hK hP 1 0 rfl rfl e_z1 dX5_of_13 ?_
  exact retR hQ S hr hlocks h dX5_of_14

def fX5_lay (u : TM) (p0 : Int32) (p1 : Int32) (p2 : Int32) : Option (TM) := ((wr u.2.1 10724 (((4 : Int32) + ((191 : Int32) * p0)) + p1) p2).bind fun z1 => some (u.1, z1, u.2.2))
abbrev rmX5_lay : Room := { frames := 0, cells := 0, slots := 0, locals := 0 }
set_option maxRecDepth 100000 in
set_option maxHeartbeats 4000000 in
theorem kX5_lay (l : Launch) (G : va_G) (cI cS : ClassId) (ga : Nat → Nat) (sz : Nat) (u : TM) (p0 : Int32) (p1 : Int32) (p2 : Int32) (r : TM) (hf : fX5_lay u p0 p1 p2 = some r) : Met l yX5_lay (.code yX5_lay cX5_lay 4 none :: bw) rmX5_lay (va_Pc [.ref (ga 0), .int p0, .int p1, .int p2] (PreM G (tysW cI cS) (wM cI ga u) sz)) (va_Qv (fun u' => u' = r) (PoM G (tysW cI cS) (va_A (wM cI ga u) sz) (wM cI ga)) (va_A (wM cI ga u) sz)) 0 0 (va_A (wM cI ga u) sz) := by
  refine enterM (own := RX5) (by decide) rfl (Nat.le_of_ble_eq_true rfl) ?_
  intro p e s m args below meth c A Q hAe hQ S hr hlocks hP hK hN hD hA hS ls hl
  rw [hAe] at hQ
  have hx := S.1; have hb := S.2.1; have hml := S.2.2.1; have hown := S.2.2.2.1; have hq := S.2.2.2.2
  have hl : lv_has ls 4 [(0, .ref (ga 0)), (1, .int p0), (2, .int p1), (3, .int p2)] := hl
  have h := hf
  unfold fX5_lay at h
  refine lv_aload_n hx hb dX5_lay_0 rfl (lv_at hl 0 rfl) ?_
  refine gf_X5_7 S hK hN hP 0 rfl (v := .ref (ga 1)) rfl dX5_lay_1 ?_
  refine lv_iconst (v := 4) hx hb dX5_lay_4 (by decide) ?_
  refine lv_sipush (v := 191) hx hb dX5_lay_5 (by decide) ?_
  refine lv_iload_n hx hb dX5_lay_8 rfl (lv_at hl 1 rfl) ?_
  refine lv_imul hx hb dX5_lay_9 ?_
  refine lv_iadd hx hb dX5_lay_10 ?_
  refine lv_iload_n hx hb dX5_lay_11 rfl (lv_at hl 2 rfl) ?_
  refine lv_iadd hx hb dX5_lay_12 ?_
  refine lv_iload_n hx hb dX5_lay_13 rfl (lv_at hl 3 rfl) ?_
  obtain ⟨z1, e_z1, h⟩ := bnd h
  refine iaS (f := u.2.1) hx hb hK hP hD hS 1 0 rfl rfl e_z1 dX5_lay_14 (fun H locs hP hD hS => ?_)
  have hP : va_P G vwCl (wM cI ga (u.1, z1, u.2.2)) H := hP
  have hD : va_D A (wM cI ga (u.1, z1, u.2.2)) := hD
  exact retMv hQ S hr hlocks hK hN hP hD hS h dX5_lay_15

theorem cc_X5_26 {p : Program} {l : Launch} {e : Env} {R : Room} {s : State} {m : MethodId} {args : Array Value} {below : List Frame} {meth : Method} {c : Code} {H : Heap} {locs : List Loc} {cells slots : Nat} {cc : ByteArray} {pc nL : Nat} {ls : Array Slot} {rest : List Value} {G : va_G} (ga : Nat → Nat) {cI cS : ClassId} {u : TM}  {p0 : Int32} {p1 : Int32} {r : Int32} (S : CallFix p m c cc nL s args bw RX5) (hK : va_K G vwCl (tysW cI cS) s) (hN : NW s) (hP : va_P G vwCl (wM cI ga u) H) (hf : fX5_of u p0 p1 = some r) (hsz : ls.size = nL) (hst : (rest.map fun v => v.category).sum ≤ 8) (hR : rmX5_of.frames + 1 ≤ R.frames ∧ 8 + (3 + 11) + rmX5_of.locals ≤ R.locals) (hdg : decode cc pc = .ok (.invokevirtual 26, 3)) (hcs : cells + 0 ≤ R.cells ∧ slots + 0 ≤ R.slots) : va_Run p l e R s m args below meth c H locs cells slots 0 0 (F0 m pc ls (.int p1 :: .int p0 :: .ref (ga 0) :: rest)) rest (vp_Si (fun r' => r' = r) (#[.ref (ga 0), .int p0, .int p1] : Array Value)) (fun _ => False) :=
  va_runV (As := [.int p0, .int p1]) (rest := rest) S (kX5_of l G cI cS ga u p0 p1 r hf) (cwV 2 S.2.2.2.2 (gdV q_389 q_390 q_391 q_392 q_386) rfl rfl rfl (by decide +kernel) hR) (pvR (q := (RX5, TX5, 12)) hK hN hP (ci := 5) (q0 := 0) rfl rfl) rfl rfl hsz rfl (lv_room hst) hdg hcs
def fX5_sizeOf (u : TM) (p0 : Int32) (p1 : Int32) : Option (Int32) := ((fX5_of u p0 ((32 : Int32) + p1)).bind fun z1 => some z1)
abbrev rmX5_sizeOf : Room := { frames := 1, cells := 0, slots := 0, locals := 22 }
set_option maxRecDepth 100000 in
set_option maxHeartbeats 4000000 in
theorem kX5_sizeOf (l : Launch) (G : va_G) (cI cS : ClassId) (ga : Nat → Nat) (u : TM) (p0 : Int32) (p1 : Int32) (r : Int32) (hf : fX5_sizeOf u p0 p1 = some r) : Met l yX5_sizeOf (.code yX5_sizeOf cX5_sizeOf 3 (some .int) :: bw) rmX5_sizeOf (va_Pc [.ref (ga 0), .int p0, .int p1] (PreR G (tysW cI cS) (wM cI ga u))) (vp_Si (fun r' => r' = r)) 0 0 (fun _ => False) := by
  refine enterR (own := RX5) (by decide) rfl rfl (Nat.le_of_ble_eq_true rfl) ?_
  intro p e s m args below meth c Q hQ S hr hlocks hP hK hN ls hl
  have hx := S.1; have hb := S.2.1; have hml := S.2.2.1; have hown := S.2.2.2.1; have hq := S.2.2.2.2
  have hl : lv_has ls 3 [(0, .ref (ga 0)), (1, .int p0), (2, .int p1)] := hl
  have h := hf
  unfold fX5_sizeOf at h
  refine lv_aload_n hx hb dX5_sizeOf_0 rfl (lv_at hl 0 rfl) ?_
  refine lv_iload_n hx hb dX5_sizeOf_1 rfl (lv_at hl 1 rfl) ?_
  refine lv_bipush (v := 32) hx hb dX5_sizeOf_2 (by decide) ?_
  refine lv_iload_n hx hb dX5_sizeOf_4 rfl (lv_at hl 2 rfl) ?_
  refine lv_iadd hx hb dX5_sizeOf_5 ?_
  obtain ⟨z1, e_z1, h⟩ := bnd h
  refine roI (cc_X5_26 ga S hK hN hP e_z1 hl.1 (Nat.le_of_ble_eq_true rfl) ⟨Nat.le_of_ble_eq_true rfl, Nat.le_of_ble_eq_true rfl⟩ dX5_sizeOf_6 ⟨Nat.le_of_ble_eq_true rfl, Nat.le_of_ble_eq_true rfl⟩) ?_
  exact retR hQ S hr hlocks h dX5_sizeOf_9

def fX5_byteAt (u : TM) (p0 : Int32) (p1 : Int32) (p2 : Int32) : Option (Int32) := ((fX5_of u p0 ((1 : Int32) + p1)).bind fun z1 => ((fX5_of u p0 (((63 : Int32) + z1) + p2)).bind fun z2 => some z2))
abbrev rmX5_byteAt : Room := { frames := 1, cells := 0, slots := 0, locals := 22 }
set_option maxRecDepth 100000 in
set_option maxHeartbeats 4000000 in
theorem kX5_byteAt (l : Launch) (G : va_G) (cI cS : ClassId) (ga : Nat → Nat) (u : TM) (p0 : Int32) (p1 : Int32) (p2 : Int32) (r : Int32) (hf : fX5_byteAt u p0 p1 p2 = some r) : Met l yX5_byteAt (.code yX5_byteAt cX5_byteAt 4 (some .int) :: bw) rmX5_byteAt (va_Pc [.ref (ga 0), .int p0, .int p1, .int p2] (PreR G (tysW cI cS) (wM cI ga u))) (vp_Si (fun r' => r' = r)) 0 0 (fun _ => False) := by
  refine enterR (own := RX5) (by decide) rfl rfl (Nat.le_of_ble_eq_true rfl) ?_
  intro p e s m args below meth c Q hQ S hr hlocks hP hK hN ls hl
  have hx := S.1; have hb := S.2.1; have hml := S.2.2.1; have hown := S.2.2.2.1; have hq := S.2.2.2.2
  have hl : lv_has ls 4 [(0, .ref (ga 0)), (1, .int p0), (2, .int p1), (3, .int p2)] := hl
  have h := hf
  unfold fX5_byteAt at h
  refine lv_aload_n hx hb dX5_byteAt_0 rfl (lv_at hl 0 rfl) ?_
  refine lv_iload_n hx hb dX5_byteAt_1 rfl (lv_at hl 1 rfl) ?_
  refine lv_bipush (v := 63) hx hb dX5_byteAt_2 (by decide) ?_
  refine lv_aload_n hx hb dX5_byteAt_4 rfl (lv_at hl 0 rfl) ?_
  refine lv_iload_n hx hb dX5_byteAt_5 rfl (lv_at hl 1 rfl) ?_
  refine lv_iconst (v := 1) hx hb dX5_byteAt_6 (by decide) ?_
  refine lv_iload_n hx hb dX5_byteAt_7 rfl (lv_at hl 2 rfl) ?_
  refine lv_iadd hx hb dX5_byteAt_8 ?_
  obtain ⟨z1, e_z1, h⟩ := bnd h
  refine roI (cc_X5_26 ga S hK hN hP e_z1 hl.1 (Nat.le_of_ble_eq_true rfl) ⟨Nat.le_of_ble_eq_true rfl, Nat.le_of_ble_eq_true rfl⟩ dX5_byteAt_9 ⟨Nat.le_of_ble_eq_true rfl, Nat.le_of_ble_eq_true rfl⟩) ?_
  refine lv_iadd hx hb dX5_byteAt_12 ?_
  refine lv_iload_n hx hb dX5_byteAt_13 rfl (lv_at hl 3 rfl) ?_
  refine lv_iadd hx hb dX5_byteAt_14 ?_
  obtain ⟨z2, e_z2, h⟩ := bnd h
  refine roI (cc_X5_26 ga S hK hN hP e_z2 hl.1 (Nat.le_of_ble_eq_true rfl) ⟨Nat.le_of_ble_eq_true rfl, Nat.le_of_ble_eq_true rfl⟩ dX5_byteAt_15 ⟨Nat.le_of_ble_eq_true rfl, Nat.le_of_ble_eq_true rfl⟩) ?_
  exact retR hQ S hr hlocks h dX5_byteAt_18

theorem cc_X5_30 {p : Program} {l : Launch} {e : Env} {R : Room} {s : State} {m : MethodId} {args : Array Value} {below : List Frame} {meth : Method} {c : Code} {H : Heap} {locs : List Loc} {cells slots : Nat} {cc : ByteArray} {pc nL : Nat} {ls : Array Slot} {rest : List Value} {G : va_G} {A : Nat → Prop} (ga : Nat → Nat) {cI cS : ClassId} {u : TM}  {p0 : Int32} {p1 : Int32} {p2 : Int32} {r : TM} (S : CallFix p m c cc nL s args bw RX5) (hK : va_K G vwCl (tysW cI cS) s) (hN : NW s) (hP : va_P G vwCl (wM cI ga u) H) (hD : va_D A (wM cI ga u)) (hf : fX5_lay u p0 p1 p2 = some r) (hsz : ls.size = nL) (hst : (rest.map fun v => v.category).sum ≤ 8) (hR : rmX5_lay.frames + 1 ≤ R.frames ∧ 8 + (4 + 11) + rmX5_lay.locals ≤ R.locals) (hdg : decode cc pc = .ok (.invokevirtual 30, 3)) (hcs : cells + 0 ≤ R.cells ∧ slots + 0 ≤ R.slots) : va_Run p l e R s m args below meth c H locs cells slots 0 0 (F0 m pc ls (.int p2 :: .int p1 :: .int p0 :: .ref (ga 0) :: rest)) rest (va_Qv (fun u' => u' = r) (PoM G (tysW cI cS) (va_A (wM cI ga u) H.size) (wM cI ga)) (va_A (wM cI ga u) H.size) (#[.ref (ga 0), .int p0, .int p1, .int p2] : Array Value)) (va_A (wM cI ga u) H.size) :=
  va_runV (As := [.int p0, .int p1, .int p2]) (rest := rest) S (kX5_lay l G cI cS ga H.size u p0 p1 p2 r hf) (cwV 3 S.2.2.2.2 (gdV q_395 q_396 q_397 q_392 q_387) rfl rfl rfl (by decide +kernel) hR) (pvM (q := (RX5, TX5, 12)) hK hN hP hD (ci := 5) (q0 := 0) rfl rfl) rfl rfl hsz rfl (lv_room hst) hdg hcs
def fX5_layByte (u : TM) (p0 : Int32) (p1 : Int32) (p2 : Int32) (p3 : Int32) : Option (TM) := ((fX5_of u p0 ((1 : Int32) + p1)).bind fun z1 => ((fX5_lay u p0 (((63 : Int32) + z1) + p2) p3).bind fun z2 => some z2))
abbrev rmX5_layByte : Room := { frames := 1, cells := 0, slots := 0, locals := 23 }
set_option maxRecDepth 100000 in
set_option maxHeartbeats 4000000 in
theorem kX5_layByte (l : Launch) (G : va_G) (cI cS : ClassId) (ga : Nat → Nat) (sz : Nat) (u : TM) (p0 : Int32) (p1 : Int32) (p2 : Int32) (p3 : Int32) (r : TM) (hf : fX5_layByte u p0 p1 p2 p3 = some r) : Met l yX5_layByte (.code yX5_layByte cX5_layByte 5 none :: bw) rmX5_layByte (va_Pc [.ref (ga 0), .int p0, .int p1, .int p2, .int p3] (PreM G (tysW cI cS) (wM cI ga u) sz)) (va_Qv (fun u' => u' = r) (PoM G (tysW cI cS) (va_A (wM cI ga u) sz) (wM cI ga)) (va_A (wM cI ga u) sz)) 0 0 (va_A (wM cI ga u) sz) := by
  refine enterM (own := RX5) (by decide) rfl (Nat.le_of_ble_eq_true rfl) ?_
  intro p e s m args below meth c A Q hAe hQ S hr hlocks hP hK hN hD hA hS ls hl
  rw [hAe] at hQ
  have hx := S.1; have hb := S.2.1; have hml := S.2.2.1; have hown := S.2.2.2.1; have hq := S.2.2.2.2
  have hl : lv_has ls 5 [(0, .ref (ga 0)), (1, .int p0), (2, .int p1), (3, .int p2), (4, .int p3)] := hl
  have h := hf
  unfold fX5_layByte at h
  refine lv_aload_n hx hb dX5_layByte_0 rfl (lv_at hl 0 rfl) ?_
  refine lv_iload_n hx hb dX5_layByte_1 rfl (lv_at hl 1 rfl) ?_
  refine lv_bipush (v := 63) hx hb dX5_layByte_2 (by decide) ?_
  refine lv_aload_n hx hb dX5_layByte_4 rfl (lv_at hl 0 rfl) ?_
  refine lv_iload_n hx hb dX5_layByte_5 rfl (lv_at hl 1 rfl) ?_
  refine lv_iconst (v := 1) hx hb dX5_layByte_6 (by decide) ?_
  refine lv_iload_n hx hb dX5_layByte_7 rfl (lv_at hl 2 rfl) ?_
  refine lv_iadd hx hb dX5_layByte_8 ?_
  obtain ⟨z1, e_z1, h⟩ := bnd h
  refine roI (cc_X5_26 ga S hK hN hP e_z1 hl.1 (Nat.le_of_ble_eq_true rfl) ⟨Nat.le_of_ble_eq_true rfl, Nat.le_of_ble_eq_true rfl⟩ dX5_layByte_9 ⟨Nat.le_of_ble_eq_true rfl, Nat.le_of_ble_eq_true rfl⟩) ?_
  refine lv_iadd hx hb dX5_layByte_12 ?_
  refine lv_iload_n hx hb dX5_layByte_13 rfl (lv_at hl 3 rfl) ?_
  refine lv_iadd hx hb dX5_layByte_14 ?_
  refine lv_iload hx hb dX5_layByte_15 (lv_at hl 4 rfl) ?_
  obtain ⟨z2, e_z2, h⟩ := bnd h
  refine muv (cc_X5_30 ga S hK hN hP hD e_z2 hl.1 (Nat.le_of_ble_eq_true rfl) ⟨Nat.le_of_ble_eq_true rfl, Nat.le_of_ble_eq_true rfl⟩ dX5_layByte_17 ⟨Nat.le_of_ble_eq_true rfl, Nat.le_of_ble_eq_true rfl⟩) hS hD (va_free hD hS hA [0, 1, 2, 3, 4] rfl) (fun H locs hP hD hS => ?_)
  have hP : va_P G vwCl (wM cI ga z2) H := hP
  have hD : va_D A (wM cI ga z2) := hD
  exact retMv hQ S hr hlocks hK hN hP hD hS h dX5_layByte_20

theorem cc_X5_34 {p : Program} {l : Launch} {e : Env} {R : Room} {s : State} {m : MethodId} {args : Array Value} {below : List Frame} {meth : Method} {c : Code} {H : Heap} {locs : List Loc} {cells slots : Nat} {cc : ByteArray} {pc nL : Nat} {ls : Array Slot} {rest : List Value} {G : va_G} (ga : Nat → Nat) {cI cS : ClassId} {u : TM}  {p0 : Int32} {p1 : Int32} {r : Int32} (S : CallFix p m c cc nL s args bw RX5) (hK : va_K G vwCl (tysW cI cS) s) (hN : NW s) (hP : va_P G vwCl (wM cI ga u) H) (hf : fX5_sizeOf u p0 p1 = some r) (hsz : ls.size = nL) (hst : (rest.map fun v => v.category).sum ≤ 8) (hR : rmX5_sizeOf.frames + 1 ≤ R.frames ∧ 8 + (3 + 11) + rmX5_sizeOf.locals ≤ R.locals) (hdg : decode cc pc = .ok (.invokevirtual 34, 3)) (hcs : cells + 0 ≤ R.cells ∧ slots + 0 ≤ R.slots) : va_Run p l e R s m args below meth c H locs cells slots 0 0 (F0 m pc ls (.int p1 :: .int p0 :: .ref (ga 0) :: rest)) rest (vp_Si (fun r' => r' = r) (#[.ref (ga 0), .int p0, .int p1] : Array Value)) (fun _ => False) :=
  va_runV (As := [.int p0, .int p1]) (rest := rest) S (kX5_sizeOf l G cI cS ga u p0 p1 r hf) (cwV 2 S.2.2.2.2 (gdV q_399 q_400 q_401 q_392 q_388) rfl rfl rfl (by decide +kernel) hR) (pvR (q := (RX5, TX5, 12)) hK hN hP (ci := 5) (q0 := 0) rfl rfl) rfl rfl hsz rfl (lv_room hst) hdg hcs
def fX5_lowest_j61 (u : TM) (x1 : Int32) (x3 : Int32) (t0 : Int32) : Option ((Int32 × Int32 × Int32) ⊕ (Int32)) := some (.inl (x1, t0, (x3 + 1)))
def fX5_lowest_j42 (u : TM) (x1 : Int32) (x2 : Int32) (x3 : Int32) (t0 : Int32) : Option ((Int32 × Int32 × Int32) ⊕ (Int32)) := (if t0 = 0 then fX5_lowest_j61 u x1 x3 x2 else ((fX5_of u x1 ((1 : Int32) + x3)).bind fun z2 => fX5_lowest_j61 u x1 x3 z2))
def fX5_lowest_j41 (u : TM) (x1 : Int32) (x2 : Int32) (x3 : Int32) : Option ((Int32 × Int32 × Int32) ⊕ (Int32)) := fX5_lowest_j42 u x1 x2 x3 (0 : Int32)
def fX5_lowest_s6 (u : TM) (x1 : Int32) (x2 : Int32) (x3 : Int32) : Option ((Int32 × Int32 × Int32) ⊕ (Int32)) := ((fX5_of u x1 (0 : Int32)).bind fun z3 => (if z3 ≤ x3 then some (.inr x2) else ((fX5_sizeOf u x1 x3).bind fun z5 => (if z5 ≤ 0 then fX5_lowest_j41 u x1 x2 x3 else ((fX5_of u x1 ((1 : Int32) + x3)).bind fun z7 => (if x2 ≤ z7 then fX5_lowest_j41 u x1 x2 x3 else fX5_lowest_j42 u x1 x2 x3 (1 : Int32)))))))
def fX5_lowest (u : TM) (p0 : Int32) : Option (Int32) := ((itr (fun a : Int32 × Int32 × Int32 => fX5_lowest_s6 u a.1 a.2.1 a.2.2) FU (p0, (128 : Int32), (0 : Int32))).bind fun b9 => some b9)
abbrev rmX5_lowest : Room := { frames := 2, cells := 0, slots := 0, locals := 44 }
set_option maxRecDepth 100000 in
set_option maxHeartbeats 4000000 in
theorem kX5_lowest (l : Launch) (G : va_G) (cI cS : ClassId) (ga : Nat → Nat) (u : TM) (p0 : Int32) (r : Int32) (hf : fX5_lowest u p0 = some r) : Met l yX5_lowest (.code yX5_lowest cX5_lowest 5 (some .int) :: bw) rmX5_lowest (va_Pc [.ref (ga 0), .int p0] (PreR G (tysW cI cS) (wM cI ga u))) (vp_Si (fun r' => r' = r)) 0 0 (fun _ => False) := by
  refine enterR (own := RX5) (by decide) rfl rfl (Nat.le_of_ble_eq_true rfl) ?_
  intro p e s m args below meth c Q hQ S hr hlocks hP hK hN ls hl
  have hx := S.1; have hb := S.2.1; have hml := S.2.2.1; have hown := S.2.2.2.1; have hq := S.2.2.2.2
  have hl : lv_has ls 5 [(0, .ref (ga 0)), (1, .int p0)] := hl
  have h := hf
  unfold fX5_lowest at h
  have L6 : ∀ (n9 : Nat) (a9 : Int32 × Int32 × Int32) (b9 : Int32), itr (fun a : Int32 × Int32 × Int32 => fX5_lowest_s6 u a.1 a.2.1 a.2.2) n9 a9 = some b9 → (fun b : Int32 => ∀ ls : Array Slot, lv_has ls 5 [(2, .int b)] → W p l e rmX5_lowest s m args below meth c s.heap [] 0 0 Q (F0 m 68 ls [])) b9 → (fun a : Int32 × Int32 × Int32 => ∀ ls : Array Slot, lv_has ls 5 [(0, .ref (ga 0)), (1, .int a.1), (2, .int a.2.1), (3, .int a.2.2)] → W p l e rmX5_lowest s m args below meth c s.heap [] 0 0 Q (F0 m 6 ls [])) a9 := by
    refine itr_ind (Inv := (fun a : Int32 × Int32 × Int32 => ∀ ls : Array Slot, lv_has ls 5 [(0, .ref (ga 0)), (1, .int a.1), (2, .int a.2.1), (3, .int a.2.2)] → W p l e rmX5_lowest s m args below meth c s.heap [] 0 0 Q (F0 m 6 ls []))) (Ex := (fun b : Int32 => ∀ ls : Array Slot, lv_has ls 5 [(2, .int b)] → W p l e rmX5_lowest s m args below meth c s.heap [] 0 0 Q (F0 m 68 ls []))) ?_
    rintro ⟨x1, x2, x3⟩ z h hI hE
    have h : fX5_lowest_s6 u x1 x2 x3 = some z := h
    unfold fX5_lowest_s6 at h
    show ∀ ls : Array Slot, lv_has ls 5 [(0, .ref (ga 0)), (1, .int x1), (2, .int x2), (3, .int x3)] → W p l e rmX5_lowest s m args below meth c s.heap [] 0 0 Q (F0 m 6 ls [])
    have J61 : ∀ (x1 : Int32) (x3 : Int32) (t0 : Int32) , fX5_lowest_j61 u x1 x3 t0 = some z → ∀ ls : Array Slot, lv_has ls 5 [(0, .ref (ga 0)), (1, .int x1), (3, .int x3)] → W p l e rmX5_lowest s m args below meth c s.heap [] 0 0 Q (F0 m 61 ls [.int t0]) := by
      intro x1 x3 t0 h
      unfold fX5_lowest_j61 at h
      intro ls hl
      refine lv_istore_n (lv' := [(2, .int t0), (0, .ref (ga 0)), (1, .int x1), (3, .int x3)]) hx hb dX5_lowest_61 rfl hl (by decide) rfl (fun ls hl => ?_)
      refine lv_iinc (v := (x3 + 1)) (lv' := [(3, .int (x3 + 1)), (2, .int t0), (0, .ref (ga 0)), (1, .int x1)]) hx hb dX5_lowest_62 hl (k := 3) rfl rfl (by decide) rfl (fun ls hl => ?_)
      refine lv_goto (tgt := 6) hx hb dX5_lowest_65 (by decide) ?_
      exact hI _ (Option.some.inj h) _ (lv_sub hl [2, 3, 1, 0] rfl)
    have J42 : ∀ (x1 : Int32) (x2 : Int32) (x3 : Int32) (t0 : Int32) , fX5_lowest_j42 u x1 x2 x3 t0 = some z → ∀ ls : Array Slot, lv_has ls 5 [(0, .ref (ga 0)), (1, .int x1), (2, .int x2), (3, .int x3)] → W p l e rmX5_lowest s m args below meth c s.heap [] 0 0 Q (F0 m 42 ls [.int t0]) := by
      intro x1 x2 x3 t0 h
      unfold fX5_lowest_j42 at h
      intro ls hl
      refine lv_istore (lv' := [(4, .int t0), (0, .ref (ga 0)), (1, .int x1), (2, .int x2), (3, .int x3)]) hx hb dX5_lowest_42 hl (by decide) rfl (fun ls hl => ?_)
      refine lv_iload hx hb dX5_lowest_44 (lv_at hl 0 rfl) ?_
      refine lv_if_eq (tgt := 60) hx hb dX5_lowest_46 (by decide) (fun c1 => ?_) (fun c1 => ?_)
      · have h := (if_pos c1).symm.trans h
        refine lv_iload_n hx hb dX5_lowest_60 rfl (lv_at hl 3 rfl) ?_
        exact J61 x1 x3 x2 h _ (lv_sub hl [1, 2, 4] rfl)
      · have h := (if_neg c1).symm.trans h
        refine lv_aload_n hx hb dX5_lowest_49 rfl (lv_at hl 1 rfl) ?_
        refine lv_iload_n hx hb dX5_lowest_50 rfl (lv_at hl 2 rfl) ?_
        refine lv_iconst (v := 1) hx hb dX5_lowest_51 (by decide) ?_
        refine lv_iload_n hx hb dX5_lowest_52 rfl (lv_at hl 4 rfl) ?_
        refine lv_iadd hx hb dX5_lowest_53 ?_
        obtain ⟨z2, e_z2, h⟩ := bnd h
        refine roI (cc_X5_26 ga S hK hN hP e_z2 hl.1 (Nat.le_of_ble_eq_true rfl) ⟨Nat.le_of_ble_eq_true rfl, Nat.le_of_ble_eq_true rfl⟩ dX5_lowest_54 ⟨Nat.le_of_ble_eq_true rfl, Nat.le_of_ble_eq_true rfl⟩) ?_
        refine lv_goto (tgt := 61) hx hb dX5_lowest_57 (by decide) ?_
        exact J61 x1 x3 z2 h _ (lv_sub hl [1, 2, 4] rfl)
    have J41 : ∀ (x1 : Int32) (x2 : Int32) (x3 : Int32) , fX5_lowest_j41 u x1 x2 x3 = some z → ∀ ls : Array Slot, lv_has ls 5 [(0, .ref (ga 0)), (1, .int x1), (2, .int x2), (3, .int x3)] → W p l e rmX5_lowest s m args below meth c s.heap [] 0 0 Q (F0 m 41 ls []) := by
      intro x1 x2 x3 h
      unfold fX5_lowest_j41 at h
      intro ls hl
      refine lv_iconst (v := 0) hx hb dX5_lowest_41 (by decide) ?_
      exact J42 x1 x2 x3 (0 : Int32) h _ (lv_sub hl [0, 1, 2, 3] rfl)
    intro ls hl
    refine lv_iload_n hx hb dX5_lowest_6 rfl (lv_at hl 3 rfl) ?_
    refine lv_aload_n hx hb dX5_lowest_7 rfl (lv_at hl 0 rfl) ?_
    refine lv_iload_n hx hb dX5_lowest_8 rfl (lv_at hl 1 rfl) ?_
    refine lv_iconst (v := 0) hx hb dX5_lowest_9 (by decide) ?_
    obtain ⟨z3, e_z3, h⟩ := bnd h
    refine roI (cc_X5_26 ga S hK hN hP e_z3 hl.1 (Nat.le_of_ble_eq_true rfl) ⟨Nat.le_of_ble_eq_true rfl, Nat.le_of_ble_eq_true rfl⟩ dX5_lowest_10 ⟨Nat.le_of_ble_eq_true rfl, Nat.le_of_ble_eq_true rfl⟩) ?_
    refine lv_icmp_ge (tgt := 68) hx hb dX5_lowest_13 (by decide) (fun c4 => ?_) (fun c4 => ?_)
    · have h := (if_pos c4).symm.trans h
      exact hE _ (Option.some.inj h) _ (lv_sub hl [2] rfl)
    · have h := (if_neg c4).symm.trans h
      refine lv_aload_n hx hb dX5_lowest_16 rfl (lv_at hl 0 rfl) ?_
      refine lv_iload_n hx hb dX5_lowest_17 rfl (lv_at hl 1 rfl) ?_
      refine lv_iload_n hx hb dX5_lowest_18 rfl (lv_at hl 3 rfl) ?_
      obtain ⟨z5, e_z5, h⟩ := bnd h
      refine roI (cc_X5_34 ga S hK hN hP e_z5 hl.1 (Nat.le_of_ble_eq_true rfl) ⟨Nat.le_of_ble_eq_true rfl, Nat.le_of_ble_eq_true rfl⟩ dX5_lowest_19 ⟨Nat.le_of_ble_eq_true rfl, Nat.le_of_ble_eq_true rfl⟩) ?_
      refine lv_if_le (tgt := 41) hx hb dX5_lowest_22 (by decide) (fun c6 => ?_) (fun c6 => ?_)
      · have h := (if_pos c6).symm.trans h
        exact J41 x1 x2 x3 h _ (lv_sub hl [0, 1, 2, 3] rfl)
      · have h := (if_neg c6).symm.trans h
        refine lv_aload_n hx hb dX5_lowest_25 rfl (lv_at hl 0 rfl) ?_
        refine lv_iload_n hx hb dX5_lowest_26 rfl (lv_at hl 1 rfl) ?_
        refine lv_iconst (v := 1) hx hb dX5_lowest_27 (by decide) ?_
        refine lv_iload_n hx hb dX5_lowest_28 rfl (lv_at hl 3 rfl) ?_
        refine lv_iadd hx hb dX5_lowest_29 ?_
        obtain ⟨z7, e_z7, h⟩ := bnd h
        refine roI (cc_X5_26 ga S hK hN hP e_z7 hl.1 (Nat.le_of_ble_eq_true rfl) ⟨Nat.le_of_ble_eq_true rfl, Nat.le_of_ble_eq_true rfl⟩ dX5_lowest_30 ⟨Nat.le_of_ble_eq_true rfl, Nat.le_of_ble_eq_true rfl⟩) ?_
        refine lv_iload_n hx hb dX5_lowest_33 rfl (lv_at hl 2 rfl) ?_
        refine lv_icmp_ge (tgt := 41) hx hb dX5_lowest_34 (by decide) (fun c8 => ?_) (fun c8 => ?_)
        · have h := (if_pos c8).symm.trans h
          exact J41 x1 x2 x3 h _ (lv_sub hl [0, 1, 2, 3] rfl)
        · have h := (if_neg c8).symm.trans h
          refine lv_iconst (v := 1) hx hb dX5_lowest_37 (by decide) ?_
          refine lv_goto (tgt := 42) hx hb dX5_lowest_38 (by decide) ?_
          exact J42 x1 x2 x3 (1 : Int32) h _ (lv_sub hl [0, 1, 2, 3] rfl)
  refine lv_sipush (v := 128) hx hb dX5_lowest_0 (by decide) ?_
  refine lv_istore_n (lv' := [(2, .int (128 : Int32)), (0, .ref (ga 0)), (1, .int p0)]) hx hb dX5_lowest_3 rfl hl (by decide) rfl (fun ls hl => ?_)
  refine lv_iconst (v := 0) hx hb dX5_lowest_4 (by decide) ?_
  refine lv_istore_n (lv' := [(3, .int (0 : Int32)), (2, .int (128 : Int32)), (0, .ref (ga 0)), (1, .int p0)]) hx hb dX5_lowest_5 rfl hl (by decide) rfl (fun ls hl => ?_)
  obtain ⟨b9, e_b9, h⟩ := bnd h
  refine L6 _ _ _ e_b9 ?_ _ (lv_sub hl [2, 3, 1, 0] rfl)
  intro ls hl
  refine lv_iload_n hx hb dX5_lowest_68 rfl (lv_at hl 0 rfl) ?_
  exact retR hQ S hr hlocks h dX5_lowest_69

theorem cc_X5_37 {p : Program} {l : Launch} {e : Env} {R : Room} {s : State} {m : MethodId} {args : Array Value} {below : List Frame} {meth : Method} {c : Code} {H : Heap} {locs : List Loc} {cells slots : Nat} {cc : ByteArray} {pc nL : Nat} {ls : Array Slot} {rest : List Value} {G : va_G} (ga : Nat → Nat) {cI cS : ClassId} {u : TM}  {p0 : Int32} {r : Int32} (S : CallFix p m c cc nL s args bw RX5) (hK : va_K G vwCl (tysW cI cS) s) (hN : NW s) (hP : va_P G vwCl (wM cI ga u) H) (hf : fX5_lowest u p0 = some r) (hsz : ls.size = nL) (hst : (rest.map fun v => v.category).sum ≤ 8) (hR : rmX5_lowest.frames + 1 ≤ R.frames ∧ 8 + (5 + 11) + rmX5_lowest.locals ≤ R.locals) (hdg : decode cc pc = .ok (.invokevirtual 37, 3)) (hcs : cells + 0 ≤ R.cells ∧ slots + 0 ≤ R.slots) : va_Run p l e R s m args below meth c H locs cells slots 0 0 (F0 m pc ls (.int p0 :: .ref (ga 0) :: rest)) rest (vp_Si (fun r' => r' = r) (#[.ref (ga 0), .int p0] : Array Value)) (fun _ => False) :=
  va_runV (As := [.int p0]) (rest := rest) S (kX5_lowest l G cI cS ga u p0 r hf) (cwV 1 S.2.2.2.2 (gdV q_403 q_404 q_405 q_392 q_398) rfl rfl rfl (by decide +kernel) hR) (pvR (q := (RX5, TX5, 12)) hK hN hP (ci := 5) (q0 := 0) rfl rfl) rfl rfl hsz rfl (lv_room hst) hdg hcs
def fX5_gapOf (u : TM) (p0 : Int32) : Option (Int32) := ((fX5_lowest u p0).bind fun z1 => ((fX5_of u p0 (0 : Int32)).bind fun z2 => some ((z1 - (2 : Int32)) - ((2 : Int32) * z2))))
abbrev rmX5_gapOf : Room := { frames := 3, cells := 0, slots := 0, locals := 68 }
set_option maxRecDepth 100000 in
set_option maxHeartbeats 4000000 in
theorem kX5_gapOf (l : Launch) (G : va_G) (cI cS : ClassId) (ga : Nat → Nat) (u : TM) (p0 : Int32) (r : Int32) (hf : fX5_gapOf u p0 = some r) : Met l yX5_gapOf (.code yX5_gapOf cX5_gapOf 2 (some .int) :: bw) rmX5_gapOf (va_Pc [.ref (ga 0), .int p0] (PreR G (tysW cI cS) (wM cI ga u))) (vp_Si (fun r' => r' = r)) 0 0 (fun _ => False) := by
  refine enterR (own := RX5) (by decide) rfl rfl (Nat.le_of_ble_eq_true rfl) ?_
  intro p e s m args below meth c Q hQ S hr hlocks hP hK hN ls hl
  have hx := S.1; have hb := S.2.1; have hml := S.2.2.1; have hown := S.2.2.2.1; have hq := S.2.2.2.2
  have hl : lv_has ls 2 [(0, .ref (ga 0)), (1, .int p0)] := hl
  have h := hf
  unfold fX5_gapOf at h
  refine lv_aload_n hx hb dX5_gapOf_0 rfl (lv_at hl 0 rfl) ?_
  refine lv_iload_n hx hb dX5_gapOf_1 rfl (lv_at hl 1 rfl) ?_
  obtain ⟨z1, e_z1, h⟩ := bnd h
  refine roI (cc_X5_37 ga S hK hN hP e_z1 hl.1 (Nat.le_of_ble_eq_true rfl) ⟨Nat.le_of_ble_eq_true rfl, Nat.le_of_ble_eq_true rfl⟩ dX5_gapOf_2 ⟨Nat.le_of_ble_eq_true rfl, Nat.le_of_ble_eq_true rfl⟩) ?_
  refine lv_iconst (v := 2) hx hb dX5_gapOf_5 (by decide) ?_
  refine lv_isub hx hb dX5_gapOf_6 ?_
  refine lv_iconst (v := 2) hx hb dX5_gapOf_7 (by decide) ?_
  refine lv_aload_n hx hb dX5_gapOf_8 rfl (lv_at hl 0 rfl) ?_
  refine lv_iload_n hx hb dX5_gapOf_9 rfl (lv_at hl 1 rfl) ?_
  refine lv_iconst (v := 0) hx hb dX5_gapOf_10 (by decide) ?_
  obtain ⟨z2, e_z2, h⟩ := bnd h
  refine roI (cc_X5_26 ga S hK hN hP e_z2 hl.1 (Nat.le_of_ble_eq_true rfl) ⟨Nat.le_of_ble_eq_true rfl, Nat.le_of_ble_eq_true rfl⟩ dX5_gapOf_11 ⟨Nat.le_of_ble_eq_true rfl, Nat.le_of_ble_eq_true rfl⟩) ?_
  refine lv_imul hx hb dX5_gapOf_14 ?_
  refine lv_isub hx hb dX5_gapOf_15 ?_
  exact retR hQ S hr hlocks h dX5_gapOf_16

def fX5_sizes_s4 (u : TM) (x1 : Int32) (x2 : Int32) (x3 : Int32) : Option ((Int32 × Int32 × Int32) ⊕ (Int32)) := ((fX5_of u x1 (0 : Int32)).bind fun z1 => (if z1 ≤ x3 then some (.inr x2) else ((fX5_sizeOf u x1 x3).bind fun z3 => some (.inl (x1, (x2 + z3), (x3 + 1))))))
def fX5_sizes (u : TM) (p0 : Int32) : Option (Int32) := ((itr (fun a : Int32 × Int32 × Int32 => fX5_sizes_s4 u a.1 a.2.1 a.2.2) FU (p0, (0 : Int32), (0 : Int32))).bind fun b4 => some b4)
abbrev rmX5_sizes : Room := { frames := 2, cells := 0, slots := 0, locals := 44 }
set_option maxRecDepth 100000 in
set_option maxHeartbeats 4000000 in
theorem kX5_sizes (l : Launch) (G : va_G) (cI cS : ClassId) (ga : Nat → Nat) (u : TM) (p0 : Int32) (r : Int32) (hf : fX5_sizes u p0 = some r) : Met l yX5_sizes (.code yX5_sizes cX5_sizes 4 (some .int) :: bw) rmX5_sizes (va_Pc [.ref (ga 0), .int p0] (PreR G (tysW cI cS) (wM cI ga u))) (vp_Si (fun r' => r' = r)) 0 0 (fun _ => False) := by
  refine enterR (own := RX5) (by decide) rfl rfl (Nat.le_of_ble_eq_true rfl) ?_
  intro p e s m args below meth c Q hQ S hr hlocks hP hK hN ls hl
  have hx := S.1; have hb := S.2.1; have hml := S.2.2.1; have hown := S.2.2.2.1; have hq := S.2.2.2.2
  have hl : lv_has ls 4 [(0, .ref (ga 0)), (1, .int p0)] := hl
  have h := hf
  unfold fX5_sizes at h
  have L4 : ∀ (n9 : Nat) (a9 : Int32 × Int32 × Int32) (b9 : Int32), itr (fun a : Int32 × Int32 × Int32 => fX5_sizes_s4 u a.1 a.2.1 a.2.2) n9 a9 = some b9 → (fun b : Int32 => ∀ ls : Array Slot, lv_has ls 4 [(2, .int b)] → W p l e rmX5_sizes s m args below meth c s.heap [] 0 0 Q (F0 m 29 ls [])) b9 → (fun a : Int32 × Int32 × Int32 => ∀ ls : Array Slot, lv_has ls 4 [(0, .ref (ga 0)), (1, .int a.1), (2, .int a.2.1), (3, .int a.2.2)] → W p l e rmX5_sizes s m args below meth c s.heap [] 0 0 Q (F0 m 4 ls [])) a9 := by
    refine itr_ind (Inv := (fun a : Int32 × Int32 × Int32 => ∀ ls : Array Slot, lv_has ls 4 [(0, .ref (ga 0)), (1, .int a.1), (2, .int a.2.1), (3, .int a.2.2)] → W p l e rmX5_sizes s m args below meth c s.heap [] 0 0 Q (F0 m 4 ls []))) (Ex := (fun b : Int32 => ∀ ls : Array Slot, lv_has ls 4 [(2, .int b)] → W p l e rmX5_sizes s m args below meth c s.heap [] 0 0 Q (F0 m 29 ls []))) ?_
    rintro ⟨x1, x2, x3⟩ z h hI hE
    have h : fX5_sizes_s4 u x1 x2 x3 = some z := h
    unfold fX5_sizes_s4 at h
    show ∀ ls : Array Slot, lv_has ls 4 [(0, .ref (ga 0)), (1, .int x1), (2, .int x2), (3, .int x3)] → W p l e rmX5_sizes s m args below meth c s.heap [] 0 0 Q (F0 m 4 ls [])
    intro ls hl
    refine lv_iload_n hx hb dX5_sizes_4 rfl (lv_at hl 3 rfl) ?_
    refine lv_aload_n hx hb dX5_sizes_5 rfl (lv_at hl 0 rfl) ?_
    refine lv_iload_n hx hb dX5_sizes_6 rfl (lv_at hl 1 rfl) ?_
    refine lv_iconst (v := 0) hx hb dX5_sizes_7 (by decide) ?_
    obtain ⟨z1, e_z1, h⟩ := bnd h
    refine roI (cc_X5_26 ga S hK hN hP e_z1 hl.1 (Nat.le_of_ble_eq_true rfl) ⟨Nat.le_of_ble_eq_true rfl, Nat.le_of_ble_eq_true rfl⟩ dX5_sizes_8 ⟨Nat.le_of_ble_eq_true rfl, Nat.le_of_ble_eq_true rfl⟩) ?_
    refine lv_icmp_ge (tgt := 29) hx hb dX5_sizes_11 (by decide) (fun c2 => ?_) (fun c2 => ?_)
    · have h := (if_pos c2).symm.trans h
      exact hE _ (Option.some.inj h) _ (lv_sub hl [2] rfl)
    · have h := (if_neg c2).symm.trans h
      refine lv_iload_n hx hb dX5_sizes_14 rfl (lv_at hl 2 rfl) ?_
      refine lv_aload_n hx hb dX5_sizes_15 rfl (lv_at hl 0 rfl) ?_
      refine lv_iload_n hx hb dX5_sizes_16 rfl (lv_at hl 1 rfl) ?_
      refine lv_iload_n hx hb dX5_sizes_17 rfl (lv_at hl 3 rfl) ?_
      obtain ⟨z3, e_z3, h⟩ := bnd h
      refine roI (cc_X5_34 ga S hK hN hP e_z3 hl.1 (Nat.le_of_ble_eq_true rfl) ⟨Nat.le_of_ble_eq_true rfl, Nat.le_of_ble_eq_true rfl⟩ dX5_sizes_18 ⟨Nat.le_of_ble_eq_true rfl, Nat.le_of_ble_eq_true rfl⟩) ?_
      refine lv_iadd hx hb dX5_sizes_21 ?_
      refine lv_istore_n (lv' := [(2, .int (x2 + z3)), (0, .ref (ga 0)), (1, .int x1), (3, .int x3)]) hx hb dX5_sizes_22 rfl hl (by decide) rfl (fun ls hl => ?_)
      refine lv_iinc (v := (x3 + 1)) (lv' := [(3, .int (x3 + 1)), (2, .int (x2 + z3)), (0, .ref (ga 0)), (1, .int x1)]) hx hb dX5_sizes_23 hl (k := 3) rfl rfl (by decide) rfl (fun ls hl => ?_)
      refine lv_goto (tgt := 4) hx hb dX5_sizes_26 (by decide) ?_
      exact hI _ (Option.some.inj h) _ (lv_sub hl [2, 3, 1, 0] rfl)
  refine lv_iconst (v := 0) hx hb dX5_sizes_0 (by decide) ?_
  refine lv_istore_n (lv' := [(2, .int (0 : Int32)), (0, .ref (ga 0)), (1, .int p0)]) hx hb dX5_sizes_1 rfl hl (by decide) rfl (fun ls hl => ?_)
  refine lv_iconst (v := 0) hx hb dX5_sizes_2 (by decide) ?_
  refine lv_istore_n (lv' := [(3, .int (0 : Int32)), (2, .int (0 : Int32)), (0, .ref (ga 0)), (1, .int p0)]) hx hb dX5_sizes_3 rfl hl (by decide) rfl (fun ls hl => ?_)
  obtain ⟨b4, e_b4, h⟩ := bnd h
  refine L4 _ _ _ e_b4 ?_ _ (lv_sub hl [2, 3, 1, 0] rfl)
  intro ls hl
  refine lv_iload_n hx hb dX5_sizes_29 rfl (lv_at hl 0 rfl) ?_
  exact retR hQ S hr hlocks h dX5_sizes_30

theorem cc_X5_41 {p : Program} {l : Launch} {e : Env} {R : Room} {s : State} {m : MethodId} {args : Array Value} {below : List Frame} {meth : Method} {c : Code} {H : Heap} {locs : List Loc} {cells slots : Nat} {cc : ByteArray} {pc nL : Nat} {ls : Array Slot} {rest : List Value} {G : va_G} (ga : Nat → Nat) {cI cS : ClassId} {u : TM}  {p0 : Int32} {r : Int32} (S : CallFix p m c cc nL s args bw RX5) (hK : va_K G vwCl (tysW cI cS) s) (hN : NW s) (hP : va_P G vwCl (wM cI ga u) H) (hf : fX5_sizes u p0 = some r) (hsz : ls.size = nL) (hst : (rest.map fun v => v.category).sum ≤ 8) (hR : rmX5_sizes.frames + 1 ≤ R.frames ∧ 8 + (4 + 11) + rmX5_sizes.locals ≤ R.locals) (hdg : decode cc pc = .ok (.invokevirtual 41, 3)) (hcs : cells + 0 ≤ R.cells ∧ slots + 0 ≤ R.slots) : va_Run p l e R s m args below meth c H locs cells slots 0 0 (F0 m pc ls (.int p0 :: .ref (ga 0) :: rest)) rest (vp_Si (fun r' => r' = r) (#[.ref (ga 0), .int p0] : Array Value)) (fun _ => False) :=
  va_runV (As := [.int p0]) (rest := rest) S (kX5_sizes l G cI cS ga u p0 r hf) (cwV 1 S.2.2.2.2 (gdV q_408 q_409 q_410 q_392 q_406) rfl rfl rfl (by decide +kernel) hR) (pvR (q := (RX5, TX5, 12)) hK hN hP (ci := 5) (q0 := 0) rfl rfl) rfl rfl hsz rfl (lv_room hst) hdg hcs
def fX5_freeOf (u : TM) (p0 : Int32) : Option (Int32) := ((fX5_of u p0 (0 : Int32)).bind fun z1 => ((fX5_sizes u p0).bind fun z2 => some (((126 : Int32) - ((2 : Int32) * z1)) - z2)))
abbrev rmX5_freeOf : Room := { frames := 3, cells := 0, slots := 0, locals := 67 }
set_option maxRecDepth 100000 in
set_option maxHeartbeats 4000000 in
theorem kX5_freeOf (l : Launch) (G : va_G) (cI cS : ClassId) (ga : Nat → Nat) (u : TM) (p0 : Int32) (r : Int32) (hf : fX5_freeOf u p0 = some r) : Met l yX5_freeOf (.code yX5_freeOf cX5_freeOf 2 (some .int) :: bw) rmX5_freeOf (va_Pc [.ref (ga 0), .int p0] (PreR G (tysW cI cS) (wM cI ga u))) (vp_Si (fun r' => r' = r)) 0 0 (fun _ => False) := by
  refine enterR (own := RX5) (by decide) rfl rfl (Nat.le_of_ble_eq_true rfl) ?_
  intro p e s m args below meth c Q hQ S hr hlocks hP hK hN ls hl
  have hx := S.1; have hb := S.2.1; have hml := S.2.2.1; have hown := S.2.2.2.1; have hq := S.2.2.2.2
  have hl : lv_has ls 2 [(0, .ref (ga 0)), (1, .int p0)] := hl
  have h := hf
  unfold fX5_freeOf at h
  refine lv_bipush (v := 126) hx hb dX5_freeOf_0 (by decide) ?_
  refine lv_iconst (v := 2) hx hb dX5_freeOf_2 (by decide) ?_
  refine lv_aload_n hx hb dX5_freeOf_3 rfl (lv_at hl 0 rfl) ?_
  refine lv_iload_n hx hb dX5_freeOf_4 rfl (lv_at hl 1 rfl) ?_
  refine lv_iconst (v := 0) hx hb dX5_freeOf_5 (by decide) ?_
  obtain ⟨z1, e_z1, h⟩ := bnd h
  refine roI (cc_X5_26 ga S hK hN hP e_z1 hl.1 (Nat.le_of_ble_eq_true rfl) ⟨Nat.le_of_ble_eq_true rfl, Nat.le_of_ble_eq_true rfl⟩ dX5_freeOf_6 ⟨Nat.le_of_ble_eq_true rfl, Nat.le_of_ble_eq_true rfl⟩) ?_
  refine lv_imul hx hb dX5_freeOf_9 ?_
  refine lv_isub hx hb dX5_freeOf_10 ?_
  refine lv_aload_n hx hb dX5_freeOf_11 rfl (lv_at hl 0 rfl) ?_
  refine lv_iload_n hx hb dX5_freeOf_12 rfl (lv_at hl 1 rfl) ?_
  obtain ⟨z2, e_z2, h⟩ := bnd h
  refine roI (cc_X5_41 ga S hK hN hP e_z2 hl.1 (Nat.le_of_ble_eq_true rfl) ⟨Nat.le_of_ble_eq_true rfl, Nat.le_of_ble_eq_true rfl⟩ dX5_freeOf_13 ⟨Nat.le_of_ble_eq_true rfl, Nat.le_of_ble_eq_true rfl⟩) ?_
  refine lv_isub hx hb dX5_freeOf_16 ?_
  exact retR hQ S hr hlocks h dX5_freeOf_17

def fX5_byteOfPage (u : TM) (p0 : Int32) (p1 : Int32) : Option (Int32) := (if (2 : Int32) ≤ p1 then ((fX5_of u p0 (0 : Int32)).bind fun z2 => (if z2 ≤ ((p1 - (2 : Int32)) / (2 : Int32)) then ((fX5_of u p0 ((63 : Int32) + p1)).bind fun z4 => some z4) else (if (p1 - p1 / (2 : Int32) * (2 : Int32)) = 0 then ((fX5_of u p0 ((1 : Int32) + ((p1 - (2 : Int32)) / (2 : Int32)))).bind fun z7 => some z7) else ((fX5_sizeOf u p0 ((p1 - (2 : Int32)) / (2 : Int32))).bind fun z6 => some z6)))) else (if p1 = 0 then ((fX5_of u p0 (0 : Int32)).bind fun z10 => some z10) else ((fX5_lowest u p0).bind fun z9 => some z9)))
abbrev rmX5_byteOfPage : Room := { frames := 3, cells := 0, slots := 0, locals := 68 }
set_option maxRecDepth 100000 in
set_option maxHeartbeats 4000000 in
theorem kX5_byteOfPage (l : Launch) (G : va_G) (cI cS : ClassId) (ga : Nat → Nat) (u : TM) (p0 : Int32) (p1 : Int32) (r : Int32) (hf : fX5_byteOfPage u p0 p1 = some r) : Met l yX5_byteOfPage (.code yX5_byteOfPage cX5_byteOfPage 4 (some .int) :: bw) rmX5_byteOfPage (va_Pc [.ref (ga 0), .int p0, .int p1] (PreR G (tysW cI cS) (wM cI ga u))) (vp_Si (fun r' => r' = r)) 0 0 (fun _ => False) := by
  refine enterR (own := RX5) (by decide) rfl rfl (Nat.le_of_ble_eq_true rfl) ?_
  intro p e s m args below meth c Q hQ S hr hlocks hP hK hN ls hl
  have hx := S.1; have hb := S.2.1; have hml := S.2.2.1; have hown := S.2.2.2.1; have hq := S.2.2.2.2
  have hl : lv_has ls 4 [(0, .ref (ga 0)), (1, .int p0), (2, .int p1)] := hl
  have h := hf
  unfold fX5_byteOfPage at h
  refine lv_iload_n hx hb dX5_byteOfPage_0 rfl (lv_at hl 2 rfl) ?_
  refine lv_iconst (v := 2) hx hb dX5_byteOfPage_1 (by decide) ?_
  refine lv_isub hx hb dX5_byteOfPage_2 ?_
  refine lv_iconst (v := 2) hx hb dX5_byteOfPage_3 (by decide) ?_
  refine lv_idiv hx hb dX5_byteOfPage_4 (by decide) ?_
  refine lv_istore_n (lv' := [(3, .int ((p1 - (2 : Int32)) / (2 : Int32))), (0, .ref (ga 0)), (1, .int p0), (2, .int p1)]) hx hb dX5_byteOfPage_5 rfl hl (by decide) rfl (fun ls hl => ?_)
  refine lv_iload_n hx hb dX5_byteOfPage_6 rfl (lv_at hl 3 rfl) ?_
  refine lv_iconst (v := 2) hx hb dX5_byteOfPage_7 (by decide) ?_
  refine lv_icmp_ge (tgt := 30) hx hb dX5_byteOfPage_8 (by decide) (fun c1 => ?_) (fun c1 => ?_)
  · have h := (if_pos c1).symm.trans h
    refine lv_iload_n hx hb dX5_byteOfPage_30 rfl (lv_at hl 0 rfl) ?_
    refine lv_aload_n hx hb dX5_byteOfPage_31 rfl (lv_at hl 1 rfl) ?_
    refine lv_iload_n hx hb dX5_byteOfPage_32 rfl (lv_at hl 2 rfl) ?_
    refine lv_iconst (v := 0) hx hb dX5_byteOfPage_33 (by decide) ?_
    obtain ⟨z2, e_z2, h⟩ := bnd h
    refine roI (cc_X5_26 ga S hK hN hP e_z2 hl.1 (Nat.le_of_ble_eq_true rfl) ⟨Nat.le_of_ble_eq_true rfl, Nat.le_of_ble_eq_true rfl⟩ dX5_byteOfPage_34 ⟨Nat.le_of_ble_eq_true rfl, Nat.le_of_ble_eq_true rfl⟩) ?_
    refine lv_icmp_ge (tgt := 64) hx hb dX5_byteOfPage_37 (by decide) (fun c3 => ?_) (fun c3 => ?_)
    · have h := (if_pos c3).symm.trans h
      refine lv_aload_n hx hb dX5_byteOfPage_64 rfl (lv_at hl 1 rfl) ?_
      refine lv_iload_n hx hb dX5_byteOfPage_65 rfl (lv_at hl 2 rfl) ?_
      refine lv_bipush (v := 63) hx hb dX5_byteOfPage_66 (by decide) ?_
      refine lv_iload_n hx hb dX5_byteOfPage_68 rfl (lv_at hl 3 rfl) ?_
      refine lv_iadd hx hb dX5_byteOfPage_69 ?_
      obtain ⟨z4, e_z4, h⟩ := bnd h
      refine roI (cc_X5_26 ga S hK hN hP e_z4 hl.1 (Nat.le_of_ble_eq_true rfl) ⟨Nat.le_of_ble_eq_true rfl, Nat.le_of_ble_eq_true rfl⟩ dX5_byteOfPage_70 ⟨Nat.le_of_ble_eq_true rfl, Nat.le_of_ble_eq_true rfl⟩) ?_
      exact retR hQ S hr hlocks h dX5_byteOfPage_73
    · have h := (if_neg c3).symm.trans h
      refine lv_iload_n hx hb dX5_byteOfPage_40 rfl (lv_at hl 3 rfl) ?_
      refine lv_iconst (v := 2) hx hb dX5_byteOfPage_41 (by decide) ?_
      refine lv_irem hx hb dX5_byteOfPage_42 (by decide) ?_
      refine lv_if_ne (tgt := 57) hx hb dX5_byteOfPage_43 (by decide) (fun c5 => ?_) (fun c5 => ?_)
      · have h := (if_neg c5).symm.trans h
        refine lv_aload_n hx hb dX5_byteOfPage_57 rfl (lv_at hl 1 rfl) ?_
        refine lv_iload_n hx hb dX5_byteOfPage_58 rfl (lv_at hl 2 rfl) ?_
        refine lv_iload_n hx hb dX5_byteOfPage_59 rfl (lv_at hl 0 rfl) ?_
        obtain ⟨z6, e_z6, h⟩ := bnd h
        refine roI (cc_X5_34 ga S hK hN hP e_z6 hl.1 (Nat.le_of_ble_eq_true rfl) ⟨Nat.le_of_ble_eq_true rfl, Nat.le_of_ble_eq_true rfl⟩ dX5_byteOfPage_60 ⟨Nat.le_of_ble_eq_true rfl, Nat.le_of_ble_eq_true rfl⟩) ?_
        exact retR hQ S hr hlocks h dX5_byteOfPage_63
      · have h := (if_pos c5).symm.trans h
        refine lv_aload_n hx hb dX5_byteOfPage_46 rfl (lv_at hl 1 rfl) ?_
        refine lv_iload_n hx hb dX5_byteOfPage_47 rfl (lv_at hl 2 rfl) ?_
        refine lv_iconst (v := 1) hx hb dX5_byteOfPage_48 (by decide) ?_
        refine lv_iload_n hx hb dX5_byteOfPage_49 rfl (lv_at hl 0 rfl) ?_
        refine lv_iadd hx hb dX5_byteOfPage_50 ?_
        obtain ⟨z7, e_z7, h⟩ := bnd h
        refine roI (cc_X5_26 ga S hK hN hP e_z7 hl.1 (Nat.le_of_ble_eq_true rfl) ⟨Nat.le_of_ble_eq_true rfl, Nat.le_of_ble_eq_true rfl⟩ dX5_byteOfPage_51 ⟨Nat.le_of_ble_eq_true rfl, Nat.le_of_ble_eq_true rfl⟩) ?_
        refine lv_goto (tgt := 63) hx hb dX5_byteOfPage_54 (by decide) ?_
        exact retR hQ S hr hlocks h dX5_byteOfPage_63
  · have h := (if_neg c1).symm.trans h
    refine lv_iload_n hx hb dX5_byteOfPage_11 rfl (lv_at hl 3 rfl) ?_
    refine lv_if_ne (tgt := 24) hx hb dX5_byteOfPage_12 (by decide) (fun c8 => ?_) (fun c8 => ?_)
    · have h := (if_neg c8).symm.trans h
      refine lv_aload_n hx hb dX5_byteOfPage_24 rfl (lv_at hl 1 rfl) ?_
      refine lv_iload_n hx hb dX5_byteOfPage_25 rfl (lv_at hl 2 rfl) ?_
      obtain ⟨z9, e_z9, h⟩ := bnd h
      refine roI (cc_X5_37 ga S hK hN hP e_z9 hl.1 (Nat.le_of_ble_eq_true rfl) ⟨Nat.le_of_ble_eq_true rfl, Nat.le_of_ble_eq_true rfl⟩ dX5_byteOfPage_26 ⟨Nat.le_of_ble_eq_true rfl, Nat.le_of_ble_eq_true rfl⟩) ?_
      exact retR hQ S hr hlocks h dX5_byteOfPage_29
    · have h := (if_pos c8).symm.trans h
      refine lv_aload_n hx hb dX5_byteOfPage_15 rfl (lv_at hl 1 rfl) ?_
      refine lv_iload_n hx hb dX5_byteOfPage_16 rfl (lv_at hl 2 rfl) ?_
      refine lv_iconst (v := 0) hx hb dX5_byteOfPage_17 (by decide) ?_
      obtain ⟨z10, e_z10, h⟩ := bnd h
      refine roI (cc_X5_26 ga S hK hN hP e_z10 hl.1 (Nat.le_of_ble_eq_true rfl) ⟨Nat.le_of_ble_eq_true rfl, Nat.le_of_ble_eq_true rfl⟩ dX5_byteOfPage_18 ⟨Nat.le_of_ble_eq_true rfl, Nat.le_of_ble_eq_true rfl⟩) ?_
      refine lv_goto (tgt := 29) hx hb dX5_byteOfPage_21 (by decide) ?_
      exact retR hQ S hr hlocks h dX5_byteOfPage_29

def fX5_emptySlot_s2 (u : TM) (x1 : Int32) (x2 : Int32) : Option ((Int32 × Int32) ⊕ (Nat × (Int32))) := ((fX5_of u x1 (0 : Int32)).bind fun z1 => (if z1 ≤ x2 then some (.inr (1, (0 : Int32))) else ((fX5_sizeOf u x1 x2).bind fun z3 => (if z3 = 0 then some (.inr (0, x2)) else some (.inl (x1, (x2 + 1)))))))
def fX5_emptySlot (u : TM) (p0 : Int32) : Option (Int32) := ((itr (fun a : Int32 × Int32 => fX5_emptySlot_s2 u a.1 a.2) FU (p0, (0 : Int32))).bind fun b5 => (if b5.1 = 0 then some b5.2 else some ((-1) : Int32)))
abbrev rmX5_emptySlot : Room := { frames := 2, cells := 0, slots := 0, locals := 44 }
set_option maxRecDepth 100000 in
set_option maxHeartbeats 4000000 in
theorem kX5_emptySlot (l : Launch) (G : va_G) (cI cS : ClassId) (ga : Nat → Nat) (u : TM) (p0 : Int32) (r : Int32) (hf : fX5_emptySlot u p0 = some r) : Met l yX5_emptySlot (.code yX5_emptySlot cX5_emptySlot 3 (some .int) :: bw) rmX5_emptySlot (va_Pc [.ref (ga 0), .int p0] (PreR G (tysW cI cS) (wM cI ga u))) (vp_Si (fun r' => r' = r)) 0 0 (fun _ => False) := by
  refine enterR (own := RX5) (by decide) rfl rfl (Nat.le_of_ble_eq_true rfl) ?_
  intro p e s m args below meth c Q hQ S hr hlocks hP hK hN ls hl
  have hx := S.1; have hb := S.2.1; have hml := S.2.2.1; have hown := S.2.2.2.1; have hq := S.2.2.2.2
  have hl : lv_has ls 3 [(0, .ref (ga 0)), (1, .int p0)] := hl
  have h := hf
  unfold fX5_emptySlot at h
  have L2 : ∀ (n9 : Nat) (a9 : Int32 × Int32) (b9 : Nat × (Int32)), itr (fun a : Int32 × Int32 => fX5_emptySlot_s2 u a.1 a.2) n9 a9 = some b9 → (fun b : Nat × (Int32) => (b.1 = 0 → ∀ ls : Array Slot, lv_has ls 3 [(2, .int b.2)] → W p l e rmX5_emptySlot s m args below meth c s.heap [] 0 0 Q (F0 m 21 ls [])) ∧ (¬ b.1 = 0 → ∀ ls : Array Slot, lv_has ls 3 [] → W p l e rmX5_emptySlot s m args below meth c s.heap [] 0 0 Q (F0 m 29 ls []))) b9 → (fun a : Int32 × Int32 => ∀ ls : Array Slot, lv_has ls 3 [(0, .ref (ga 0)), (1, .int a.1), (2, .int a.2)] → W p l e rmX5_emptySlot s m args below meth c s.heap [] 0 0 Q (F0 m 2 ls [])) a9 := by
    refine itr_ind (Inv := (fun a : Int32 × Int32 => ∀ ls : Array Slot, lv_has ls 3 [(0, .ref (ga 0)), (1, .int a.1), (2, .int a.2)] → W p l e rmX5_emptySlot s m args below meth c s.heap [] 0 0 Q (F0 m 2 ls []))) (Ex := (fun b : Nat × (Int32) => (b.1 = 0 → ∀ ls : Array Slot, lv_has ls 3 [(2, .int b.2)] → W p l e rmX5_emptySlot s m args below meth c s.heap [] 0 0 Q (F0 m 21 ls [])) ∧ (¬ b.1 = 0 → ∀ ls : Array Slot, lv_has ls 3 [] → W p l e rmX5_emptySlot s m args below meth c s.heap [] 0 0 Q (F0 m 29 ls [])))) ?_
    rintro ⟨x1, x2⟩ z h hI hE
    have h : fX5_emptySlot_s2 u x1 x2 = some z := h
    unfold fX5_emptySlot_s2 at h
    show ∀ ls : Array Slot, lv_has ls 3 [(0, .ref (ga 0)), (1, .int x1), (2, .int x2)] → W p l e rmX5_emptySlot s m args below meth c s.heap [] 0 0 Q (F0 m 2 ls [])
    intro ls hl
    refine lv_iload_n hx hb dX5_emptySlot_2 rfl (lv_at hl 2 rfl) ?_
    refine lv_aload_n hx hb dX5_emptySlot_3 rfl (lv_at hl 0 rfl) ?_
    refine lv_iload_n hx hb dX5_emptySlot_4 rfl (lv_at hl 1 rfl) ?_
    refine lv_iconst (v := 0) hx hb dX5_emptySlot_5 (by decide) ?_
    obtain ⟨z1, e_z1, h⟩ := bnd h
    refine roI (cc_X5_26 ga S hK hN hP e_z1 hl.1 (Nat.le_of_ble_eq_true rfl) ⟨Nat.le_of_ble_eq_true rfl, Nat.le_of_ble_eq_true rfl⟩ dX5_emptySlot_6 ⟨Nat.le_of_ble_eq_true rfl, Nat.le_of_ble_eq_true rfl⟩) ?_
    refine lv_icmp_ge (tgt := 29) hx hb dX5_emptySlot_9 (by decide) (fun c2 => ?_) (fun c2 => ?_)
    · have h := (if_pos c2).symm.trans h
      exact (hE _ (Option.some.inj h)).2 (fun q => nomatch q) _ (lv_sub hl [] rfl)
    · have h := (if_neg c2).symm.trans h
      refine lv_aload_n hx hb dX5_emptySlot_12 rfl (lv_at hl 0 rfl) ?_
      refine lv_iload_n hx hb dX5_emptySlot_13 rfl (lv_at hl 1 rfl) ?_
      refine lv_iload_n hx hb dX5_emptySlot_14 rfl (lv_at hl 2 rfl) ?_
      obtain ⟨z3, e_z3, h⟩ := bnd h
      refine roI (cc_X5_34 ga S hK hN hP e_z3 hl.1 (Nat.le_of_ble_eq_true rfl) ⟨Nat.le_of_ble_eq_true rfl, Nat.le_of_ble_eq_true rfl⟩ dX5_emptySlot_15 ⟨Nat.le_of_ble_eq_true rfl, Nat.le_of_ble_eq_true rfl⟩) ?_
      refine lv_if_ne (tgt := 23) hx hb dX5_emptySlot_18 (by decide) (fun c4 => ?_) (fun c4 => ?_)
      · have h := (if_neg c4).symm.trans h
        refine lv_iinc (v := (x2 + 1)) (lv' := [(2, .int (x2 + 1)), (0, .ref (ga 0)), (1, .int x1)]) hx hb dX5_emptySlot_23 hl (k := 2) rfl rfl (by decide) rfl (fun ls hl => ?_)
        refine lv_goto (tgt := 2) hx hb dX5_emptySlot_26 (by decide) ?_
        exact hI _ (Option.some.inj h) _ (lv_sub hl [1, 2, 0] rfl)
      · have h := (if_pos c4).symm.trans h
        exact (hE _ (Option.some.inj h)).1 rfl _ (lv_sub hl [2] rfl)
  refine lv_iconst (v := 0) hx hb dX5_emptySlot_0 (by decide) ?_
  refine lv_istore_n (lv' := [(2, .int (0 : Int32)), (0, .ref (ga 0)), (1, .int p0)]) hx hb dX5_emptySlot_1 rfl hl (by decide) rfl (fun ls hl => ?_)
  obtain ⟨b5, e_b5, h⟩ := bnd h
  refine L2 _ _ _ e_b5 ⟨?_, ?_⟩ _ (lv_sub hl [1, 2, 0] rfl)
  · skip
    intro c6
    have h := (if_pos c6).symm.trans h
    intro ls hl
    refine lv_iload_n hx hb dX5_emptySlot_21 rfl (lv_at hl 0 rfl) ?_
    exact retR hQ S hr hlocks h dX5_emptySlot_22
  · intro c7
    have h := (if_neg c7).symm.trans h
    intro ls hl
    refine lv_iconst (v := (-1)) hx hb dX5_emptySlot_29 (by decide) ?_
    exact retR hQ S hr hlocks h dX5_emptySlot_30

theorem cc_X5_44 {p : Program} {l : Launch} {e : Env} {R : Room} {s : State} {m : MethodId} {args : Array Value} {below : List Frame} {meth : Method} {c : Code} {H : Heap} {locs : List Loc} {cells slots : Nat} {cc : ByteArray} {pc nL : Nat} {ls : Array Slot} {rest : List Value} {G : va_G} (ga : Nat → Nat) {cI cS : ClassId} {u : TM}  {p0 : Int32} {r : Int32} (S : CallFix p m c cc nL s args bw RX5) (hK : va_K G vwCl (tysW cI cS) s) (hN : NW s) (hP : va_P G vwCl (wM cI ga u) H) (hf : fX5_emptySlot u p0 = some r) (hsz : ls.size = nL) (hst : (rest.map fun v => v.category).sum ≤ 8) (hR : rmX5_emptySlot.frames + 1 ≤ R.frames ∧ 8 + (3 + 11) + rmX5_emptySlot.locals ≤ R.locals) (hdg : decode cc pc = .ok (.invokevirtual 44, 3)) (hcs : cells + 0 ≤ R.cells ∧ slots + 0 ≤ R.slots) : va_Run p l e R s m args below meth c H locs cells slots 0 0 (F0 m pc ls (.int p0 :: .ref (ga 0) :: rest)) rest (vp_Si (fun r' => r' = r) (#[.ref (ga 0), .int p0] : Array Value)) (fun _ => False) :=
  va_runV (As := [.int p0]) (rest := rest) S (kX5_emptySlot l G cI cS ga u p0 r hf) (cwV 1 S.2.2.2.2 (gdV q_414 q_415 q_416 q_392 q_412) rfl rfl rfl (by decide +kernel) hR) (pvR (q := (RX5, TX5, 12)) hK hN hP (ci := 5) (q0 := 0) rfl rfl) rfl rfl hsz rfl (lv_room hst) hdg hcs
theorem cc_X5_47 {p : Program} {l : Launch} {e : Env} {R : Room} {s : State} {m : MethodId} {args : Array Value} {below : List Frame} {meth : Method} {c : Code} {H : Heap} {locs : List Loc} {cells slots : Nat} {cc : ByteArray} {pc nL : Nat} {ls : Array Slot} {rest : List Value} {G : va_G} (ga : Nat → Nat) {cI cS : ClassId} {u : TM}  {p0 : Int32} {r : Int32} (S : CallFix p m c cc nL s args bw RX5) (hK : va_K G vwCl (tysW cI cS) s) (hN : NW s) (hP : va_P G vwCl (wM cI ga u) H) (hf : fX5_freeOf u p0 = some r) (hsz : ls.size = nL) (hst : (rest.map fun v => v.category).sum ≤ 8) (hR : rmX5_freeOf.frames + 1 ≤ R.frames ∧ 8 + (2 + 11) + rmX5_freeOf.locals ≤ R.locals) (hdg : decode cc pc = .ok (.invokevirtual 47, 3)) (hcs : cells + 0 ≤ R.cells ∧ slots + 0 ≤ R.slots) : va_Run p l e R s m args below meth c H locs cells slots 0 0 (F0 m pc ls (.int p0 :: .ref (ga 0) :: rest)) rest (vp_Si (fun r' => r' = r) (#[.ref (ga 0), .int p0] : Array Value)) (fun _ => False) :=
  va_runV (As := [.int p0]) (rest := rest) S (kX5_freeOf l G cI cS ga u p0 r hf) (cwV 1 S.2.2.2.2 (gdV q_417 q_418 q_419 q_392 q_407) rfl rfl rfl (by decide +kernel) hR) (pvR (q := (RX5, TX5, 12)) hK hN hP (ci := 5) (q0 := 0) rfl rfl) rfl rfl hsz rfl (lv_room hst) hdg hcs
def fX5_hasRoom_j14 (u : TM) (x1 : Int32) (x2 : Int32) (t0 : Int32) : Option (Int32) := (if t0 = 0 then ((fX5_freeOf u x1).bind fun z2 => (if z2 < x2 then some (0 : Int32) else some (1 : Int32))) else ((fX5_of u x1 (0 : Int32)).bind fun z4 => (if (31 : Int32) ≤ z4 then some (0 : Int32) else ((fX5_freeOf u x1).bind fun z6 => (if z6 < (x2 + (2 : Int32)) then some (0 : Int32) else some (1 : Int32))))))
def fX5_hasRoom (u : TM) (p0 : Int32) (p1 : Int32) : Option (Int32) := ((fX5_emptySlot u p0).bind fun z8 => (if z8 = ((-1) : Int32) then fX5_hasRoom_j14 u p0 p1 (1 : Int32) else fX5_hasRoom_j14 u p0 p1 (0 : Int32)))
abbrev rmX5_hasRoom : Room := { frames := 4, cells := 0, slots := 0, locals := 88 }
set_option maxRecDepth 100000 in
set_option maxHeartbeats 4000000 in
theorem kX5_hasRoom (l : Launch) (G : va_G) (cI cS : ClassId) (ga : Nat → Nat) (u : TM) (p0 : Int32) (p1 : Int32) (r : Int32) (hf : fX5_hasRoom u p0 p1 = some r) : Met l yX5_hasRoom (.code yX5_hasRoom cX5_hasRoom 4 (some .boolean) :: bw) rmX5_hasRoom (va_Pc [.ref (ga 0), .int p0, .int p1] (PreR G (tysW cI cS) (wM cI ga u))) (vp_Si (fun r' => r' = r)) 0 0 (fun _ => False) := by
  refine enterR (own := RX5) (by decide) rfl rfl (Nat.le_of_ble_eq_true rfl) ?_
  intro p e s m args below meth c Q hQ S hr hlocks hP hK hN ls hl
  have hx := S.1; have hb := S.2.1; have hml := S.2.2.1; have hown := S.2.2.2.1; have hq := S.2.2.2.2
  have hl : lv_has ls 4 [(0, .ref (ga 0)), (1, .int p0), (2, .int p1)] := hl
  have h := hf
  unfold fX5_hasRoom at h
  have J14 : ∀ (x1 : Int32) (x2 : Int32) (t0 : Int32) , fX5_hasRoom_j14 u x1 x2 t0 = some r → ∀ ls : Array Slot, lv_has ls 4 [(0, .ref (ga 0)), (1, .int x1), (2, .int x2)] → W p l e rmX5_hasRoom s m args below meth c s.heap [] 0 0 Q (F0 m 14 ls [.int t0]) := by
    intro x1 x2 t0 h
    unfold fX5_hasRoom_j14 at h
    intro ls hl
    refine lv_istore_n (lv' := [(3, .int t0), (0, .ref (ga 0)), (1, .int x1), (2, .int x2)]) hx hb dX5_hasRoom_14 rfl hl (by decide) rfl (fun ls hl => ?_)
    refine lv_iload_n hx hb dX5_hasRoom_15 rfl (lv_at hl 0 rfl) ?_
    refine lv_if_eq (tgt := 49) hx hb dX5_hasRoom_16 (by decide) (fun c1 => ?_) (fun c1 => ?_)
    · have h := (if_pos c1).symm.trans h
      refine lv_iload_n hx hb dX5_hasRoom_49 rfl (lv_at hl 3 rfl) ?_
      refine lv_aload_n hx hb dX5_hasRoom_50 rfl (lv_at hl 1 rfl) ?_
      refine lv_iload_n hx hb dX5_hasRoom_51 rfl (lv_at hl 2 rfl) ?_
      obtain ⟨z2, e_z2, h⟩ := bnd h
      refine roI (cc_X5_47 ga S hK hN hP e_z2 hl.1 (Nat.le_of_ble_eq_true rfl) ⟨Nat.le_of_ble_eq_true rfl, Nat.le_of_ble_eq_true rfl⟩ dX5_hasRoom_52 ⟨Nat.le_of_ble_eq_true rfl, Nat.le_of_ble_eq_true rfl⟩) ?_
      refine lv_icmp_gt (tgt := 62) hx hb dX5_hasRoom_55 (by decide) (fun c3 => ?_) (fun c3 => ?_)
      · have h := (if_pos c3).symm.trans h
        refine lv_iconst (v := 0) hx hb dX5_hasRoom_62 (by decide) ?_
        exact retRz hQ S hr hlocks rfl h dX5_hasRoom_63
      · have h := (if_neg c3).symm.trans h
        refine lv_iconst (v := 1) hx hb dX5_hasRoom_58 (by decide) ?_
        refine lv_goto (tgt := 63) hx hb dX5_hasRoom_59 (by decide) ?_
        exact retRz hQ S hr hlocks rfl h dX5_hasRoom_63
    · have h := (if_neg c1).symm.trans h
      refine lv_aload_n hx hb dX5_hasRoom_19 rfl (lv_at hl 1 rfl) ?_
      refine lv_iload_n hx hb dX5_hasRoom_20 rfl (lv_at hl 2 rfl) ?_
      refine lv_iconst (v := 0) hx hb dX5_hasRoom_21 (by decide) ?_
      obtain ⟨z4, e_z4, h⟩ := bnd h
      refine roI (cc_X5_26 ga S hK hN hP e_z4 hl.1 (Nat.le_of_ble_eq_true rfl) ⟨Nat.le_of_ble_eq_true rfl, Nat.le_of_ble_eq_true rfl⟩ dX5_hasRoom_22 ⟨Nat.le_of_ble_eq_true rfl, Nat.le_of_ble_eq_true rfl⟩) ?_
      refine lv_bipush (v := 31) hx hb dX5_hasRoom_25 (by decide) ?_
      refine lv_icmp_ge (tgt := 45) hx hb dX5_hasRoom_27 (by decide) (fun c5 => ?_) (fun c5 => ?_)
      · have h := (if_pos c5).symm.trans h
        refine lv_iconst (v := 0) hx hb dX5_hasRoom_45 (by decide) ?_
        refine lv_goto (tgt := 63) hx hb dX5_hasRoom_46 (by decide) ?_
        exact retRz hQ S hr hlocks rfl h dX5_hasRoom_63
      · have h := (if_neg c5).symm.trans h
        refine lv_iload_n hx hb dX5_hasRoom_30 rfl (lv_at hl 3 rfl) ?_
        refine lv_iconst (v := 2) hx hb dX5_hasRoom_31 (by decide) ?_
        refine lv_iadd hx hb dX5_hasRoom_32 ?_
        refine lv_aload_n hx hb dX5_hasRoom_33 rfl (lv_at hl 1 rfl) ?_
        refine lv_iload_n hx hb dX5_hasRoom_34 rfl (lv_at hl 2 rfl) ?_
        obtain ⟨z6, e_z6, h⟩ := bnd h
        refine roI (cc_X5_47 ga S hK hN hP e_z6 hl.1 (Nat.le_of_ble_eq_true rfl) ⟨Nat.le_of_ble_eq_true rfl, Nat.le_of_ble_eq_true rfl⟩ dX5_hasRoom_35 ⟨Nat.le_of_ble_eq_true rfl, Nat.le_of_ble_eq_true rfl⟩) ?_
        refine lv_icmp_gt (tgt := 45) hx hb dX5_hasRoom_38 (by decide) (fun c7 => ?_) (fun c7 => ?_)
        · have h := (if_pos c7).symm.trans h
          refine lv_iconst (v := 0) hx hb dX5_hasRoom_45 (by decide) ?_
          refine lv_goto (tgt := 63) hx hb dX5_hasRoom_46 (by decide) ?_
          exact retRz hQ S hr hlocks rfl h dX5_hasRoom_63
        · have h := (if_neg c7).symm.trans h
          refine lv_iconst (v := 1) hx hb dX5_hasRoom_41 (by decide) ?_
          refine lv_goto (tgt := 63) hx hb dX5_hasRoom_42 (by decide) ?_
          exact retRz hQ S hr hlocks rfl h dX5_hasRoom_63
  refine lv_aload_n hx hb dX5_hasRoom_0 rfl (lv_at hl 0 rfl) ?_
  refine lv_iload_n hx hb dX5_hasRoom_1 rfl (lv_at hl 1 rfl) ?_
  obtain ⟨z8, e_z8, h⟩ := bnd h
  refine roI (cc_X5_44 ga S hK hN hP e_z8 hl.1 (Nat.le_of_ble_eq_true rfl) ⟨Nat.le_of_ble_eq_true rfl, Nat.le_of_ble_eq_true rfl⟩ dX5_hasRoom_2 ⟨Nat.le_of_ble_eq_true rfl, Nat.le_of_ble_eq_true rfl⟩) ?_
  refine lv_iconst (v := (-1)) hx hb dX5_hasRoom_5 (by decide) ?_
  refine lv_icmp_ne (tgt := 13) hx hb dX5_hasRoom_6 (by decide) (fun c9 => ?_) (fun c9 => ?_)
  · have h := (if_neg c9).symm.trans h
    refine lv_iconst (v := 0) hx hb dX5_hasRoom_13 (by decide) ?_
    exact J14 p0 p1 (0 : Int32) h _ (lv_sub hl [0, 1, 2] rfl)
  · have h := (if_pos c9).symm.trans h
    refine lv_iconst (v := 1) hx hb dX5_hasRoom_9 (by decide) ?_
    refine lv_goto (tgt := 14) hx hb dX5_hasRoom_10 (by decide) ?_
    exact J14 p0 p1 (1 : Int32) h _ (lv_sub hl [0, 1, 2] rfl)

theorem cc_X5_50 {p : Program} {l : Launch} {e : Env} {R : Room} {s : State} {m : MethodId} {args : Array Value} {below : List Frame} {meth : Method} {c : Code} {H : Heap} {locs : List Loc} {cells slots : Nat} {cc : ByteArray} {pc nL : Nat} {ls : Array Slot} {rest : List Value} {G : va_G} {A : Nat → Prop} (ga : Nat → Nat) {cI cS : ClassId} {u : TM}  {p0 : Int32} {p1 : Int32} {p2 : Int32} {p3 : Int32} {r : TM} (S : CallFix p m c cc nL s args bw RX5) (hK : va_K G vwCl (tysW cI cS) s) (hN : NW s) (hP : va_P G vwCl (wM cI ga u) H) (hD : va_D A (wM cI ga u)) (hf : fX5_layByte u p0 p1 p2 p3 = some r) (hsz : ls.size = nL) (hst : (rest.map fun v => v.category).sum ≤ 8) (hR : rmX5_layByte.frames + 1 ≤ R.frames ∧ 8 + (5 + 11) + rmX5_layByte.locals ≤ R.locals) (hdg : decode cc pc = .ok (.invokevirtual 50, 3)) (hcs : cells + 0 ≤ R.cells ∧ slots + 0 ≤ R.slots) : va_Run p l e R s m args below meth c H locs cells slots 0 0 (F0 m pc ls (.int p3 :: .int p2 :: .int p1 :: .int p0 :: .ref (ga 0) :: rest)) rest (va_Qv (fun u' => u' = r) (PoM G (tysW cI cS) (va_A (wM cI ga u) H.size) (wM cI ga)) (va_A (wM cI ga u) H.size) (#[.ref (ga 0), .int p0, .int p1, .int p2, .int p3] : Array Value)) (va_A (wM cI ga u) H.size) :=
  va_runV (As := [.int p0, .int p1, .int p2, .int p3]) (rest := rest) S (kX5_layByte l G cI cS ga H.size u p0 p1 p2 p3 r hf) (cwV 4 S.2.2.2.2 (gdV q_421 q_422 q_423 q_392 q_394) rfl rfl rfl (by decide +kernel) hR) (pvM (q := (RX5, TX5, 12)) hK hN hP hD (ci := 5) (q0 := 0) rfl rfl) rfl rfl hsz rfl (lv_room hst) hdg hcs
def fX5_wipes_s2 (u : TM) (x1 : Int32) (x2 : Int32) (x3 : Int32) : Option ((TM × Int32 × Int32 × Int32) ⊕ (TM × Int32 × Int32)) := ((fX5_sizeOf u x1 x2).bind fun z1 => (if z1 ≤ x3 then some (.inr (u, x1, x2)) else ((fX5_layByte u x1 x2 x3 (0 : Int32)).bind fun z3 => some (.inl (z3, x1, x2, (x3 + 1))))))
def fX5_wipes (u : TM) (p0 : Int32) (p1 : Int32) : Option (TM) := ((itr (fun a : TM × Int32 × Int32 × Int32 => fX5_wipes_s2 a.1 a.2.1 a.2.2.1 a.2.2.2) FU (u, p0, p1, (0 : Int32))).bind fun b4 => ((fX5_lay b4.1 b4.2.1 ((1 : Int32) + b4.2.2) (0 : Int32)).bind fun z5 => ((fX5_lay z5 b4.2.1 ((32 : Int32) + b4.2.2) (0 : Int32)).bind fun z6 => some z6)))
abbrev rmX5_wipes : Room := { frames := 2, cells := 0, slots := 0, locals := 47 }
set_option maxRecDepth 100000 in
set_option maxHeartbeats 4000000 in
theorem kX5_wipes (l : Launch) (G : va_G) (cI cS : ClassId) (ga : Nat → Nat) (sz : Nat) (u : TM) (p0 : Int32) (p1 : Int32) (r : TM) (hf : fX5_wipes u p0 p1 = some r) : Met l yX5_wipes (.code yX5_wipes cX5_wipes 4 none :: bw) rmX5_wipes (va_Pc [.ref (ga 0), .int p0, .int p1] (PreM G (tysW cI cS) (wM cI ga u) sz)) (va_Qv (fun u' => u' = r) (PoM G (tysW cI cS) (va_A (wM cI ga u) sz) (wM cI ga)) (va_A (wM cI ga u) sz)) 0 0 (va_A (wM cI ga u) sz) := by
  refine enterM (own := RX5) (by decide) rfl (Nat.le_of_ble_eq_true rfl) ?_
  intro p e s m args below meth c A Q hAe hQ S hr hlocks hP hK hN hD hA hS ls hl
  rw [hAe] at hQ
  have hx := S.1; have hb := S.2.1; have hml := S.2.2.1; have hown := S.2.2.2.1; have hq := S.2.2.2.2
  have hl : lv_has ls 4 [(0, .ref (ga 0)), (1, .int p0), (2, .int p1)] := hl
  have h := hf
  unfold fX5_wipes at h
  have L2 : ∀ (n9 : Nat) (a9 : TM × Int32 × Int32 × Int32) (b9 : TM × Int32 × Int32), itr (fun a : TM × Int32 × Int32 × Int32 => fX5_wipes_s2 a.1 a.2.1 a.2.2.1 a.2.2.2) n9 a9 = some b9 → (fun b : TM × Int32 × Int32 => ∀ (H : Heap) (locs : List Loc), va_P G vwCl (wM cI ga b.1) H → va_D A (wM cI ga b.1) → va_S A s.heap H locs → ∀ ls : Array Slot, lv_has ls 4 [(0, .ref (ga 0)), (1, .int b.2.1), (2, .int b.2.2)] → W p l e rmX5_wipes s m args below meth c H locs 0 0 Q (F0 m 26 ls [])) b9 → (fun a : TM × Int32 × Int32 × Int32 => ∀ (H : Heap) (locs : List Loc), va_P G vwCl (wM cI ga a.1) H → va_D A (wM cI ga a.1) → va_S A s.heap H locs → ∀ ls : Array Slot, lv_has ls 4 [(0, .ref (ga 0)), (1, .int a.2.1), (2, .int a.2.2.1), (3, .int a.2.2.2)] → W p l e rmX5_wipes s m args below meth c H locs 0 0 Q (F0 m 2 ls [])) a9 := by
    refine itr_ind (Inv := (fun a : TM × Int32 × Int32 × Int32 => ∀ (H : Heap) (locs : List Loc), va_P G vwCl (wM cI ga a.1) H → va_D A (wM cI ga a.1) → va_S A s.heap H locs → ∀ ls : Array Slot, lv_has ls 4 [(0, .ref (ga 0)), (1, .int a.2.1), (2, .int a.2.2.1), (3, .int a.2.2.2)] → W p l e rmX5_wipes s m args below meth c H locs 0 0 Q (F0 m 2 ls []))) (Ex := (fun b : TM × Int32 × Int32 => ∀ (H : Heap) (locs : List Loc), va_P G vwCl (wM cI ga b.1) H → va_D A (wM cI ga b.1) → va_S A s.heap H locs → ∀ ls : Array Slot, lv_has ls 4 [(0, .ref (ga 0)), (1, .int b.2.1), (2, .int b.2.2)] → W p l e rmX5_wipes s m args below meth c H locs 0 0 Q (F0 m 26 ls []))) ?_
    rintro ⟨u, x1, x2, x3⟩ z h hI hE
    have h : fX5_wipes_s2 u x1 x2 x3 = some z := h
    unfold fX5_wipes_s2 at h
    show ∀ (H : Heap) (locs : List Loc), va_P G vwCl (wM cI ga u) H → va_D A (wM cI ga u) → va_S A s.heap H locs → ∀ ls : Array Slot, lv_has ls 4 [(0, .ref (ga 0)), (1, .int x1), (2, .int x2), (3, .int x3)] → W p l e rmX5_wipes s m args below meth c H locs 0 0 Q (F0 m 2 ls [])
    intro H locs hP hD hS ls hl
    refine lv_iload_n hx hb dX5_wipes_2 rfl (lv_at hl 3 rfl) ?_
    refine lv_aload_n hx hb dX5_wipes_3 rfl (lv_at hl 0 rfl) ?_
    refine lv_iload_n hx hb dX5_wipes_4 rfl (lv_at hl 1 rfl) ?_
    refine lv_iload_n hx hb dX5_wipes_5 rfl (lv_at hl 2 rfl) ?_
    obtain ⟨z1, e_z1, h⟩ := bnd h
    refine roI (cc_X5_34 ga S hK hN hP e_z1 hl.1 (Nat.le_of_ble_eq_true rfl) ⟨Nat.le_of_ble_eq_true rfl, Nat.le_of_ble_eq_true rfl⟩ dX5_wipes_6 ⟨Nat.le_of_ble_eq_true rfl, Nat.le_of_ble_eq_true rfl⟩) ?_
    refine lv_icmp_ge (tgt := 26) hx hb dX5_wipes_9 (by decide) (fun c2 => ?_) (fun c2 => ?_)
    · have h := (if_pos c2).symm.trans h
      exact hE _ (Option.some.inj h) _ _ hP hD hS _ (lv_sub hl [0, 1, 2] rfl)
    · have h := (if_neg c2).symm.trans h
      refine lv_aload_n hx hb dX5_wipes_12 rfl (lv_at hl 0 rfl) ?_
      refine lv_iload_n hx hb dX5_wipes_13 rfl (lv_at hl 1 rfl) ?_
      refine lv_iload_n hx hb dX5_wipes_14 rfl (lv_at hl 2 rfl) ?_
      refine lv_iload_n hx hb dX5_wipes_15 rfl (lv_at hl 3 rfl) ?_
      refine lv_iconst (v := 0) hx hb dX5_wipes_16 (by decide) ?_
      obtain ⟨z3, e_z3, h⟩ := bnd h
      refine muv (cc_X5_50 ga S hK hN hP hD e_z3 hl.1 (Nat.le_of_ble_eq_true rfl) ⟨Nat.le_of_ble_eq_true rfl, Nat.le_of_ble_eq_true rfl⟩ dX5_wipes_17 ⟨Nat.le_of_ble_eq_true rfl, Nat.le_of_ble_eq_true rfl⟩) hS hD (va_free hD hS hA [0, 1, 2, 3, 4] rfl) (fun H locs hP hD hS => ?_)
      have hP : va_P G vwCl (wM cI ga z3) H := hP
      have hD : va_D A (wM cI ga z3) := hD
      refine lv_iinc (v := (x3 + 1)) (lv' := [(3, .int (x3 + 1)), (0, .ref (ga 0)), (1, .int x1), (2, .int x2)]) hx hb dX5_wipes_20 hl (k := 3) rfl rfl (by decide) rfl (fun ls hl => ?_)
      refine lv_goto (tgt := 2) hx hb dX5_wipes_23 (by decide) ?_
      exact hI _ (Option.some.inj h) _ _ hP hD hS _ (lv_sub hl [1, 2, 3, 0] rfl)
  refine lv_iconst (v := 0) hx hb dX5_wipes_0 (by decide) ?_
  refine lv_istore_n (lv' := [(3, .int (0 : Int32)), (0, .ref (ga 0)), (1, .int p0), (2, .int p1)]) hx hb dX5_wipes_1 rfl hl (by decide) rfl (fun ls hl => ?_)
  obtain ⟨b4, e_b4, h⟩ := bnd h
  refine L2 _ _ _ e_b4 ?_ _ _ hP hD hS _ (lv_sub hl [1, 2, 3, 0] rfl)
  intro H locs hP hD hS ls hl
  refine lv_aload_n hx hb dX5_wipes_26 rfl (lv_at hl 0 rfl) ?_
  refine lv_iload_n hx hb dX5_wipes_27 rfl (lv_at hl 1 rfl) ?_
  refine lv_iconst (v := 1) hx hb dX5_wipes_28 (by decide) ?_
  refine lv_iload_n hx hb dX5_wipes_29 rfl (lv_at hl 2 rfl) ?_
  refine lv_iadd hx hb dX5_wipes_30 ?_
  refine lv_iconst (v := 0) hx hb dX5_wipes_31 (by decide) ?_
  obtain ⟨z5, e_z5, h⟩ := bnd h
  refine muv (cc_X5_30 ga S hK hN hP hD e_z5 hl.1 (Nat.le_of_ble_eq_true rfl) ⟨Nat.le_of_ble_eq_true rfl, Nat.le_of_ble_eq_true rfl⟩ dX5_wipes_32 ⟨Nat.le_of_ble_eq_true rfl, Nat.le_of_ble_eq_true rfl⟩) hS hD (va_free hD hS hA [0, 1, 2, 3, 4] rfl) (fun H locs hP hD hS => ?_)
  have hP : va_P G vwCl (wM cI ga z5) H := hP
  have hD : va_D A (wM cI ga z5) := hD
  refine lv_aload_n hx hb dX5_wipes_35 rfl (lv_at hl 0 rfl) ?_
  refine lv_iload_n hx hb dX5_wipes_36 rfl (lv_at hl 1 rfl) ?_
  refine lv_bipush (v := 32) hx hb dX5_wipes_37 (by decide) ?_
  refine lv_iload_n hx hb dX5_wipes_39 rfl (lv_at hl 2 rfl) ?_
  refine lv_iadd hx hb dX5_wipes_40 ?_
  refine lv_iconst (v := 0) hx hb dX5_wipes_41 (by decide) ?_
  obtain ⟨z6, e_z6, h⟩ := bnd h
  refine muv (cc_X5_30 ga S hK hN hP hD e_z6 hl.1 (Nat.le_of_ble_eq_true rfl) ⟨Nat.le_of_ble_eq_true rfl, Nat.le_of_ble_eq_true rfl⟩ dX5_wipes_42 ⟨Nat.le_of_ble_eq_true rfl, Nat.le_of_ble_eq_true rfl⟩) hS hD (va_free hD hS hA [0, 1, 2, 3, 4] rfl) (fun H locs hP hD hS => ?_)
  have hP : va_P G vwCl (wM cI ga z6) H := hP
  have hD : va_D A (wM cI ga z6) := hD
  exact retMv hQ S hr hlocks hK hN hP hD hS h dX5_wipes_45

theorem cc_X5_54 {p : Program} {l : Launch} {e : Env} {R : Room} {s : State} {m : MethodId} {args : Array Value} {below : List Frame} {meth : Method} {c : Code} {H : Heap} {locs : List Loc} {cells slots : Nat} {cc : ByteArray} {pc nL : Nat} {ls : Array Slot} {rest : List Value} {G : va_G} {A : Nat → Prop} (ga : Nat → Nat) {cI cS : ClassId} {u : TM}  {p0 : Int32} {p1 : Int32} {r : TM} (S : CallFix p m c cc nL s args bw RX5) (hK : va_K G vwCl (tysW cI cS) s) (hN : NW s) (hP : va_P G vwCl (wM cI ga u) H) (hD : va_D A (wM cI ga u)) (hf : fX5_wipes u p0 p1 = some r) (hsz : ls.size = nL) (hst : (rest.map fun v => v.category).sum ≤ 8) (hR : rmX5_wipes.frames + 1 ≤ R.frames ∧ 8 + (4 + 11) + rmX5_wipes.locals ≤ R.locals) (hdg : decode cc pc = .ok (.invokevirtual 54, 3)) (hcs : cells + 0 ≤ R.cells ∧ slots + 0 ≤ R.slots) : va_Run p l e R s m args below meth c H locs cells slots 0 0 (F0 m pc ls (.int p1 :: .int p0 :: .ref (ga 0) :: rest)) rest (va_Qv (fun u' => u' = r) (PoM G (tysW cI cS) (va_A (wM cI ga u) H.size) (wM cI ga)) (va_A (wM cI ga u) H.size) (#[.ref (ga 0), .int p0, .int p1] : Array Value)) (va_A (wM cI ga u) H.size) :=
  va_runV (As := [.int p0, .int p1]) (rest := rest) S (kX5_wipes l G cI cS ga H.size u p0 p1 r hf) (cwV 2 S.2.2.2.2 (gdV q_425 q_426 q_427 q_392 q_420) rfl rfl rfl (by decide +kernel) hR) (pvM (q := (RX5, TX5, 12)) hK hN hP hD (ci := 5) (q0 := 0) rfl rfl) rfl rfl hsz rfl (lv_room hst) hdg hcs
def fX5_removes_j34 (u : TM) (x1 : Int32) (x3 : Int32) : Option (TM) := ((fX5_lay u x1 (0 : Int32) x3).bind fun z1 => some z1)
def fX5_removes_s13 (u : TM) (x1 : Int32) (x3 : Int32) : Option ((TM × Int32 × Int32) ⊕ (TM × Int32 × Int32)) := (if x3 ≤ 0 then some (.inr (u, x1, x3)) else ((fX5_sizeOf u x1 (x3 - (1 : Int32))).bind fun z3 => (if z3 = 0 then some (.inl (u, x1, (x3 + (-1)))) else some (.inr (u, x1, x3)))))
def fX5_removes (u : TM) (p0 : Int32) (p1 : Int32) : Option (TM) := ((fX5_wipes u p0 p1).bind fun z5 => ((fX5_of z5 p0 (0 : Int32)).bind fun z6 => ((itr (fun a : TM × Int32 × Int32 => fX5_removes_s13 a.1 a.2.1 a.2.2) FU (z5, p0, z6)).bind fun b7 => fX5_removes_j34 b7.1 b7.2.1 b7.2.2)))
abbrev rmX5_removes : Room := { frames := 3, cells := 0, slots := 0, locals := 70 }
set_option maxRecDepth 100000 in
set_option maxHeartbeats 4000000 in
theorem kX5_removes (l : Launch) (G : va_G) (cI cS : ClassId) (ga : Nat → Nat) (sz : Nat) (u : TM) (p0 : Int32) (p1 : Int32) (r : TM) (hf : fX5_removes u p0 p1 = some r) : Met l yX5_removes (.code yX5_removes cX5_removes 4 none :: bw) rmX5_removes (va_Pc [.ref (ga 0), .int p0, .int p1] (PreM G (tysW cI cS) (wM cI ga u) sz)) (va_Qv (fun u' => u' = r) (PoM G (tysW cI cS) (va_A (wM cI ga u) sz) (wM cI ga)) (va_A (wM cI ga u) sz)) 0 0 (va_A (wM cI ga u) sz) := by
  refine enterM (own := RX5) (by decide) rfl (Nat.le_of_ble_eq_true rfl) ?_
  intro p e s m args below meth c A Q hAe hQ S hr hlocks hP hK hN hD hA hS ls hl
  rw [hAe] at hQ
  have hx := S.1; have hb := S.2.1; have hml := S.2.2.1; have hown := S.2.2.2.1; have hq := S.2.2.2.2
  have hl : lv_has ls 4 [(0, .ref (ga 0)), (1, .int p0), (2, .int p1)] := hl
  have h := hf
  unfold fX5_removes at h
  have J34 : ∀ (u : TM) (x1 : Int32) (x3 : Int32) , fX5_removes_j34 u x1 x3 = some r → ∀ (H : Heap) (locs : List Loc), va_P G vwCl (wM cI ga u) H → va_D A (wM cI ga u) → va_S A s.heap H locs → ∀ ls : Array Slot, lv_has ls 4 [(0, .ref (ga 0)), (1, .int x1), (3, .int x3)] → W p l e rmX5_removes s m args below meth c H locs 0 0 Q (F0 m 34 ls []) := by
    intro u x1 x3 h
    unfold fX5_removes_j34 at h
    intro H locs hP hD hS ls hl
    refine lv_aload_n hx hb dX5_removes_34 rfl (lv_at hl 0 rfl) ?_
    refine lv_iload_n hx hb dX5_removes_35 rfl (lv_at hl 1 rfl) ?_
    refine lv_iconst (v := 0) hx hb dX5_removes_36 (by decide) ?_
    refine lv_iload_n hx hb dX5_removes_37 rfl (lv_at hl 2 rfl) ?_
    obtain ⟨z1, e_z1, h⟩ := bnd h
    refine muv (cc_X5_30 ga S hK hN hP hD e_z1 hl.1 (Nat.le_of_ble_eq_true rfl) ⟨Nat.le_of_ble_eq_true rfl, Nat.le_of_ble_eq_true rfl⟩ dX5_removes_38 ⟨Nat.le_of_ble_eq_true rfl, Nat.le_of_ble_eq_true rfl⟩) hS hD (va_free hD hS hA [0, 1, 2, 3, 4] rfl) (fun H locs hP hD hS => ?_)
    have hP : va_P G vwCl (wM cI ga z1) H := hP
    have hD : va_D A (wM cI ga z1) := hD
    exact retMv hQ S hr hlocks hK hN hP hD hS h dX5_removes_41
  have L13 : ∀ (n9 : Nat) (a9 : TM × Int32 × Int32) (b9 : TM × Int32 × Int32), itr (fun a : TM × Int32 × Int32 => fX5_removes_s13 a.1 a.2.1 a.2.2) n9 a9 = some b9 → (fun b : TM × Int32 × Int32 => ∀ (H : Heap) (locs : List Loc), va_P G vwCl (wM cI ga b.1) H → va_D A (wM cI ga b.1) → va_S A s.heap H locs → ∀ ls : Array Slot, lv_has ls 4 [(0, .ref (ga 0)), (1, .int b.2.1), (3, .int b.2.2)] → W p l e rmX5_removes s m args below meth c H locs 0 0 Q (F0 m 34 ls [])) b9 → (fun a : TM × Int32 × Int32 => ∀ (H : Heap) (locs : List Loc), va_P G vwCl (wM cI ga a.1) H → va_D A (wM cI ga a.1) → va_S A s.heap H locs → ∀ ls : Array Slot, lv_has ls 4 [(0, .ref (ga 0)), (1, .int a.2.1), (3, .int a.2.2)] → W p l e rmX5_removes s m args below meth c H locs 0 0 Q (F0 m 13 ls [])) a9 := by
    refine itr_ind (Inv := (fun a : TM × Int32 × Int32 => ∀ (H : Heap) (locs : List Loc), va_P G vwCl (wM cI ga a.1) H → va_D A (wM cI ga a.1) → va_S A s.heap H locs → ∀ ls : Array Slot, lv_has ls 4 [(0, .ref (ga 0)), (1, .int a.2.1), (3, .int a.2.2)] → W p l e rmX5_removes s m args below meth c H locs 0 0 Q (F0 m 13 ls []))) (Ex := (fun b : TM × Int32 × Int32 => ∀ (H : Heap) (locs : List Loc), va_P G vwCl (wM cI ga b.1) H → va_D A (wM cI ga b.1) → va_S A s.heap H locs → ∀ ls : Array Slot, lv_has ls 4 [(0, .ref (ga 0)), (1, .int b.2.1), (3, .int b.2.2)] → W p l e rmX5_removes s m args below meth c H locs 0 0 Q (F0 m 34 ls []))) ?_
    rintro ⟨u, x1, x3⟩ z h hI hE
    have h : fX5_removes_s13 u x1 x3 = some z := h
    unfold fX5_removes_s13 at h
    show ∀ (H : Heap) (locs : List Loc), va_P G vwCl (wM cI ga u) H → va_D A (wM cI ga u) → va_S A s.heap H locs → ∀ ls : Array Slot, lv_has ls 4 [(0, .ref (ga 0)), (1, .int x1), (3, .int x3)] → W p l e rmX5_removes s m args below meth c H locs 0 0 Q (F0 m 13 ls [])
    intro H locs hP hD hS ls hl
    refine lv_iload_n hx hb dX5_removes_13 rfl (lv_at hl 2 rfl) ?_
    refine lv_if_le (tgt := 34) hx hb dX5_removes_14 (by decide) (fun c2 => ?_) (fun c2 => ?_)
    · have h := (if_pos c2).symm.trans h
      exact hE _ (Option.some.inj h) _ _ hP hD hS _ (lv_sub hl [0, 1, 2] rfl)
    · have h := (if_neg c2).symm.trans h
      refine lv_aload_n hx hb dX5_removes_17 rfl (lv_at hl 0 rfl) ?_
      refine lv_iload_n hx hb dX5_removes_18 rfl (lv_at hl 1 rfl) ?_
      refine lv_iload_n hx hb dX5_removes_19 rfl (lv_at hl 2 rfl) ?_
      refine lv_iconst (v := 1) hx hb dX5_removes_20 (by decide) ?_
      refine lv_isub hx hb dX5_removes_21 ?_
      obtain ⟨z3, e_z3, h⟩ := bnd h
      refine roI (cc_X5_34 ga S hK hN hP e_z3 hl.1 (Nat.le_of_ble_eq_true rfl) ⟨Nat.le_of_ble_eq_true rfl, Nat.le_of_ble_eq_true rfl⟩ dX5_removes_22 ⟨Nat.le_of_ble_eq_true rfl, Nat.le_of_ble_eq_true rfl⟩) ?_
      refine lv_if_ne (tgt := 34) hx hb dX5_removes_25 (by decide) (fun c4 => ?_) (fun c4 => ?_)
      · have h := (if_neg c4).symm.trans h
        exact hE _ (Option.some.inj h) _ _ hP hD hS _ (lv_sub hl [0, 1, 2] rfl)
      · have h := (if_pos c4).symm.trans h
        refine lv_iinc (v := (x3 + (-1))) (lv' := [(3, .int (x3 + (-1))), (0, .ref (ga 0)), (1, .int x1)]) hx hb dX5_removes_28 hl (k := 2) rfl rfl (by decide) rfl (fun ls hl => ?_)
        refine lv_goto (tgt := 13) hx hb dX5_removes_31 (by decide) ?_
        exact hI _ (Option.some.inj h) _ _ hP hD hS _ (lv_sub hl [1, 2, 0] rfl)
  refine lv_aload_n hx hb dX5_removes_0 rfl (lv_at hl 0 rfl) ?_
  refine lv_iload_n hx hb dX5_removes_1 rfl (lv_at hl 1 rfl) ?_
  refine lv_iload_n hx hb dX5_removes_2 rfl (lv_at hl 2 rfl) ?_
  obtain ⟨z5, e_z5, h⟩ := bnd h
  refine muv (cc_X5_54 ga S hK hN hP hD e_z5 hl.1 (Nat.le_of_ble_eq_true rfl) ⟨Nat.le_of_ble_eq_true rfl, Nat.le_of_ble_eq_true rfl⟩ dX5_removes_3 ⟨Nat.le_of_ble_eq_true rfl, Nat.le_of_ble_eq_true rfl⟩) hS hD (va_free hD hS hA [0, 1, 2, 3, 4] rfl) (fun H locs hP hD hS => ?_)
  have hP : va_P G vwCl (wM cI ga z5) H := hP
  have hD : va_D A (wM cI ga z5) := hD
  refine lv_aload_n hx hb dX5_removes_6 rfl (lv_at hl 0 rfl) ?_
  refine lv_iload_n hx hb dX5_removes_7 rfl (lv_at hl 1 rfl) ?_
  refine lv_iconst (v := 0) hx hb dX5_removes_8 (by decide) ?_
  obtain ⟨z6, e_z6, h⟩ := bnd h
  refine roI (cc_X5_26 ga S hK hN hP e_z6 hl.1 (Nat.le_of_ble_eq_true rfl) ⟨Nat.le_of_ble_eq_true rfl, Nat.le_of_ble_eq_true rfl⟩ dX5_removes_9 ⟨Nat.le_of_ble_eq_true rfl, Nat.le_of_ble_eq_true rfl⟩) ?_
  refine lv_istore_n (lv' := [(3, .int z6), (0, .ref (ga 0)), (1, .int p0), (2, .int p1)]) hx hb dX5_removes_12 rfl hl (by decide) rfl (fun ls hl => ?_)
  obtain ⟨b7, e_b7, h⟩ := bnd h
  refine L13 _ _ _ e_b7 ?_ _ _ hP hD hS _ (lv_sub hl [1, 2, 0] rfl)
  intro H locs hP hD hS ls hl
  exact J34 b7.1 b7.2.1 b7.2.2 h _ _ hP hD hS _ (lv_sub hl [0, 1, 2] rfl)

theorem cc_X5_58 {p : Program} {l : Launch} {e : Env} {R : Room} {s : State} {m : MethodId} {args : Array Value} {below : List Frame} {meth : Method} {c : Code} {H : Heap} {locs : List Loc} {cells slots : Nat} {cc : ByteArray} {pc nL : Nat} {ls : Array Slot} {rest : List Value} {G : va_G} (ga : Nat → Nat) {cI cS : ClassId} {u : TM}  {p0 : Int32} {p1 : Int32} {p2 : Int32} {r : Int32} (S : CallFix p m c cc nL s args bw RX5) (hK : va_K G vwCl (tysW cI cS) s) (hN : NW s) (hP : va_P G vwCl (wM cI ga u) H) (hf : fX5_byteAt u p0 p1 p2 = some r) (hsz : ls.size = nL) (hst : (rest.map fun v => v.category).sum ≤ 8) (hR : rmX5_byteAt.frames + 1 ≤ R.frames ∧ 8 + (4 + 11) + rmX5_byteAt.locals ≤ R.locals) (hdg : decode cc pc = .ok (.invokevirtual 58, 3)) (hcs : cells + 0 ≤ R.cells ∧ slots + 0 ≤ R.slots) : va_Run p l e R s m args below meth c H locs cells slots 0 0 (F0 m pc ls (.int p2 :: .int p1 :: .int p0 :: .ref (ga 0) :: rest)) rest (vp_Si (fun r' => r' = r) (#[.ref (ga 0), .int p0, .int p1, .int p2] : Array Value)) (fun _ => False) :=
  va_runV (As := [.int p0, .int p1, .int p2]) (rest := rest) S (kX5_byteAt l G cI cS ga u p0 p1 p2 r hf) (cwV 3 S.2.2.2.2 (gdV q_429 q_430 q_431 q_392 q_393) rfl rfl rfl (by decide +kernel) hR) (pvR (q := (RX5, TX5, 12)) hK hN hP (ci := 5) (q0 := 0) rfl rfl) rfl rfl hsz rfl (lv_room hst) hdg hcs
theorem gf_X5_19 {p : Program} {l : Launch} {e : Env} {R : Room} {s : State} {m : MethodId} {args : Array Value} {below : List Frame} {meth : Method} {c : Code} {H : Heap} {locs : List Loc} {cells slots : Nat} {cc : ByteArray} {pc nL : Nat} {ls : Array Slot} {rest : List Value} {G : va_G} {Q : State → Prop} {tys : List (ClassId × FieldType)} {ws : va_W} {a : Nat} (S : CallFix p m c cc nL s args bw RX5) (hK : va_K G vwCl tys s) (hN : NW s) (hP : va_P G vwCl ws H) (q0 : Nat) {fs : List Value} (he : ws[q0]? = some (a, .inr (5, fs))) {v : Value} (hv : fs[7]? = some v) (hdg : decode cc pc = .ok (.getfield 19, 3)) (kk : W p l e R s m args below meth c H locs cells slots Q (F0 m (pc + 3) ls (v :: rest))) : W p l e R s m args below meth c H locs cells slots Q (F0 m pc ls (.ref a :: rest)) :=
  va_get (C := RX5) (T := TX5) (N := 12) S.1 S.2.1 S.2.2.2.2 bi_U5 S.2.2.2.1 hK hP q0 he rfl 7 (by decide) (S.2.2.2.2 _ q_381) (fun _ h9 => h9) hv hdg kk
def fX5_compacts_s144 (u : TM) (x1 : Int32) (x3 : Int32) (x4 : Int32) : Option ((TM × Int32 × Int32 × Int32) ⊕ (TM × Int32)) := (if (128 : Int32) ≤ x4 then some (.inr (u, x3)) else ((rd u.2.2.2.2 128 x4).bind fun z2 => ((fX5_lay u x1 ((63 : Int32) + x4) z2).bind fun z3 => some (.inl (z3, x1, x3, (x4 + 1))))))
def fX5_compacts_j132 (u : TM) (x1 : Int32) (x2 : Int32) (x3 : Int32) (x4 : Int32) (t0 : Int32) (t1 : Int32) (t2 : Int32) : Option ((TM × Int32 × Int32 × Int32 × Int32) ⊕ (TM × Int32 × Int32)) := ((fX5_lay u t2 t1 t0).bind fun z4 => some (.inl (z4, x1, x2, x3, (x4 + 1))))
def fX5_compacts_j114 (u : TM) (x1 : Int32) (x2 : Int32) (x4 : Int32) (x5 : Int32) (t0 : Int32) (t1 : Int32) : Option ((TM × Int32 × Int32 × Int32 × Int32) ⊕ (TM × Int32 × Int32)) := (if x5 ≤ 0 then fX5_compacts_j132 u x1 x2 (t1 + t0) x4 (0 : Int32) ((1 : Int32) + x4) x1 else fX5_compacts_j132 u x1 x2 (t1 + t0) x4 x2 ((1 : Int32) + x4) x1)
def fX5_compacts_j113 (u : TM) (x1 : Int32) (x2 : Int32) (x4 : Int32) (x5 : Int32) (t0 : Int32) : Option ((TM × Int32 × Int32 × Int32 × Int32) ⊕ (TM × Int32 × Int32)) := fX5_compacts_j114 u x1 x2 x4 x5 (0 : Int32) t0
def fX5_compacts_s59 (u : TM) (x1 : Int32) (x2 : Int32) (x3 : Int32) (x4 : Int32) (x5 : Int32) (x6 : Int32) : Option ((TM × Int32 × Int32 × Int32 × Int32 × Int32 × Int32) ⊕ (TM × Int32 × Int32 × Int32 × Int32 × Int32)) := (if x5 ≤ x6 then some (.inr (u, x1, x2, x3, x4, x5)) else ((fX5_byteAt u x1 x4 x6).bind fun z7 => ((wr u.2.2.2.2 128 (x2 + x6) z7).bind fun z8 => some (.inl ((u.1, u.2.1, u.2.2.1, u.2.2.2.1, z8), x1, x2, x3, x4, x5, (x6 + 1))))))
def fX5_compacts_s31 (u : TM) (x1 : Int32) (x2 : Int32) (x3 : Int32) (x4 : Int32) : Option ((TM × Int32 × Int32 × Int32 × Int32) ⊕ (TM × Int32 × Int32)) := ((fX5_of u x1 (0 : Int32)).bind fun z9 => (if z9 ≤ x4 then some (.inr (u, x1, x3)) else ((fX5_sizeOf u x1 x4).bind fun z11 => ((itr (fun a : TM × Int32 × Int32 × Int32 × Int32 × Int32 × Int32 => fX5_compacts_s59 a.1 a.2.1 a.2.2.1 a.2.2.2.1 a.2.2.2.2.1 a.2.2.2.2.2.1 a.2.2.2.2.2.2) FU (u, x1, (x2 - z11), x3, x4, z11, (0 : Int32))).bind fun b12 => (if b12.2.2.2.2.2 ≤ 0 then fX5_compacts_j113 b12.1 b12.2.1 b12.2.2.1 b12.2.2.2.2.1 b12.2.2.2.2.2 b12.2.2.2.1 else ((fX5_of b12.1 b12.2.1 ((1 : Int32) + b12.2.2.2.2.1)).bind fun z14 => (if z14 = b12.2.2.1 then fX5_compacts_j113 b12.1 b12.2.1 b12.2.2.1 b12.2.2.2.2.1 b12.2.2.2.2.2 b12.2.2.2.1 else fX5_compacts_j114 b12.1 b12.2.1 b12.2.2.1 b12.2.2.2.2.1 b12.2.2.2.2.2 (1 : Int32) b12.2.2.2.1)))))))
def fX5_compacts_s2 (u : TM) (x1 : Int32) (x2 : Int32) : Option ((TM × Int32 × Int32) ⊕ (TM × Int32)) := (if (128 : Int32) ≤ x2 then some (.inr (u, x1)) else ((wr u.2.2.2.2 128 x2 (0 : Int32)).bind fun z17 => some (.inl ((u.1, u.2.1, u.2.2.1, u.2.2.2.1, z17), x1, (x2 + 1)))))
def fX5_compacts (u : TM) (p0 : Int32) : Option (Int32 × TM) := ((itr (fun a : TM × Int32 × Int32 => fX5_compacts_s2 a.1 a.2.1 a.2.2) FU (u, p0, (0 : Int32))).bind fun b18 => ((itr (fun a : TM × Int32 × Int32 × Int32 × Int32 => fX5_compacts_s31 a.1 a.2.1 a.2.2.1 a.2.2.2.1 a.2.2.2.2) FU (b18.1, b18.2, (128 : Int32), (0 : Int32), (0 : Int32))).bind fun b19 => ((itr (fun a : TM × Int32 × Int32 × Int32 => fX5_compacts_s144 a.1 a.2.1 a.2.2.1 a.2.2.2) FU (b19.1, b19.2.1, b19.2.2, (0 : Int32))).bind fun b20 => ((rd b20.1.2.1 10724 (3 : Int32)).bind fun z21 => ((wr b20.1.2.1 10724 (3 : Int32) (z21 + (1 : Int32))).bind fun z22 => some (b20.2, b20.1.1, z22, b20.1.2.2))))))
abbrev rmX5_compacts : Room := { frames := 2, cells := 0, slots := 0, locals := 45 }
set_option maxRecDepth 100000 in
set_option maxHeartbeats 4000000 in
theorem kX5_compacts (l : Launch) (G : va_G) (cI cS : ClassId) (ga : Nat → Nat) (sz : Nat) (u : TM) (p0 : Int32) (r : Int32 × TM) (hf : fX5_compacts u p0 = some r) : Met l yX5_compacts (.code yX5_compacts cX5_compacts 7 (some .int) :: bw) rmX5_compacts (va_Pc [.ref (ga 0), .int p0] (PreM G (tysW cI cS) (wM cI ga u) sz)) (va_Qi (fun r' u' => (r', u') = r) (PoM G (tysW cI cS) (va_A (wM cI ga u) sz) (wM cI ga)) (va_A (wM cI ga u) sz)) 0 0 (va_A (wM cI ga u) sz) := by
  refine enterM (own := RX5) (by decide) rfl (Nat.le_of_ble_eq_true rfl) ?_
  intro p e s m args below meth c A Q hAe hQ S hr hlocks hP hK hN hD hA hS ls hl
  rw [hAe] at hQ
  have hx := S.1; have hb := S.2.1; have hml := S.2.2.1; have hown := S.2.2.2.1; have hq := S.2.2.2.2
  have hl : lv_has ls 7 [(0, .ref (ga 0)), (1, .int p0)] := hl
  have h := hf
  unfold fX5_compacts at h
  have L144 : ∀ (n9 : Nat) (a9 : TM × Int32 × Int32 × Int32) (b9 : TM × Int32), itr (fun a : TM × Int32 × Int32 × Int32 => fX5_compacts_s144 a.1 a.2.1 a.2.2.1 a.2.2.2) n9 a9 = some b9 → (fun b : TM × Int32 => ∀ (H : Heap) (locs : List Loc), va_P G vwCl (wM cI ga b.1) H → va_D A (wM cI ga b.1) → va_S A s.heap H locs → ∀ ls : Array Slot, lv_has ls 7 [(0, .ref (ga 0)), (3, .int b.2)] → W p l e rmX5_compacts s m args below meth c H locs 0 0 Q (F0 m 175 ls [])) b9 → (fun a : TM × Int32 × Int32 × Int32 => ∀ (H : Heap) (locs : List Loc), va_P G vwCl (wM cI ga a.1) H → va_D A (wM cI ga a.1) → va_S A s.heap H locs → ∀ ls : Array Slot, lv_has ls 7 [(0, .ref (ga 0)), (1, .int a.2.1), (3, .int a.2.2.1), (4, .int a.2.2.2)] → W p l e rmX5_compacts s m args below meth c H locs 0 0 Q (F0 m 144 ls [])) a9 := by
    refine itr_ind (Inv := (fun a : TM × Int32 × Int32 × Int32 => ∀ (H : Heap) (locs : List Loc), va_P G vwCl (wM cI ga a.1) H → va_D A (wM cI ga a.1) → va_S A s.heap H locs → ∀ ls : Array Slot, lv_has ls 7 [(0, .ref (ga 0)), (1, .int a.2.1), (3, .int a.2.2.1), (4, .int a.2.2.2)] → W p l e rmX5_compacts s m args below meth c H locs 0 0 Q (F0 m 144 ls []))) (Ex := (fun b : TM × Int32 => ∀ (H : Heap) (locs : List Loc), va_P G vwCl (wM cI ga b.1) H → va_D A (wM cI ga b.1) → va_S A s.heap H locs → ∀ ls : Array Slot, lv_has ls 7 [(0, .ref (ga 0)), (3, .int b.2)] → W p l e rmX5_compacts s m args below meth c H locs 0 0 Q (F0 m 175 ls []))) ?_
    rintro ⟨u, x1, x3, x4⟩ z h hI hE
    have h : fX5_compacts_s144 u x1 x3 x4 = some z := h
    unfold fX5_compacts_s144 at h
    show ∀ (H : Heap) (locs : List Loc), va_P G vwCl (wM cI ga u) H → va_D A (wM cI ga u) → va_S A s.heap H locs → ∀ ls : Array Slot, lv_has ls 7 [(0, .ref (ga 0)), (1, .int x1), (3, .int x3), (4, .int x4)] → W p l e rmX5_compacts s m args below meth c H locs 0 0 Q (F0 m 144 ls [])
    intro H locs hP hD hS ls hl
    refine lv_iload hx hb dX5_compacts_144 (lv_at hl 3 rfl) ?_
    refine lv_sipush (v := 128) hx hb dX5_compacts_146 (by decide) ?_
    refine lv_icmp_ge (tgt := 175) hx hb dX5_compacts_149 (by decide) (fun c1 => ?_) (fun c1 => ?_)
    · have h := (if_pos c1).symm.trans h
      exact hE _ (Option.some.inj h) _ _ hP hD hS _ (lv_sub hl [0, 2] rfl)
    · have h := (if_neg c1).symm.trans h
      refine lv_aload_n hx hb dX5_compacts_152 rfl (lv_at hl 0 rfl) ?_
      refine lv_iload_n hx hb dX5_compacts_153 rfl (lv_at hl 1 rfl) ?_
      refine lv_bipush (v := 63) hx hb dX5_compacts_154 (by decide) ?_
      refine lv_iload hx hb dX5_compacts_156 (lv_at hl 3 rfl) ?_
      refine lv_iadd hx hb dX5_compacts_158 ?_
      refine lv_aload_n hx hb dX5_compacts_159 rfl (lv_at hl 0 rfl) ?_
      refine gf_X5_19 S hK hN hP 0 rfl (v := .ref (ga 4)) rfl dX5_compacts_160 ?_
      refine lv_iload hx hb dX5_compacts_163 (lv_at hl 3 rfl) ?_
      obtain ⟨z2, e_z2, h⟩ := bnd h
      refine iaO (f := u.2.2.2.2) hx hb hK hP 4 0 rfl rfl e_z2 dX5_compacts_165 ?_
      obtain ⟨z3, e_z3, h⟩ := bnd h
      refine muv (cc_X5_30 ga S hK hN hP hD e_z3 hl.1 (Nat.le_of_ble_eq_true rfl) ⟨Nat.le_of_ble_eq_true rfl, Nat.le_of_ble_eq_true rfl⟩ dX5_compacts_166 ⟨Nat.le_of_ble_eq_true rfl, Nat.le_of_ble_eq_true rfl⟩) hS hD (va_free hD hS hA [0, 1, 2, 3, 4] rfl) (fun H locs hP hD hS => ?_)
      have hP : va_P G vwCl (wM cI ga z3) H := hP
      have hD : va_D A (wM cI ga z3) := hD
      refine lv_iinc (v := (x4 + 1)) (lv' := [(4, .int (x4 + 1)), (0, .ref (ga 0)), (1, .int x1), (3, .int x3)]) hx hb dX5_compacts_169 hl (k := 3) rfl rfl (by decide) rfl (fun ls hl => ?_)
      refine lv_goto (tgt := 144) hx hb dX5_compacts_172 (by decide) ?_
      exact hI _ (Option.some.inj h) _ _ hP hD hS _ (lv_sub hl [1, 2, 3, 0] rfl)
  have L31 : ∀ (n9 : Nat) (a9 : TM × Int32 × Int32 × Int32 × Int32) (b9 : TM × Int32 × Int32), itr (fun a : TM × Int32 × Int32 × Int32 × Int32 => fX5_compacts_s31 a.1 a.2.1 a.2.2.1 a.2.2.2.1 a.2.2.2.2) n9 a9 = some b9 → (fun b : TM × Int32 × Int32 => ∀ (H : Heap) (locs : List Loc), va_P G vwCl (wM cI ga b.1) H → va_D A (wM cI ga b.1) → va_S A s.heap H locs → ∀ ls : Array Slot, lv_has ls 7 [(0, .ref (ga 0)), (1, .int b.2.1), (3, .int b.2.2)] → W p l e rmX5_compacts s m args below meth c H locs 0 0 Q (F0 m 141 ls [])) b9 → (fun a : TM × Int32 × Int32 × Int32 × Int32 => ∀ (H : Heap) (locs : List Loc), va_P G vwCl (wM cI ga a.1) H → va_D A (wM cI ga a.1) → va_S A s.heap H locs → ∀ ls : Array Slot, lv_has ls 7 [(0, .ref (ga 0)), (1, .int a.2.1), (2, .int a.2.2.1), (3, .int a.2.2.2.1), (4, .int a.2.2.2.2)] → W p l e rmX5_compacts s m args below meth c H locs 0 0 Q (F0 m 31 ls [])) a9 := by
    refine itr_ind (Inv := (fun a : TM × Int32 × Int32 × Int32 × Int32 => ∀ (H : Heap) (locs : List Loc), va_P G vwCl (wM cI ga a.1) H → va_D A (wM cI ga a.1) → va_S A s.heap H locs → ∀ ls : Array Slot, lv_has ls 7 [(0, .ref (ga 0)), (1, .int a.2.1), (2, .int a.2.2.1), (3, .int a.2.2.2.1), (4, .int a.2.2.2.2)] → W p l e rmX5_compacts s m args below meth c H locs 0 0 Q (F0 m 31 ls []))) (Ex := (fun b : TM × Int32 × Int32 => ∀ (H : Heap) (locs : List Loc), va_P G vwCl (wM cI ga b.1) H → va_D A (wM cI ga b.1) → va_S A s.heap H locs → ∀ ls : Array Slot, lv_has ls 7 [(0, .ref (ga 0)), (1, .int b.2.1), (3, .int b.2.2)] → W p l e rmX5_compacts s m args below meth c H locs 0 0 Q (F0 m 141 ls []))) ?_
    rintro ⟨u, x1, x2, x3, x4⟩ z h hI hE
    have h : fX5_compacts_s31 u x1 x2 x3 x4 = some z := h
    unfold fX5_compacts_s31 at h
    show ∀ (H : Heap) (locs : List Loc), va_P G vwCl (wM cI ga u) H → va_D A (wM cI ga u) → va_S A s.heap H locs → ∀ ls : Array Slot, lv_has ls 7 [(0, .ref (ga 0)), (1, .int x1), (2, .int x2), (3, .int x3), (4, .int x4)] → W p l e rmX5_compacts s m args below meth c H locs 0 0 Q (F0 m 31 ls [])
    have J132 : ∀ (u : TM) (x1 : Int32) (x2 : Int32) (x3 : Int32) (x4 : Int32) (t0 : Int32) (t1 : Int32) (t2 : Int32) , fX5_compacts_j132 u x1 x2 x3 x4 t0 t1 t2 = some z → ∀ (H : Heap) (locs : List Loc), va_P G vwCl (wM cI ga u) H → va_D A (wM cI ga u) → va_S A s.heap H locs → ∀ ls : Array Slot, lv_has ls 7 [(0, .ref (ga 0)), (1, .int x1), (2, .int x2), (3, .int x3), (4, .int x4)] → W p l e rmX5_compacts s m args below meth c H locs 0 0 Q (F0 m 132 ls [.int t0, .int t1, .int t2, .ref (ga 0)]) := by
      intro u x1 x2 x3 x4 t0 t1 t2 h
      unfold fX5_compacts_j132 at h
      intro H locs hP hD hS ls hl
      obtain ⟨z4, e_z4, h⟩ := bnd h
      refine muv (cc_X5_30 ga S hK hN hP hD e_z4 hl.1 (Nat.le_of_ble_eq_true rfl) ⟨Nat.le_of_ble_eq_true rfl, Nat.le_of_ble_eq_true rfl⟩ dX5_compacts_132 ⟨Nat.le_of_ble_eq_true rfl, Nat.le_of_ble_eq_true rfl⟩) hS hD (va_free hD hS hA [0, 1, 2, 3, 4] rfl) (fun H locs hP hD hS => ?_)
      have hP : va_P G vwCl (wM cI ga z4) H := hP
      have hD : va_D A (wM cI ga z4) := hD
      refine lv_iinc (v := (x4 + 1)) (lv' := [(4, .int (x4 + 1)), (0, .ref (ga 0)), (1, .int x1), (2, .int x2), (3, .int x3)]) hx hb dX5_compacts_135 hl (k := 4) rfl rfl (by decide) rfl (fun ls hl => ?_)
      refine lv_goto (tgt := 31) hx hb dX5_compacts_138 (by decide) ?_
      exact hI _ (Option.some.inj h) _ _ hP hD hS _ (lv_sub hl [1, 2, 3, 4, 0] rfl)
    have J114 : ∀ (u : TM) (x1 : Int32) (x2 : Int32) (x4 : Int32) (x5 : Int32) (t0 : Int32) (t1 : Int32) , fX5_compacts_j114 u x1 x2 x4 x5 t0 t1 = some z → ∀ (H : Heap) (locs : List Loc), va_P G vwCl (wM cI ga u) H → va_D A (wM cI ga u) → va_S A s.heap H locs → ∀ ls : Array Slot, lv_has ls 7 [(0, .ref (ga 0)), (1, .int x1), (2, .int x2), (4, .int x4), (5, .int x5)] → W p l e rmX5_compacts s m args below meth c H locs 0 0 Q (F0 m 114 ls [.int t0, .int t1]) := by
      intro u x1 x2 x4 x5 t0 t1 h
      unfold fX5_compacts_j114 at h
      intro H locs hP hD hS ls hl
      refine lv_iadd hx hb dX5_compacts_114 ?_
      refine lv_istore_n (lv' := [(3, .int (t1 + t0)), (0, .ref (ga 0)), (1, .int x1), (2, .int x2), (4, .int x4), (5, .int x5)]) hx hb dX5_compacts_115 rfl hl (by decide) rfl (fun ls hl => ?_)
      refine lv_aload_n hx hb dX5_compacts_116 rfl (lv_at hl 1 rfl) ?_
      refine lv_iload_n hx hb dX5_compacts_117 rfl (lv_at hl 2 rfl) ?_
      refine lv_iconst (v := 1) hx hb dX5_compacts_118 (by decide) ?_
      refine lv_iload hx hb dX5_compacts_119 (lv_at hl 4 rfl) ?_
      refine lv_iadd hx hb dX5_compacts_121 ?_
      refine lv_iload hx hb dX5_compacts_122 (lv_at hl 5 rfl) ?_
      refine lv_if_le (tgt := 131) hx hb dX5_compacts_124 (by decide) (fun c5 => ?_) (fun c5 => ?_)
      · have h := (if_pos c5).symm.trans h
        refine lv_iconst (v := 0) hx hb dX5_compacts_131 (by decide) ?_
        exact J132 u x1 x2 (t1 + t0) x4 (0 : Int32) ((1 : Int32) + x4) x1 h _ _ hP hD hS _ (lv_sub hl [1, 2, 3, 0, 4] rfl)
      · have h := (if_neg c5).symm.trans h
        refine lv_iload_n hx hb dX5_compacts_127 rfl (lv_at hl 3 rfl) ?_
        refine lv_goto (tgt := 132) hx hb dX5_compacts_128 (by decide) ?_
        exact J132 u x1 x2 (t1 + t0) x4 x2 ((1 : Int32) + x4) x1 h _ _ hP hD hS _ (lv_sub hl [1, 2, 3, 0, 4] rfl)
    have J113 : ∀ (u : TM) (x1 : Int32) (x2 : Int32) (x4 : Int32) (x5 : Int32) (t0 : Int32) , fX5_compacts_j113 u x1 x2 x4 x5 t0 = some z → ∀ (H : Heap) (locs : List Loc), va_P G vwCl (wM cI ga u) H → va_D A (wM cI ga u) → va_S A s.heap H locs → ∀ ls : Array Slot, lv_has ls 7 [(0, .ref (ga 0)), (1, .int x1), (2, .int x2), (4, .int x4), (5, .int x5)] → W p l e rmX5_compacts s m args below meth c H locs 0 0 Q (F0 m 113 ls [.int t0]) := by
      intro u x1 x2 x4 x5 t0 h
      unfold fX5_compacts_j113 at h
      intro H locs hP hD hS ls hl
      refine lv_iconst (v := 0) hx hb dX5_compacts_113 (by decide) ?_
      exact J114 u x1 x2 x4 x5 (0 : Int32) t0 h _ _ hP hD hS _ (lv_sub hl [0, 1, 2, 3, 4] rfl)
    have L59 : ∀ (n9 : Nat) (a9 : TM × Int32 × Int32 × Int32 × Int32 × Int32 × Int32) (b9 : TM × Int32 × Int32 × Int32 × Int32 × Int32), itr (fun a : TM × Int32 × Int32 × Int32 × Int32 × Int32 × Int32 => fX5_compacts_s59 a.1 a.2.1 a.2.2.1 a.2.2.2.1 a.2.2.2.2.1 a.2.2.2.2.2.1 a.2.2.2.2.2.2) n9 a9 = some b9 → (fun b : TM × Int32 × Int32 × Int32 × Int32 × Int32 => ∀ (H : Heap) (locs : List Loc), va_P G vwCl (wM cI ga b.1) H → va_D A (wM cI ga b.1) → va_S A s.heap H locs → ∀ ls : Array Slot, lv_has ls 7 [(0, .ref (ga 0)), (1, .int b.2.1), (2, .int b.2.2.1), (3, .int b.2.2.2.1), (4, .int b.2.2.2.2.1), (5, .int b.2.2.2.2.2)] → W p l e rmX5_compacts s m args below meth c H locs 0 0 Q (F0 m 90 ls [])) b9 → (fun a : TM × Int32 × Int32 × Int32 × Int32 × Int32 × Int32 => ∀ (H : Heap) (locs : List Loc), va_P G vwCl (wM cI ga a.1) H → va_D A (wM cI ga a.1) → va_S A s.heap H locs → ∀ ls : Array Slot, lv_has ls 7 [(0, .ref (ga 0)), (1, .int a.2.1), (2, .int a.2.2.1), (3, .int a.2.2.2.1), (4, .int a.2.2.2.2.1), (5, .int a.2.2.2.2.2.1), (6, .int a.2.2.2.2.2.2)] → W p l e rmX5_compacts s m args below meth c H locs 0 0 Q (F0 m 59 ls [])) a9 := by
      refine itr_ind (Inv := (fun a : TM × Int32 × Int32 × Int32 × Int32 × Int32 × Int32 => ∀ (H : Heap) (locs : List Loc), va_P G vwCl (wM cI ga a.1) H → va_D A (wM cI ga a.1) → va_S A s.heap H locs → ∀ ls : Array Slot, lv_has ls 7 [(0, .ref (ga 0)), (1, .int a.2.1), (2, .int a.2.2.1), (3, .int a.2.2.2.1), (4, .int a.2.2.2.2.1), (5, .int a.2.2.2.2.2.1), (6, .int a.2.2.2.2.2.2)] → W p l e rmX5_compacts s m args below meth c H locs 0 0 Q (F0 m 59 ls []))) (Ex := (fun b : TM × Int32 × Int32 × Int32 × Int32 × Int32 => ∀ (H : Heap) (locs : List Loc), va_P G vwCl (wM cI ga b.1) H → va_D A (wM cI ga b.1) → va_S A s.heap H locs → ∀ ls : Array Slot, lv_has ls 7 [(0, .ref (ga 0)), (1, .int b.2.1), (2, .int b.2.2.1), (3, .int b.2.2.2.1), (4, .int b.2.2.2.2.1), (5, .int b.2.2.2.2.2)] → W p l e rmX5_compacts s m args below meth c H locs 0 0 Q (F0 m 90 ls []))) ?_
      rintro ⟨u, x1, x2, x3, x4, x5, x6⟩ z h hI hE
      have h : fX5_compacts_s59 u x1 x2 x3 x4 x5 x6 = some z := h
      unfold fX5_compacts_s59 at h
      show ∀ (H : Heap) (locs : List Loc), va_P G vwCl (wM cI ga u) H → va_D A (wM cI ga u) → va_S A s.heap H locs → ∀ ls : Array Slot, lv_has ls 7 [(0, .ref (ga 0)), (1, .int x1), (2, .int x2), (3, .int x3), (4, .int x4), (5, .int x5), (6, .int x6)] → W p l e rmX5_compacts s m args below meth c H locs 0 0 Q (F0 m 59 ls [])
      intro H locs hP hD hS ls hl
      refine lv_iload hx hb dX5_compacts_59 (lv_at hl 6 rfl) ?_
      refine lv_iload hx hb dX5_compacts_61 (lv_at hl 5 rfl) ?_
      refine lv_icmp_ge (tgt := 90) hx hb dX5_compacts_63 (by decide) (fun c6 => ?_) (fun c6 => ?_)
      · have h := (if_pos c6).symm.trans h
        exact hE _ (Option.some.inj h) _ _ hP hD hS _ (lv_sub hl [0, 1, 2, 3, 4, 5] rfl)
      · have h := (if_neg c6).symm.trans h
        refine lv_aload_n hx hb dX5_compacts_66 rfl (lv_at hl 0 rfl) ?_
        refine gf_X5_19 S hK hN hP 0 rfl (v := .ref (ga 4)) rfl dX5_compacts_67 ?_
        refine lv_iload_n hx hb dX5_compacts_70 rfl (lv_at hl 2 rfl) ?_
        refine lv_iload hx hb dX5_compacts_71 (lv_at hl 6 rfl) ?_
        refine lv_iadd hx hb dX5_compacts_73 ?_
        refine lv_aload_n hx hb dX5_compacts_74 rfl (lv_at hl 0 rfl) ?_
        refine lv_iload_n hx hb dX5_compacts_75 rfl (lv_at hl 1 rfl) ?_
        refine lv_iload hx hb dX5_compacts_76 (lv_at hl 4 rfl) ?_
        refine lv_iload hx hb dX5_compacts_78 (lv_at hl 6 rfl) ?_
        obtain ⟨z7, e_z7, h⟩ := bnd h
        refine roI (cc_X5_58 ga S hK hN hP e_z7 hl.1 (Nat.le_of_ble_eq_true rfl) ⟨Nat.le_of_ble_eq_true rfl, Nat.le_of_ble_eq_true rfl⟩ dX5_compacts_80 ⟨Nat.le_of_ble_eq_true rfl, Nat.le_of_ble_eq_true rfl⟩) ?_
        obtain ⟨z8, e_z8, h⟩ := bnd h
        refine iaS (f := u.2.2.2.2) hx hb hK hP hD hS 4 0 rfl rfl e_z8 dX5_compacts_83 (fun H locs hP hD hS => ?_)
        have hP : va_P G vwCl (wM cI ga (u.1, u.2.1, u.2.2.1, u.2.2.2.1, z8)) H := hP
        have hD : va_D A (wM cI ga (u.1, u.2.1, u.2.2.1, u.2.2.2.1, z8)) := hD
        refine lv_iinc (v := (x6 + 1)) (lv' := [(6, .int (x6 + 1)), (0, .ref (ga 0)), (1, .int x1), (2, .int x2), (3, .int x3), (4, .int x4), (5, .int x5)]) hx hb dX5_compacts_84 hl (k := 6) rfl rfl (by decide) rfl (fun ls hl => ?_)
        refine lv_goto (tgt := 59) hx hb dX5_compacts_87 (by decide) ?_
        exact hI _ (Option.some.inj h) _ _ hP hD hS _ (lv_sub hl [1, 2, 3, 4, 5, 6, 0] rfl)
    intro H locs hP hD hS ls hl
    refine lv_iload hx hb dX5_compacts_31 (lv_at hl 4 rfl) ?_
    refine lv_aload_n hx hb dX5_compacts_33 rfl (lv_at hl 0 rfl) ?_
    refine lv_iload_n hx hb dX5_compacts_34 rfl (lv_at hl 1 rfl) ?_
    refine lv_iconst (v := 0) hx hb dX5_compacts_35 (by decide) ?_
    obtain ⟨z9, e_z9, h⟩ := bnd h
    refine roI (cc_X5_26 ga S hK hN hP e_z9 hl.1 (Nat.le_of_ble_eq_true rfl) ⟨Nat.le_of_ble_eq_true rfl, Nat.le_of_ble_eq_true rfl⟩ dX5_compacts_36 ⟨Nat.le_of_ble_eq_true rfl, Nat.le_of_ble_eq_true rfl⟩) ?_
    refine lv_icmp_ge (tgt := 141) hx hb dX5_compacts_39 (by decide) (fun c10 => ?_) (fun c10 => ?_)
    · have h := (if_pos c10).symm.trans h
      exact hE _ (Option.some.inj h) _ _ hP hD hS _ (lv_sub hl [0, 1, 3] rfl)
    · have h := (if_neg c10).symm.trans h
      refine lv_aload_n hx hb dX5_compacts_42 rfl (lv_at hl 0 rfl) ?_
      refine lv_iload_n hx hb dX5_compacts_43 rfl (lv_at hl 1 rfl) ?_
      refine lv_iload hx hb dX5_compacts_44 (lv_at hl 4 rfl) ?_
      obtain ⟨z11, e_z11, h⟩ := bnd h
      refine roI (cc_X5_34 ga S hK hN hP e_z11 hl.1 (Nat.le_of_ble_eq_true rfl) ⟨Nat.le_of_ble_eq_true rfl, Nat.le_of_ble_eq_true rfl⟩ dX5_compacts_46 ⟨Nat.le_of_ble_eq_true rfl, Nat.le_of_ble_eq_true rfl⟩) ?_
      refine lv_istore (lv' := [(5, .int z11), (0, .ref (ga 0)), (1, .int x1), (2, .int x2), (3, .int x3), (4, .int x4)]) hx hb dX5_compacts_49 hl (by decide) rfl (fun ls hl => ?_)
      refine lv_iload_n hx hb dX5_compacts_51 rfl (lv_at hl 3 rfl) ?_
      refine lv_iload hx hb dX5_compacts_52 (lv_at hl 0 rfl) ?_
      refine lv_isub hx hb dX5_compacts_54 ?_
      refine lv_istore_n (lv' := [(2, .int (x2 - z11)), (5, .int z11), (0, .ref (ga 0)), (1, .int x1), (3, .int x3), (4, .int x4)]) hx hb dX5_compacts_55 rfl hl (by decide) rfl (fun ls hl => ?_)
      refine lv_iconst (v := 0) hx hb dX5_compacts_56 (by decide) ?_
      refine lv_istore (lv' := [(6, .int (0 : Int32)), (2, .int (x2 - z11)), (5, .int z11), (0, .ref (ga 0)), (1, .int x1), (3, .int x3), (4, .int x4)]) hx hb dX5_compacts_57 hl (by decide) rfl (fun ls hl => ?_)
      obtain ⟨b12, e_b12, h⟩ := bnd h
      refine L59 _ _ _ e_b12 ?_ _ _ hP hD hS _ (lv_sub hl [3, 4, 1, 5, 6, 2, 0] rfl)
      intro H locs hP hD hS ls hl
      refine lv_iload_n hx hb dX5_compacts_90 rfl (lv_at hl 3 rfl) ?_
      refine lv_iload hx hb dX5_compacts_91 (lv_at hl 5 rfl) ?_
      refine lv_if_le (tgt := 113) hx hb dX5_compacts_93 (by decide) (fun c13 => ?_) (fun c13 => ?_)
      · have h := (if_pos c13).symm.trans h
        exact J113 b12.1 b12.2.1 b12.2.2.1 b12.2.2.2.2.1 b12.2.2.2.2.2 b12.2.2.2.1 h _ _ hP hD hS _ (lv_sub hl [0, 1, 2, 4, 5] rfl)
      · have h := (if_neg c13).symm.trans h
        refine lv_aload_n hx hb dX5_compacts_96 rfl (lv_at hl 0 rfl) ?_
        refine lv_iload_n hx hb dX5_compacts_97 rfl (lv_at hl 1 rfl) ?_
        refine lv_iconst (v := 1) hx hb dX5_compacts_98 (by decide) ?_
        refine lv_iload hx hb dX5_compacts_99 (lv_at hl 4 rfl) ?_
        refine lv_iadd hx hb dX5_compacts_101 ?_
        obtain ⟨z14, e_z14, h⟩ := bnd h
        refine roI (cc_X5_26 ga S hK hN hP e_z14 hl.1 (Nat.le_of_ble_eq_true rfl) ⟨Nat.le_of_ble_eq_true rfl, Nat.le_of_ble_eq_true rfl⟩ dX5_compacts_102 ⟨Nat.le_of_ble_eq_true rfl, Nat.le_of_ble_eq_true rfl⟩) ?_
        refine lv_iload_n hx hb dX5_compacts_105 rfl (lv_at hl 2 rfl) ?_
        refine lv_icmp_eq (tgt := 113) hx hb dX5_compacts_106 (by decide) (fun c15 => ?_) (fun c15 => ?_)
        · have h := (if_pos c15).symm.trans h
          exact J113 b12.1 b12.2.1 b12.2.2.1 b12.2.2.2.2.1 b12.2.2.2.2.2 b12.2.2.2.1 h _ _ hP hD hS _ (lv_sub hl [0, 1, 2, 4, 5] rfl)
        · have h := (if_neg c15).symm.trans h
          refine lv_iconst (v := 1) hx hb dX5_compacts_109 (by decide) ?_
          refine lv_goto (tgt := 114) hx hb dX5_compacts_110 (by decide) ?_
          exact J114 b12.1 b12.2.1 b12.2.2.1 b12.2.2.2.2.1 b12.2.2.2.2.2 (1 : Int32) b12.2.2.2.1 h _ _ hP hD hS _ (lv_sub hl [0, 1, 2, 4, 5] rfl)
  have L2 : ∀ (n9 : Nat) (a9 : TM × Int32 × Int32) (b9 : TM × Int32), itr (fun a : TM × Int32 × Int32 => fX5_compacts_s2 a.1 a.2.1 a.2.2) n9 a9 = some b9 → (fun b : TM × Int32 => ∀ (H : Heap) (locs : List Loc), va_P G vwCl (wM cI ga b.1) H → va_D A (wM cI ga b.1) → va_S A s.heap H locs → ∀ ls : Array Slot, lv_has ls 7 [(0, .ref (ga 0)), (1, .int b.2)] → W p l e rmX5_compacts s m args below meth c H locs 0 0 Q (F0 m 22 ls [])) b9 → (fun a : TM × Int32 × Int32 => ∀ (H : Heap) (locs : List Loc), va_P G vwCl (wM cI ga a.1) H → va_D A (wM cI ga a.1) → va_S A s.heap H locs → ∀ ls : Array Slot, lv_has ls 7 [(0, .ref (ga 0)), (1, .int a.2.1), (2, .int a.2.2)] → W p l e rmX5_compacts s m args below meth c H locs 0 0 Q (F0 m 2 ls [])) a9 := by
    refine itr_ind (Inv := (fun a : TM × Int32 × Int32 => ∀ (H : Heap) (locs : List Loc), va_P G vwCl (wM cI ga a.1) H → va_D A (wM cI ga a.1) → va_S A s.heap H locs → ∀ ls : Array Slot, lv_has ls 7 [(0, .ref (ga 0)), (1, .int a.2.1), (2, .int a.2.2)] → W p l e rmX5_compacts s m args below meth c H locs 0 0 Q (F0 m 2 ls []))) (Ex := (fun b : TM × Int32 => ∀ (H : Heap) (locs : List Loc), va_P G vwCl (wM cI ga b.1) H → va_D A (wM cI ga b.1) → va_S A s.heap H locs → ∀ ls : Array Slot, lv_has ls 7 [(0, .ref (ga 0)), (1, .int b.2)] → W p l e rmX5_compacts s m args below meth c H locs 0 0 Q (F0 m 22 ls []))) ?_
    rintro ⟨u, x1, x2⟩ z h hI hE
    have h : fX5_compacts_s2 u x1 x2 = some z := h
    unfold fX5_compacts_s2 at h
    show ∀ (H : Heap) (locs : List Loc), va_P G vwCl (wM cI ga u) H → va_D A (wM cI ga u) → va_S A s.heap H locs → ∀ ls : Array Slot, lv_has ls 7 [(0, .ref (ga 0)), (1, .int x1), (2, .int x2)] → W p l e rmX5_compacts s m args below meth c H locs 0 0 Q (F0 m 2 ls [])
    intro H locs hP hD hS ls hl
    refine lv_iload_n hx hb dX5_compacts_2 rfl (lv_at hl 2 rfl) ?_
    refine lv_sipush (v := 128) hx hb dX5_compacts_3 (by decide) ?_
    refine lv_icmp_ge (tgt := 22) hx hb dX5_compacts_6 (by decide) (fun c16 => ?_) (fun c16 => ?_)
    · have h := (if_pos c16).symm.trans h
      exact hE _ (Option.some.inj h) _ _ hP hD hS _ (lv_sub hl [0, 1] rfl)
    · have h := (if_neg c16).symm.trans h
      refine lv_aload_n hx hb dX5_compacts_9 rfl (lv_at hl 0 rfl) ?_
      refine gf_X5_19 S hK hN hP 0 rfl (v := .ref (ga 4)) rfl dX5_compacts_10 ?_
      refine lv_iload_n hx hb dX5_compacts_13 rfl (lv_at hl 2 rfl) ?_
      refine lv_iconst (v := 0) hx hb dX5_compacts_14 (by decide) ?_
      obtain ⟨z17, e_z17, h⟩ := bnd h
      refine iaS (f := u.2.2.2.2) hx hb hK hP hD hS 4 0 rfl rfl e_z17 dX5_compacts_15 (fun H locs hP hD hS => ?_)
      have hP : va_P G vwCl (wM cI ga (u.1, u.2.1, u.2.2.1, u.2.2.2.1, z17)) H := hP
      have hD : va_D A (wM cI ga (u.1, u.2.1, u.2.2.1, u.2.2.2.1, z17)) := hD
      refine lv_iinc (v := (x2 + 1)) (lv' := [(2, .int (x2 + 1)), (0, .ref (ga 0)), (1, .int x1)]) hx hb dX5_compacts_16 hl (k := 2) rfl rfl (by decide) rfl (fun ls hl => ?_)
      refine lv_goto (tgt := 2) hx hb dX5_compacts_19 (by decide) ?_
      exact hI _ (Option.some.inj h) _ _ hP hD hS _ (lv_sub hl [1, 2, 0] rfl)
  refine lv_iconst (v := 0) hx hb dX5_compacts_0 (by decide) ?_
  refine lv_istore_n (lv' := [(2, .int (0 : Int32)), (0, .ref (ga 0)), (1, .int p0)]) hx hb dX5_compacts_1 rfl hl (by decide) rfl (fun ls hl => ?_)
  obtain ⟨b18, e_b18, h⟩ := bnd h
  refine L2 _ _ _ e_b18 ?_ _ _ hP hD hS _ (lv_sub hl [1, 2, 0] rfl)
  intro H locs hP hD hS ls hl
  refine lv_sipush (v := 128) hx hb dX5_compacts_22 (by decide) ?_
  refine lv_istore_n (lv' := [(2, .int (128 : Int32)), (0, .ref (ga 0)), (1, .int b18.2)]) hx hb dX5_compacts_25 rfl hl (by decide) rfl (fun ls hl => ?_)
  refine lv_iconst (v := 0) hx hb dX5_compacts_26 (by decide) ?_
  refine lv_istore_n (lv' := [(3, .int (0 : Int32)), (2, .int (128 : Int32)), (0, .ref (ga 0)), (1, .int b18.2)]) hx hb dX5_compacts_27 rfl hl (by decide) rfl (fun ls hl => ?_)
  refine lv_iconst (v := 0) hx hb dX5_compacts_28 (by decide) ?_
  refine lv_istore (lv' := [(4, .int (0 : Int32)), (3, .int (0 : Int32)), (2, .int (128 : Int32)), (0, .ref (ga 0)), (1, .int b18.2)]) hx hb dX5_compacts_29 hl (by decide) rfl (fun ls hl => ?_)
  obtain ⟨b19, e_b19, h⟩ := bnd h
  refine L31 _ _ _ e_b19 ?_ _ _ hP hD hS _ (lv_sub hl [3, 4, 2, 1, 0] rfl)
  intro H locs hP hD hS ls hl
  refine lv_iconst (v := 0) hx hb dX5_compacts_141 (by decide) ?_
  refine lv_istore (lv' := [(4, .int (0 : Int32)), (0, .ref (ga 0)), (1, .int b19.2.1), (3, .int b19.2.2)]) hx hb dX5_compacts_142 hl (by decide) rfl (fun ls hl => ?_)
  obtain ⟨b20, e_b20, h⟩ := bnd h
  refine L144 _ _ _ e_b20 ?_ _ _ hP hD hS _ (lv_sub hl [1, 2, 3, 0] rfl)
  intro H locs hP hD hS ls hl
  refine lv_aload_n hx hb dX5_compacts_175 rfl (lv_at hl 0 rfl) ?_
  refine gf_X5_7 S hK hN hP 0 rfl (v := .ref (ga 1)) rfl dX5_compacts_176 ?_
  refine lv_iconst (v := 3) hx hb dX5_compacts_179 (by decide) ?_
  refine lv_dup2_11 hx hb dX5_compacts_180 rfl rfl ?_
  obtain ⟨z21, e_z21, h⟩ := bnd h
  refine iaO (f := b20.1.2.1) hx hb hK hP 1 0 rfl rfl e_z21 dX5_compacts_181 ?_
  refine lv_iconst (v := 1) hx hb dX5_compacts_182 (by decide) ?_
  refine lv_iadd hx hb dX5_compacts_183 ?_
  obtain ⟨z22, e_z22, h⟩ := bnd h
  refine iaS (f := b20.1.2.1) hx hb hK hP hD hS 1 0 rfl rfl e_z22 dX5_compacts_184 (fun H locs hP hD hS => ?_)
  have hP : va_P G vwCl (wM cI ga (b20.1.1, z22, b20.1.2.2)) H := hP
  have hD : va_D A (wM cI ga (b20.1.1, z22, b20.1.2.2)) := hD
  refine lv_iload_n hx hb dX5_compacts_185 rfl (lv_at hl 1 rfl) ?_
  exact retMi hQ S hr hlocks hK hN hP hD hS h dX5_compacts_186

theorem cc_X5_62 {p : Program} {l : Launch} {e : Env} {R : Room} {s : State} {m : MethodId} {args : Array Value} {below : List Frame} {meth : Method} {c : Code} {H : Heap} {locs : List Loc} {cells slots : Nat} {cc : ByteArray} {pc nL : Nat} {ls : Array Slot} {rest : List Value} {G : va_G} (ga : Nat → Nat) {cI cS : ClassId} {u : TM}  {p0 : Int32} {r : Int32} (S : CallFix p m c cc nL s args bw RX5) (hK : va_K G vwCl (tysW cI cS) s) (hN : NW s) (hP : va_P G vwCl (wM cI ga u) H) (hf : fX5_gapOf u p0 = some r) (hsz : ls.size = nL) (hst : (rest.map fun v => v.category).sum ≤ 8) (hR : rmX5_gapOf.frames + 1 ≤ R.frames ∧ 8 + (2 + 11) + rmX5_gapOf.locals ≤ R.locals) (hdg : decode cc pc = .ok (.invokevirtual 62, 3)) (hcs : cells + 0 ≤ R.cells ∧ slots + 0 ≤ R.slots) : va_Run p l e R s m args below meth c H locs cells slots 0 0 (F0 m pc ls (.int p0 :: .ref (ga 0) :: rest)) rest (vp_Si (fun r' => r' = r) (#[.ref (ga 0), .int p0] : Array Value)) (fun _ => False) :=
  va_runV (As := [.int p0]) (rest := rest) S (kX5_gapOf l G cI cS ga u p0 r hf) (cwV 1 S.2.2.2.2 (gdV q_432 q_433 q_434 q_392 q_402) rfl rfl rfl (by decide +kernel) hR) (pvR (q := (RX5, TX5, 12)) hK hN hP (ci := 5) (q0 := 0) rfl rfl) rfl rfl hsz rfl (lv_room hst) hdg hcs
theorem cc_X5_65 {p : Program} {l : Launch} {e : Env} {R : Room} {s : State} {m : MethodId} {args : Array Value} {below : List Frame} {meth : Method} {c : Code} {H : Heap} {locs : List Loc} {cells slots : Nat} {cc : ByteArray} {pc nL : Nat} {ls : Array Slot} {rest : List Value} {G : va_G} {A : Nat → Prop} (ga : Nat → Nat) {cI cS : ClassId} {u : TM}  {p0 : Int32} {r : Int32 × TM} (S : CallFix p m c cc nL s args bw RX5) (hK : va_K G vwCl (tysW cI cS) s) (hN : NW s) (hP : va_P G vwCl (wM cI ga u) H) (hD : va_D A (wM cI ga u)) (hf : fX5_compacts u p0 = some r) (hsz : ls.size = nL) (hst : (rest.map fun v => v.category).sum ≤ 8) (hR : rmX5_compacts.frames + 1 ≤ R.frames ∧ 8 + (7 + 11) + rmX5_compacts.locals ≤ R.locals) (hdg : decode cc pc = .ok (.invokevirtual 65, 3)) (hcs : cells + 0 ≤ R.cells ∧ slots + 0 ≤ R.slots) : va_Run p l e R s m args below meth c H locs cells slots 0 0 (F0 m pc ls (.int p0 :: .ref (ga 0) :: rest)) rest (va_Qi (fun r' u' => (r', u') = r) (PoM G (tysW cI cS) (va_A (wM cI ga u) H.size) (wM cI ga)) (va_A (wM cI ga u) H.size) (#[.ref (ga 0), .int p0] : Array Value)) (va_A (wM cI ga u) H.size) :=
  va_runV (As := [.int p0]) (rest := rest) S (kX5_compacts l G cI cS ga H.size u p0 r hf) (cwV 1 S.2.2.2.2 (gdV q_435 q_436 q_437 q_392 q_428) rfl rfl rfl (by decide +kernel) hR) (pvM (q := (RX5, TX5, 12)) hK hN hP hD (ci := 5) (q0 := 0) rfl rfl) rfl rfl hsz rfl (lv_room hst) hdg hcs
def fX5_puts_j15 (u : TM) (x1 : Int32) (x2 : Int32) (x3 : Int32) : Option (TM) := ((fX5_lowest u x1).bind fun z1 => ((fX5_lay u x1 ((1 : Int32) + x2) (z1 - x3)).bind fun z2 => ((fX5_lay z2 x1 ((32 : Int32) + x2) x3).bind fun z3 => some z3)))
def fX5_puts (u : TM) (p0 : Int32) (p1 : Int32) (p2 : Int32) : Option (TM) := ((fX5_gapOf u p0).bind fun z4 => (if p2 ≤ z4 then fX5_puts_j15 u p0 p1 p2 else ((fX5_compacts u p0).bind fun z6 => fX5_puts_j15 z6.2 p0 p1 p2)))
abbrev rmX5_puts : Room := { frames := 4, cells := 0, slots := 0, locals := 89 }
set_option maxRecDepth 100000 in
set_option maxHeartbeats 4000000 in
theorem kX5_puts (l : Launch) (G : va_G) (cI cS : ClassId) (ga : Nat → Nat) (sz : Nat) (u : TM) (p0 : Int32) (p1 : Int32) (p2 : Int32) (r : TM) (hf : fX5_puts u p0 p1 p2 = some r) : Met l yX5_puts (.code yX5_puts cX5_puts 5 none :: bw) rmX5_puts (va_Pc [.ref (ga 0), .int p0, .int p1, .int p2] (PreM G (tysW cI cS) (wM cI ga u) sz)) (va_Qv (fun u' => u' = r) (PoM G (tysW cI cS) (va_A (wM cI ga u) sz) (wM cI ga)) (va_A (wM cI ga u) sz)) 0 0 (va_A (wM cI ga u) sz) := by
  refine enterM (own := RX5) (by decide) rfl (Nat.le_of_ble_eq_true rfl) ?_
  intro p e s m args below meth c A Q hAe hQ S hr hlocks hP hK hN hD hA hS ls hl
  rw [hAe] at hQ
  have hx := S.1; have hb := S.2.1; have hml := S.2.2.1; have hown := S.2.2.2.1; have hq := S.2.2.2.2
  have hl : lv_has ls 5 [(0, .ref (ga 0)), (1, .int p0), (2, .int p1), (3, .int p2)] := hl
  have h := hf
  unfold fX5_puts at h
  have J15 : ∀ (u : TM) (x1 : Int32) (x2 : Int32) (x3 : Int32) , fX5_puts_j15 u x1 x2 x3 = some r → ∀ (H : Heap) (locs : List Loc), va_P G vwCl (wM cI ga u) H → va_D A (wM cI ga u) → va_S A s.heap H locs → ∀ ls : Array Slot, lv_has ls 5 [(0, .ref (ga 0)), (1, .int x1), (2, .int x2), (3, .int x3)] → W p l e rmX5_puts s m args below meth c H locs 0 0 Q (F0 m 15 ls []) := by
    intro u x1 x2 x3 h
    unfold fX5_puts_j15 at h
    intro H locs hP hD hS ls hl
    refine lv_aload_n hx hb dX5_puts_15 rfl (lv_at hl 0 rfl) ?_
    refine lv_iload_n hx hb dX5_puts_16 rfl (lv_at hl 1 rfl) ?_
    obtain ⟨z1, e_z1, h⟩ := bnd h
    refine roI (cc_X5_37 ga S hK hN hP e_z1 hl.1 (Nat.le_of_ble_eq_true rfl) ⟨Nat.le_of_ble_eq_true rfl, Nat.le_of_ble_eq_true rfl⟩ dX5_puts_17 ⟨Nat.le_of_ble_eq_true rfl, Nat.le_of_ble_eq_true rfl⟩) ?_
    refine lv_iload_n hx hb dX5_puts_20 rfl (lv_at hl 3 rfl) ?_
    refine lv_isub hx hb dX5_puts_21 ?_
    refine lv_istore (lv' := [(4, .int (z1 - x3)), (0, .ref (ga 0)), (1, .int x1), (2, .int x2), (3, .int x3)]) hx hb dX5_puts_22 hl (by decide) rfl (fun ls hl => ?_)
    refine lv_aload_n hx hb dX5_puts_24 rfl (lv_at hl 1 rfl) ?_
    refine lv_iload_n hx hb dX5_puts_25 rfl (lv_at hl 2 rfl) ?_
    refine lv_iconst (v := 1) hx hb dX5_puts_26 (by decide) ?_
    refine lv_iload_n hx hb dX5_puts_27 rfl (lv_at hl 3 rfl) ?_
    refine lv_iadd hx hb dX5_puts_28 ?_
    refine lv_iload hx hb dX5_puts_29 (lv_at hl 0 rfl) ?_
    obtain ⟨z2, e_z2, h⟩ := bnd h
    refine muv (cc_X5_30 ga S hK hN hP hD e_z2 hl.1 (Nat.le_of_ble_eq_true rfl) ⟨Nat.le_of_ble_eq_true rfl, Nat.le_of_ble_eq_true rfl⟩ dX5_puts_31 ⟨Nat.le_of_ble_eq_true rfl, Nat.le_of_ble_eq_true rfl⟩) hS hD (va_free hD hS hA [0, 1, 2, 3, 4] rfl) (fun H locs hP hD hS => ?_)
    have hP : va_P G vwCl (wM cI ga z2) H := hP
    have hD : va_D A (wM cI ga z2) := hD
    refine lv_aload_n hx hb dX5_puts_34 rfl (lv_at hl 1 rfl) ?_
    refine lv_iload_n hx hb dX5_puts_35 rfl (lv_at hl 2 rfl) ?_
    refine lv_bipush (v := 32) hx hb dX5_puts_36 (by decide) ?_
    refine lv_iload_n hx hb dX5_puts_38 rfl (lv_at hl 3 rfl) ?_
    refine lv_iadd hx hb dX5_puts_39 ?_
    refine lv_iload_n hx hb dX5_puts_40 rfl (lv_at hl 4 rfl) ?_
    obtain ⟨z3, e_z3, h⟩ := bnd h
    refine muv (cc_X5_30 ga S hK hN hP hD e_z3 hl.1 (Nat.le_of_ble_eq_true rfl) ⟨Nat.le_of_ble_eq_true rfl, Nat.le_of_ble_eq_true rfl⟩ dX5_puts_41 ⟨Nat.le_of_ble_eq_true rfl, Nat.le_of_ble_eq_true rfl⟩) hS hD (va_free hD hS hA [0, 1, 2, 3, 4] rfl) (fun H locs hP hD hS => ?_)
    have hP : va_P G vwCl (wM cI ga z3) H := hP
    have hD : va_D A (wM cI ga z3) := hD
    exact retMv hQ S hr hlocks hK hN hP hD hS h dX5_puts_44
  refine lv_aload_n hx hb dX5_puts_0 rfl (lv_at hl 0 rfl) ?_
  refine lv_iload_n hx hb dX5_puts_1 rfl (lv_at hl 1 rfl) ?_
  obtain ⟨z4, e_z4, h⟩ := bnd h
  refine roI (cc_X5_62 ga S hK hN hP e_z4 hl.1 (Nat.le_of_ble_eq_true rfl) ⟨Nat.le_of_ble_eq_true rfl, Nat.le_of_ble_eq_true rfl⟩ dX5_puts_2 ⟨Nat.le_of_ble_eq_true rfl, Nat.le_of_ble_eq_true rfl⟩) ?_
  refine lv_iload_n hx hb dX5_puts_5 rfl (lv_at hl 3 rfl) ?_
  refine lv_icmp_ge (tgt := 15) hx hb dX5_puts_6 (by decide) (fun c5 => ?_) (fun c5 => ?_)
  · have h := (if_pos c5).symm.trans h
    exact J15 u p0 p1 p2 h _ _ hP hD hS _ (lv_sub hl [0, 1, 2, 3] rfl)
  · have h := (if_neg c5).symm.trans h
    refine lv_aload_n hx hb dX5_puts_9 rfl (lv_at hl 0 rfl) ?_
    refine lv_iload_n hx hb dX5_puts_10 rfl (lv_at hl 1 rfl) ?_
    obtain ⟨z6, e_z6, h⟩ := bnd h
    refine mui (cc_X5_65 ga S hK hN hP hD e_z6 hl.1 (Nat.le_of_ble_eq_true rfl) ⟨Nat.le_of_ble_eq_true rfl, Nat.le_of_ble_eq_true rfl⟩ dX5_puts_11 ⟨Nat.le_of_ble_eq_true rfl, Nat.le_of_ble_eq_true rfl⟩) hS hD (va_free hD hS hA [0, 1, 2, 3, 4] rfl) (fun H locs hP hD hS => ?_)
    have hP : va_P G vwCl (wM cI ga z6.2) H := hP
    have hD : va_D A (wM cI ga z6.2) := hD
    refine lv_pop hx hb dX5_puts_14 rfl ?_
    exact J15 z6.2 p0 p1 p2 h _ _ hP hD hS _ (lv_sub hl [0, 1, 2, 3] rfl)

theorem cc_X5_68 {p : Program} {l : Launch} {e : Env} {R : Room} {s : State} {m : MethodId} {args : Array Value} {below : List Frame} {meth : Method} {c : Code} {H : Heap} {locs : List Loc} {cells slots : Nat} {cc : ByteArray} {pc nL : Nat} {ls : Array Slot} {rest : List Value} {G : va_G} {A : Nat → Prop} (ga : Nat → Nat) {cI cS : ClassId} {u : TM}  {p0 : Int32} {p1 : Int32} {p2 : Int32} {r : TM} (S : CallFix p m c cc nL s args bw RX5) (hK : va_K G vwCl (tysW cI cS) s) (hN : NW s) (hP : va_P G vwCl (wM cI ga u) H) (hD : va_D A (wM cI ga u)) (hf : fX5_puts u p0 p1 p2 = some r) (hsz : ls.size = nL) (hst : (rest.map fun v => v.category).sum ≤ 8) (hR : rmX5_puts.frames + 1 ≤ R.frames ∧ 8 + (5 + 11) + rmX5_puts.locals ≤ R.locals) (hdg : decode cc pc = .ok (.invokevirtual 68, 3)) (hcs : cells + 0 ≤ R.cells ∧ slots + 0 ≤ R.slots) : va_Run p l e R s m args below meth c H locs cells slots 0 0 (F0 m pc ls (.int p2 :: .int p1 :: .int p0 :: .ref (ga 0) :: rest)) rest (va_Qv (fun u' => u' = r) (PoM G (tysW cI cS) (va_A (wM cI ga u) H.size) (wM cI ga)) (va_A (wM cI ga u) H.size) (#[.ref (ga 0), .int p0, .int p1, .int p2] : Array Value)) (va_A (wM cI ga u) H.size) :=
  va_runV (As := [.int p0, .int p1, .int p2]) (rest := rest) S (kX5_puts l G cI cS ga H.size u p0 p1 p2 r hf) (cwV 3 S.2.2.2.2 (gdV q_439 q_440 q_441 q_392 q_438) rfl rfl rfl (by decide +kernel) hR) (pvM (q := (RX5, TX5, 12)) hK hN hP hD (ci := 5) (q0 := 0) rfl rfl) rfl rfl hsz rfl (lv_room hst) hdg hcs
def fX5_stores_j27 (u : TM) (x1 : Int32) (x2 : Int32) (x3 : Int32) : Option (Int32 × TM) := ((fX5_puts u x1 x3 x2).bind fun z1 => some (x3, z1))
def fX5_stores (u : TM) (p0 : Int32) (p1 : Int32) : Option (Int32 × TM) := ((fX5_emptySlot u p0).bind fun z2 => (if z2 = ((-1) : Int32) then ((fX5_of u p0 (0 : Int32)).bind fun z4 => ((fX5_lay u p0 (0 : Int32) (z4 + (1 : Int32))).bind fun z5 => fX5_stores_j27 z5 p0 p1 z4)) else fX5_stores_j27 u p0 p1 z2))
abbrev rmX5_stores : Room := { frames := 5, cells := 0, slots := 0, locals := 113 }
set_option maxRecDepth 100000 in
set_option maxHeartbeats 4000000 in
theorem kX5_stores (l : Launch) (G : va_G) (cI cS : ClassId) (ga : Nat → Nat) (sz : Nat) (u : TM) (p0 : Int32) (p1 : Int32) (r : Int32 × TM) (hf : fX5_stores u p0 p1 = some r) : Met l yX5_stores (.code yX5_stores cX5_stores 4 (some .int) :: bw) rmX5_stores (va_Pc [.ref (ga 0), .int p0, .int p1] (PreM G (tysW cI cS) (wM cI ga u) sz)) (va_Qi (fun r' u' => (r', u') = r) (PoM G (tysW cI cS) (va_A (wM cI ga u) sz) (wM cI ga)) (va_A (wM cI ga u) sz)) 0 0 (va_A (wM cI ga u) sz) := by
  refine enterM (own := RX5) (by decide) rfl (Nat.le_of_ble_eq_true rfl) ?_
  intro p e s m args below meth c A Q hAe hQ S hr hlocks hP hK hN hD hA hS ls hl
  rw [hAe] at hQ
  have hx := S.1; have hb := S.2.1; have hml := S.2.2.1; have hown := S.2.2.2.1; have hq := S.2.2.2.2
  have hl : lv_has ls 4 [(0, .ref (ga 0)), (1, .int p0), (2, .int p1)] := hl
  have h := hf
  unfold fX5_stores at h
  have J27 : ∀ (u : TM) (x1 : Int32) (x2 : Int32) (x3 : Int32) , fX5_stores_j27 u x1 x2 x3 = some r → ∀ (H : Heap) (locs : List Loc), va_P G vwCl (wM cI ga u) H → va_D A (wM cI ga u) → va_S A s.heap H locs → ∀ ls : Array Slot, lv_has ls 4 [(0, .ref (ga 0)), (1, .int x1), (2, .int x2), (3, .int x3)] → W p l e rmX5_stores s m args below meth c H locs 0 0 Q (F0 m 27 ls []) := by
    intro u x1 x2 x3 h
    unfold fX5_stores_j27 at h
    intro H locs hP hD hS ls hl
    refine lv_aload_n hx hb dX5_stores_27 rfl (lv_at hl 0 rfl) ?_
    refine lv_iload_n hx hb dX5_stores_28 rfl (lv_at hl 1 rfl) ?_
    refine lv_iload_n hx hb dX5_stores_29 rfl (lv_at hl 3 rfl) ?_
    refine lv_iload_n hx hb dX5_stores_30 rfl (lv_at hl 2 rfl) ?_
    obtain ⟨z1, e_z1, h⟩ := bnd h
    refine muv (cc_X5_68 ga S hK hN hP hD e_z1 hl.1 (Nat.le_of_ble_eq_true rfl) ⟨Nat.le_of_ble_eq_true rfl, Nat.le_of_ble_eq_true rfl⟩ dX5_stores_31 ⟨Nat.le_of_ble_eq_true rfl, Nat.le_of_ble_eq_true rfl⟩) hS hD (va_free hD hS hA [0, 1, 2, 3, 4] rfl) (fun H locs hP hD hS => ?_)
    have hP : va_P G vwCl (wM cI ga z1) H := hP
    have hD : va_D A (wM cI ga z1) := hD
    refine lv_iload_n hx hb dX5_stores_34 rfl (lv_at hl 3 rfl) ?_
    exact retMi hQ S hr hlocks hK hN hP hD hS h dX5_stores_35
  refine lv_aload_n hx hb dX5_stores_0 rfl (lv_at hl 0 rfl) ?_
  refine lv_iload_n hx hb dX5_stores_1 rfl (lv_at hl 1 rfl) ?_
  obtain ⟨z2, e_z2, h⟩ := bnd h
  refine roI (cc_X5_44 ga S hK hN hP e_z2 hl.1 (Nat.le_of_ble_eq_true rfl) ⟨Nat.le_of_ble_eq_true rfl, Nat.le_of_ble_eq_true rfl⟩ dX5_stores_2 ⟨Nat.le_of_ble_eq_true rfl, Nat.le_of_ble_eq_true rfl⟩) ?_
  refine lv_istore_n (lv' := [(3, .int z2), (0, .ref (ga 0)), (1, .int p0), (2, .int p1)]) hx hb dX5_stores_5 rfl hl (by decide) rfl (fun ls hl => ?_)
  refine lv_iload_n hx hb dX5_stores_6 rfl (lv_at hl 0 rfl) ?_
  refine lv_iconst (v := (-1)) hx hb dX5_stores_7 (by decide) ?_
  refine lv_icmp_ne (tgt := 27) hx hb dX5_stores_8 (by decide) (fun c3 => ?_) (fun c3 => ?_)
  · have h := (if_neg c3).symm.trans h
    exact J27 u p0 p1 z2 h _ _ hP hD hS _ (lv_sub hl [1, 2, 3, 0] rfl)
  · have h := (if_pos c3).symm.trans h
    refine lv_aload_n hx hb dX5_stores_11 rfl (lv_at hl 1 rfl) ?_
    refine lv_iload_n hx hb dX5_stores_12 rfl (lv_at hl 2 rfl) ?_
    refine lv_iconst (v := 0) hx hb dX5_stores_13 (by decide) ?_
    obtain ⟨z4, e_z4, h⟩ := bnd h
    refine roI (cc_X5_26 ga S hK hN hP e_z4 hl.1 (Nat.le_of_ble_eq_true rfl) ⟨Nat.le_of_ble_eq_true rfl, Nat.le_of_ble_eq_true rfl⟩ dX5_stores_14 ⟨Nat.le_of_ble_eq_true rfl, Nat.le_of_ble_eq_true rfl⟩) ?_
    refine lv_istore_n (lv' := [(3, .int z4), (0, .ref (ga 0)), (1, .int p0), (2, .int p1)]) hx hb dX5_stores_17 rfl hl (by decide) rfl (fun ls hl => ?_)
    refine lv_aload_n hx hb dX5_stores_18 rfl (lv_at hl 1 rfl) ?_
    refine lv_iload_n hx hb dX5_stores_19 rfl (lv_at hl 2 rfl) ?_
    refine lv_iconst (v := 0) hx hb dX5_stores_20 (by decide) ?_
    refine lv_iload_n hx hb dX5_stores_21 rfl (lv_at hl 0 rfl) ?_
    refine lv_iconst (v := 1) hx hb dX5_stores_22 (by decide) ?_
    refine lv_iadd hx hb dX5_stores_23 ?_
    obtain ⟨z5, e_z5, h⟩ := bnd h
    refine muv (cc_X5_30 ga S hK hN hP hD e_z5 hl.1 (Nat.le_of_ble_eq_true rfl) ⟨Nat.le_of_ble_eq_true rfl, Nat.le_of_ble_eq_true rfl⟩ dX5_stores_24 ⟨Nat.le_of_ble_eq_true rfl, Nat.le_of_ble_eq_true rfl⟩) hS hD (va_free hD hS hA [0, 1, 2, 3, 4] rfl) (fun H locs hP hD hS => ?_)
    have hP : va_P G vwCl (wM cI ga z5) H := hP
    have hD : va_D A (wM cI ga z5) := hD
    exact J27 z5 p0 p1 z4 h _ _ hP hD hS _ (lv_sub hl [1, 2, 3, 0] rfl)

def fX5_replaces (u : TM) (p0 : Int32) (p1 : Int32) (p2 : Int32) : Option (TM) := ((fX5_wipes u p0 p1).bind fun z1 => ((fX5_puts z1 p0 p1 p2).bind fun z2 => some z2))
abbrev rmX5_replaces : Room := { frames := 5, cells := 0, slots := 0, locals := 113 }
set_option maxRecDepth 100000 in
set_option maxHeartbeats 4000000 in
theorem kX5_replaces (l : Launch) (G : va_G) (cI cS : ClassId) (ga : Nat → Nat) (sz : Nat) (u : TM) (p0 : Int32) (p1 : Int32) (p2 : Int32) (r : TM) (hf : fX5_replaces u p0 p1 p2 = some r) : Met l yX5_replaces (.code yX5_replaces cX5_replaces 4 none :: bw) rmX5_replaces (va_Pc [.ref (ga 0), .int p0, .int p1, .int p2] (PreM G (tysW cI cS) (wM cI ga u) sz)) (va_Qv (fun u' => u' = r) (PoM G (tysW cI cS) (va_A (wM cI ga u) sz) (wM cI ga)) (va_A (wM cI ga u) sz)) 0 0 (va_A (wM cI ga u) sz) := by
  refine enterM (own := RX5) (by decide) rfl (Nat.le_of_ble_eq_true rfl) ?_
  intro p e s m args below meth c A Q hAe hQ S hr hlocks hP hK hN hD hA hS ls hl
  rw [hAe] at hQ
  have hx := S.1; have hb := S.2.1; have hml := S.2.2.1; have hown := S.2.2.2.1; have hq := S.2.2.2.2
  have hl : lv_has ls 4 [(0, .ref (ga 0)), (1, .int p0), (2, .int p1), (3, .int p2)] := hl
  have h := hf
  unfold fX5_replaces at h
  refine lv_aload_n hx hb dX5_replaces_0 rfl (lv_at hl 0 rfl) ?_
  refine lv_iload_n hx hb dX5_replaces_1 rfl (lv_at hl 1 rfl) ?_
  refine lv_iload_n hx hb dX5_replaces_2 rfl (lv_at hl 2 rfl) ?_
  obtain ⟨z1, e_z1, h⟩ := bnd h
  refine muv (cc_X5_54 ga S hK hN hP hD e_z1 hl.1 (Nat.le_of_ble_eq_true rfl) ⟨Nat.le_of_ble_eq_true rfl, Nat.le_of_ble_eq_true rfl⟩ dX5_replaces_3 ⟨Nat.le_of_ble_eq_true rfl, Nat.le_of_ble_eq_true rfl⟩) hS hD (va_free hD hS hA [0, 1, 2, 3, 4] rfl) (fun H locs hP hD hS => ?_)
  have hP : va_P G vwCl (wM cI ga z1) H := hP
  have hD : va_D A (wM cI ga z1) := hD
  refine lv_aload_n hx hb dX5_replaces_6 rfl (lv_at hl 0 rfl) ?_
  refine lv_iload_n hx hb dX5_replaces_7 rfl (lv_at hl 1 rfl) ?_
  refine lv_iload_n hx hb dX5_replaces_8 rfl (lv_at hl 2 rfl) ?_
  refine lv_iload_n hx hb dX5_replaces_9 rfl (lv_at hl 3 rfl) ?_
  obtain ⟨z2, e_z2, h⟩ := bnd h
  refine muv (cc_X5_68 ga S hK hN hP hD e_z2 hl.1 (Nat.le_of_ble_eq_true rfl) ⟨Nat.le_of_ble_eq_true rfl, Nat.le_of_ble_eq_true rfl⟩ dX5_replaces_10 ⟨Nat.le_of_ble_eq_true rfl, Nat.le_of_ble_eq_true rfl⟩) hS hD (va_free hD hS hA [0, 1, 2, 3, 4] rfl) (fun H locs hP hD hS => ?_)
  have hP : va_P G vwCl (wM cI ga z2) H := hP
  have hD : va_D A (wM cI ga z2) := hD
  exact retMv hQ S hr hlocks hK hN hP hD hS h dX5_replaces_13

def fX5_canReplace (u : TM) (p0 : Int32) (p1 : Int32) (p2 : Int32) : Option (Int32) := ((fX5_freeOf u p0).bind fun z1 => ((fX5_sizeOf u p0 p1).bind fun z2 => (if (z1 + z2) < p2 then some (0 : Int32) else some (1 : Int32))))
abbrev rmX5_canReplace : Room := { frames := 4, cells := 0, slots := 0, locals := 88 }
set_option maxRecDepth 100000 in
set_option maxHeartbeats 4000000 in
theorem kX5_canReplace (l : Launch) (G : va_G) (cI cS : ClassId) (ga : Nat → Nat) (u : TM) (p0 : Int32) (p1 : Int32) (p2 : Int32) (r : Int32) (hf : fX5_canReplace u p0 p1 p2 = some r) : Met l yX5_canReplace (.code yX5_canReplace cX5_canReplace 4 (some .boolean) :: bw) rmX5_canReplace (va_Pc [.ref (ga 0), .int p0, .int p1, .int p2] (PreR G (tysW cI cS) (wM cI ga u))) (vp_Si (fun r' => r' = r)) 0 0 (fun _ => False) := by
  refine enterR (own := RX5) (by decide) rfl rfl (Nat.le_of_ble_eq_true rfl) ?_
  intro p e s m args below meth c Q hQ S hr hlocks hP hK hN ls hl
  have hx := S.1; have hb := S.2.1; have hml := S.2.2.1; have hown := S.2.2.2.1; have hq := S.2.2.2.2
  have hl : lv_has ls 4 [(0, .ref (ga 0)), (1, .int p0), (2, .int p1), (3, .int p2)] := hl
  have h := hf
  unfold fX5_canReplace at h
  refine lv_iload_n hx hb dX5_canReplace_0 rfl (lv_at hl 3 rfl) ?_
  refine lv_aload_n hx hb dX5_canReplace_1 rfl (lv_at hl 0 rfl) ?_
  refine lv_iload_n hx hb dX5_canReplace_2 rfl (lv_at hl 1 rfl) ?_
  obtain ⟨z1, e_z1, h⟩ := bnd h
  refine roI (cc_X5_47 ga S hK hN hP e_z1 hl.1 (Nat.le_of_ble_eq_true rfl) ⟨Nat.le_of_ble_eq_true rfl, Nat.le_of_ble_eq_true rfl⟩ dX5_canReplace_3 ⟨Nat.le_of_ble_eq_true rfl, Nat.le_of_ble_eq_true rfl⟩) ?_
  refine lv_aload_n hx hb dX5_canReplace_6 rfl (lv_at hl 0 rfl) ?_
  refine lv_iload_n hx hb dX5_canReplace_7 rfl (lv_at hl 1 rfl) ?_
  refine lv_iload_n hx hb dX5_canReplace_8 rfl (lv_at hl 2 rfl) ?_
  obtain ⟨z2, e_z2, h⟩ := bnd h
  refine roI (cc_X5_34 ga S hK hN hP e_z2 hl.1 (Nat.le_of_ble_eq_true rfl) ⟨Nat.le_of_ble_eq_true rfl, Nat.le_of_ble_eq_true rfl⟩ dX5_canReplace_9 ⟨Nat.le_of_ble_eq_true rfl, Nat.le_of_ble_eq_true rfl⟩) ?_
  refine lv_iadd hx hb dX5_canReplace_12 ?_
  refine lv_icmp_gt (tgt := 20) hx hb dX5_canReplace_13 (by decide) (fun c3 => ?_) (fun c3 => ?_)
  · have h := (if_pos c3).symm.trans h
    refine lv_iconst (v := 0) hx hb dX5_canReplace_20 (by decide) ?_
    exact retRz hQ S hr hlocks rfl h dX5_canReplace_21
  · have h := (if_neg c3).symm.trans h
    refine lv_iconst (v := 1) hx hb dX5_canReplace_16 (by decide) ?_
    refine lv_goto (tgt := 21) hx hb dX5_canReplace_17 (by decide) ?_
    exact retRz hQ S hr hlocks rfl h dX5_canReplace_21

theorem cc_X5_71 {p : Program} {l : Launch} {e : Env} {R : Room} {s : State} {m : MethodId} {args : Array Value} {below : List Frame} {meth : Method} {c : Code} {H : Heap} {locs : List Loc} {cells slots : Nat} {cc : ByteArray} {pc nL : Nat} {ls : Array Slot} {rest : List Value} {G : va_G} (ga : Nat → Nat) {cI cS : ClassId} {u : TM}  {p0 : Int32} {p1 : Int32} {r : Int32} (S : CallFix p m c cc nL s args bw RX5) (hK : va_K G vwCl (tysW cI cS) s) (hN : NW s) (hP : va_P G vwCl (wM cI ga u) H) (hf : fX5_hasRoom u p0 p1 = some r) (hsz : ls.size = nL) (hst : (rest.map fun v => v.category).sum ≤ 8) (hR : rmX5_hasRoom.frames + 1 ≤ R.frames ∧ 8 + (4 + 11) + rmX5_hasRoom.locals ≤ R.locals) (hdg : decode cc pc = .ok (.invokevirtual 71, 3)) (hcs : cells + 0 ≤ R.cells ∧ slots + 0 ≤ R.slots) : va_Run p l e R s m args below meth c H locs cells slots 0 0 (F0 m pc ls (.int p1 :: .int p0 :: .ref (ga 0) :: rest)) rest (vp_Si (fun r' => r' = r) (#[.ref (ga 0), .int p0, .int p1] : Array Value)) (fun _ => False) :=
  va_runV (As := [.int p0, .int p1]) (rest := rest) S (kX5_hasRoom l G cI cS ga u p0 p1 r hf) (cwV 2 S.2.2.2.2 (gdV q_445 q_446 q_447 q_392 q_413) rfl rfl rfl (by decide +kernel) hR) (pvR (q := (RX5, TX5, 12)) hK hN hP (ci := 5) (q0 := 0) rfl rfl) rfl rfl hsz rfl (lv_room hst) hdg hcs
def fX5_pageFor_j39 (u : TM) (x1 : Int32) (x2 : Int32) (x3 : Int32) (x4 : Int32) : Option ((Int32 × Int32 × Int32 × Int32) ⊕ (Nat × (Int32))) := some (.inl (x1, x2, x3, (x4 + 1)))
def fX5_pageFor_s3 (u : TM) (x1 : Int32) (x2 : Int32) (x3 : Int32) (x4 : Int32) : Option ((Int32 × Int32 × Int32 × Int32) ⊕ (Nat × (Int32))) := ((rd u.2.1 10724 (0 : Int32)).bind fun z1 => (if z1 ≤ x4 then some (.inr (1, (0 : Int32))) else (if x4 = x2 then fX5_pageFor_j39 u x1 x2 x3 x4 else (if x4 = x3 then fX5_pageFor_j39 u x1 x2 x3 x4 else ((fX5_hasRoom u x4 x1).bind fun z5 => (if z5 = 0 then fX5_pageFor_j39 u x1 x2 x3 x4 else some (.inr (0, x4))))))))
def fX5_pageFor (u : TM) (p0 : Int32) (p1 : Int32) (p2 : Int32) : Option (Int32) := ((itr (fun a : Int32 × Int32 × Int32 × Int32 => fX5_pageFor_s3 u a.1 a.2.1 a.2.2.1 a.2.2.2) FU (p0, p1, p2, (0 : Int32))).bind fun b7 => (if b7.1 = 0 then some b7.2 else ((rd u.2.1 10724 (0 : Int32)).bind fun z10 => (if (8 : Int32) ≤ z10 then some ((-1) : Int32) else ((rd u.2.1 10724 (0 : Int32)).bind fun z12 => some z12)))))
abbrev rmX5_pageFor : Room := { frames := 5, cells := 0, slots := 0, locals := 111 }
set_option maxRecDepth 100000 in
set_option maxHeartbeats 4000000 in
theorem kX5_pageFor (l : Launch) (G : va_G) (cI cS : ClassId) (ga : Nat → Nat) (u : TM) (p0 : Int32) (p1 : Int32) (p2 : Int32) (r : Int32) (hf : fX5_pageFor u p0 p1 p2 = some r) : Met l yX5_pageFor (.code yX5_pageFor cX5_pageFor 5 (some .int) :: bw) rmX5_pageFor (va_Pc [.ref (ga 0), .int p0, .int p1, .int p2] (PreR G (tysW cI cS) (wM cI ga u))) (vp_Si (fun r' => r' = r)) 0 0 (fun _ => False) := by
  refine enterR (own := RX5) (by decide) rfl rfl (Nat.le_of_ble_eq_true rfl) ?_
  intro p e s m args below meth c Q hQ S hr hlocks hP hK hN ls hl
  have hx := S.1; have hb := S.2.1; have hml := S.2.2.1; have hown := S.2.2.2.1; have hq := S.2.2.2.2
  have hl : lv_has ls 5 [(0, .ref (ga 0)), (1, .int p0), (2, .int p1), (3, .int p2)] := hl
  have h := hf
  unfold fX5_pageFor at h
  have L3 : ∀ (n9 : Nat) (a9 : Int32 × Int32 × Int32 × Int32) (b9 : Nat × (Int32)), itr (fun a : Int32 × Int32 × Int32 × Int32 => fX5_pageFor_s3 u a.1 a.2.1 a.2.2.1 a.2.2.2) n9 a9 = some b9 → (fun b : Nat × (Int32) => (b.1 = 0 → ∀ ls : Array Slot, lv_has ls 5 [(4, .int b.2)] → W p l e rmX5_pageFor s m args below meth c s.heap [] 0 0 Q (F0 m 36 ls [])) ∧ (¬ b.1 = 0 → ∀ ls : Array Slot, lv_has ls 5 [(0, .ref (ga 0))] → W p l e rmX5_pageFor s m args below meth c s.heap [] 0 0 Q (F0 m 45 ls []))) b9 → (fun a : Int32 × Int32 × Int32 × Int32 => ∀ ls : Array Slot, lv_has ls 5 [(0, .ref (ga 0)), (1, .int a.1), (2, .int a.2.1), (3, .int a.2.2.1), (4, .int a.2.2.2)] → W p l e rmX5_pageFor s m args below meth c s.heap [] 0 0 Q (F0 m 3 ls [])) a9 := by
    refine itr_ind (Inv := (fun a : Int32 × Int32 × Int32 × Int32 => ∀ ls : Array Slot, lv_has ls 5 [(0, .ref (ga 0)), (1, .int a.1), (2, .int a.2.1), (3, .int a.2.2.1), (4, .int a.2.2.2)] → W p l e rmX5_pageFor s m args below meth c s.heap [] 0 0 Q (F0 m 3 ls []))) (Ex := (fun b : Nat × (Int32) => (b.1 = 0 → ∀ ls : Array Slot, lv_has ls 5 [(4, .int b.2)] → W p l e rmX5_pageFor s m args below meth c s.heap [] 0 0 Q (F0 m 36 ls [])) ∧ (¬ b.1 = 0 → ∀ ls : Array Slot, lv_has ls 5 [(0, .ref (ga 0))] → W p l e rmX5_pageFor s m args below meth c s.heap [] 0 0 Q (F0 m 45 ls [])))) ?_
    rintro ⟨x1, x2, x3, x4⟩ z h hI hE
    have h : fX5_pageFor_s3 u x1 x2 x3 x4 = some z := h
    unfold fX5_pageFor_s3 at h
    show ∀ ls : Array Slot, lv_has ls 5 [(0, .ref (ga 0)), (1, .int x1), (2, .int x2), (3, .int x3), (4, .int x4)] → W p l e rmX5_pageFor s m args below meth c s.heap [] 0 0 Q (F0 m 3 ls [])
    have J39 : ∀ (x1 : Int32) (x2 : Int32) (x3 : Int32) (x4 : Int32) , fX5_pageFor_j39 u x1 x2 x3 x4 = some z → ∀ ls : Array Slot, lv_has ls 5 [(0, .ref (ga 0)), (1, .int x1), (2, .int x2), (3, .int x3), (4, .int x4)] → W p l e rmX5_pageFor s m args below meth c s.heap [] 0 0 Q (F0 m 39 ls []) := by
      intro x1 x2 x3 x4 h
      unfold fX5_pageFor_j39 at h
      intro ls hl
      refine lv_iinc (v := (x4 + 1)) (lv' := [(4, .int (x4 + 1)), (0, .ref (ga 0)), (1, .int x1), (2, .int x2), (3, .int x3)]) hx hb dX5_pageFor_39 hl (k := 4) rfl rfl (by decide) rfl (fun ls hl => ?_)
      refine lv_goto (tgt := 3) hx hb dX5_pageFor_42 (by decide) ?_
      exact hI _ (Option.some.inj h) _ (lv_sub hl [1, 2, 3, 4, 0] rfl)
    intro ls hl
    refine lv_iload hx hb dX5_pageFor_3 (lv_at hl 4 rfl) ?_
    refine lv_aload_n hx hb dX5_pageFor_5 rfl (lv_at hl 0 rfl) ?_
    refine gf_X5_7 S hK hN hP 0 rfl (v := .ref (ga 1)) rfl dX5_pageFor_6 ?_
    refine lv_iconst (v := 0) hx hb dX5_pageFor_9 (by decide) ?_
    obtain ⟨z1, e_z1, h⟩ := bnd h
    refine iaO (f := u.2.1) hx hb hK hP 1 0 rfl rfl e_z1 dX5_pageFor_10 ?_
    refine lv_icmp_ge (tgt := 45) hx hb dX5_pageFor_11 (by decide) (fun c2 => ?_) (fun c2 => ?_)
    · have h := (if_pos c2).symm.trans h
      exact (hE _ (Option.some.inj h)).2 (fun q => nomatch q) _ (lv_sub hl [0] rfl)
    · have h := (if_neg c2).symm.trans h
      refine lv_iload hx hb dX5_pageFor_14 (lv_at hl 4 rfl) ?_
      refine lv_iload_n hx hb dX5_pageFor_16 rfl (lv_at hl 2 rfl) ?_
      refine lv_icmp_eq (tgt := 39) hx hb dX5_pageFor_17 (by decide) (fun c3 => ?_) (fun c3 => ?_)
      · have h := (if_pos c3).symm.trans h
        exact J39 x1 x2 x3 x4 h _ (lv_sub hl [0, 1, 2, 3, 4] rfl)
      · have h := (if_neg c3).symm.trans h
        refine lv_iload hx hb dX5_pageFor_20 (lv_at hl 4 rfl) ?_
        refine lv_iload_n hx hb dX5_pageFor_22 rfl (lv_at hl 3 rfl) ?_
        refine lv_icmp_eq (tgt := 39) hx hb dX5_pageFor_23 (by decide) (fun c4 => ?_) (fun c4 => ?_)
        · have h := (if_pos c4).symm.trans h
          exact J39 x1 x2 x3 x4 h _ (lv_sub hl [0, 1, 2, 3, 4] rfl)
        · have h := (if_neg c4).symm.trans h
          refine lv_aload_n hx hb dX5_pageFor_26 rfl (lv_at hl 0 rfl) ?_
          refine lv_iload hx hb dX5_pageFor_27 (lv_at hl 4 rfl) ?_
          refine lv_iload_n hx hb dX5_pageFor_29 rfl (lv_at hl 1 rfl) ?_
          obtain ⟨z5, e_z5, h⟩ := bnd h
          refine roI (cc_X5_71 ga S hK hN hP e_z5 hl.1 (Nat.le_of_ble_eq_true rfl) ⟨Nat.le_of_ble_eq_true rfl, Nat.le_of_ble_eq_true rfl⟩ dX5_pageFor_30 ⟨Nat.le_of_ble_eq_true rfl, Nat.le_of_ble_eq_true rfl⟩) ?_
          refine lv_if_eq (tgt := 39) hx hb dX5_pageFor_33 (by decide) (fun c6 => ?_) (fun c6 => ?_)
          · have h := (if_pos c6).symm.trans h
            exact J39 x1 x2 x3 x4 h _ (lv_sub hl [0, 1, 2, 3, 4] rfl)
          · have h := (if_neg c6).symm.trans h
            exact (hE _ (Option.some.inj h)).1 rfl _ (lv_sub hl [4] rfl)
  refine lv_iconst (v := 0) hx hb dX5_pageFor_0 (by decide) ?_
  refine lv_istore (lv' := [(4, .int (0 : Int32)), (0, .ref (ga 0)), (1, .int p0), (2, .int p1), (3, .int p2)]) hx hb dX5_pageFor_1 hl (by decide) rfl (fun ls hl => ?_)
  obtain ⟨b7, e_b7, h⟩ := bnd h
  refine L3 _ _ _ e_b7 ⟨?_, ?_⟩ _ (lv_sub hl [1, 2, 3, 4, 0] rfl)
  · skip
    intro c8
    have h := (if_pos c8).symm.trans h
    intro ls hl
    refine lv_iload hx hb dX5_pageFor_36 (lv_at hl 0 rfl) ?_
    exact retR hQ S hr hlocks h dX5_pageFor_38
  · intro c9
    have h := (if_neg c9).symm.trans h
    intro ls hl
    refine lv_aload_n hx hb dX5_pageFor_45 rfl (lv_at hl 0 rfl) ?_
    refine gf_X5_7 S hK hN hP 0 rfl (v := .ref (ga 1)) rfl dX5_pageFor_46 ?_
    refine lv_iconst (v := 0) hx hb dX5_pageFor_49 (by decide) ?_
    obtain ⟨z10, e_z10, h⟩ := bnd h
    refine iaO (f := u.2.1) hx hb hK hP 1 0 rfl rfl e_z10 dX5_pageFor_50 ?_
    refine lv_bipush (v := 8) hx hb dX5_pageFor_51 (by decide) ?_
    refine lv_icmp_ge (tgt := 65) hx hb dX5_pageFor_53 (by decide) (fun c11 => ?_) (fun c11 => ?_)
    · have h := (if_pos c11).symm.trans h
      refine lv_iconst (v := (-1)) hx hb dX5_pageFor_65 (by decide) ?_
      exact retR hQ S hr hlocks h dX5_pageFor_66
    · have h := (if_neg c11).symm.trans h
      refine lv_aload_n hx hb dX5_pageFor_56 rfl (lv_at hl 0 rfl) ?_
      refine gf_X5_7 S hK hN hP 0 rfl (v := .ref (ga 1)) rfl dX5_pageFor_57 ?_
      refine lv_iconst (v := 0) hx hb dX5_pageFor_60 (by decide) ?_
      obtain ⟨z12, e_z12, h⟩ := bnd h
      refine iaO (f := u.2.1) hx hb hK hP 1 0 rfl rfl e_z12 dX5_pageFor_61 ?_
      refine lv_goto (tgt := 66) hx hb dX5_pageFor_62 (by decide) ?_
      exact retR hQ S hr hlocks h dX5_pageFor_66

def fX5_opens (u : TM) (p0 : Int32) : Option (TM) := ((rd u.2.1 10724 (0 : Int32)).bind fun z1 => ((rd u.2.1 10724 (0 : Int32)).bind fun z2 => (if p0 = z2 then ((wr u.2.1 10724 (0 : Int32) (z1 + (1 : Int32))).bind fun z5 => some (u.1, z5, u.2.2)) else ((wr u.2.1 10724 (0 : Int32) (z1 + (0 : Int32))).bind fun z4 => some (u.1, z4, u.2.2)))))
abbrev rmX5_opens : Room := { frames := 0, cells := 0, slots := 0, locals := 0 }
set_option maxRecDepth 100000 in
set_option maxHeartbeats 4000000 in
theorem kX5_opens (l : Launch) (G : va_G) (cI cS : ClassId) (ga : Nat → Nat) (sz : Nat) (u : TM) (p0 : Int32) (r : TM) (hf : fX5_opens u p0 = some r) : Met l yX5_opens (.code yX5_opens cX5_opens 2 none :: bw) rmX5_opens (va_Pc [.ref (ga 0), .int p0] (PreM G (tysW cI cS) (wM cI ga u) sz)) (va_Qv (fun u' => u' = r) (PoM G (tysW cI cS) (va_A (wM cI ga u) sz) (wM cI ga)) (va_A (wM cI ga u) sz)) 0 0 (va_A (wM cI ga u) sz) := by
  refine enterM (own := RX5) (by decide) rfl (Nat.le_of_ble_eq_true rfl) ?_
  intro p e s m args below meth c A Q hAe hQ S hr hlocks hP hK hN hD hA hS ls hl
  rw [hAe] at hQ
  have hx := S.1; have hb := S.2.1; have hml := S.2.2.1; have hown := S.2.2.2.1; have hq := S.2.2.2.2
  have hl : lv_has ls 2 [(0, .ref (ga 0)), (1, .int p0)] := hl
  have h := hf
  unfold fX5_opens at h
  refine lv_aload_n hx hb dX5_opens_0 rfl (lv_at hl 0 rfl) ?_
  refine gf_X5_7 S hK hN hP 0 rfl (v := .ref (ga 1)) rfl dX5_opens_1 ?_
  refine lv_iconst (v := 0) hx hb dX5_opens_4 (by decide) ?_
  refine lv_dup2_11 hx hb dX5_opens_5 rfl rfl ?_
  obtain ⟨z1, e_z1, h⟩ := bnd h
  refine iaO (f := u.2.1) hx hb hK hP 1 0 rfl rfl e_z1 dX5_opens_6 ?_
  refine lv_iload_n hx hb dX5_opens_7 rfl (lv_at hl 1 rfl) ?_
  refine lv_aload_n hx hb dX5_opens_8 rfl (lv_at hl 0 rfl) ?_
  refine gf_X5_7 S hK hN hP 0 rfl (v := .ref (ga 1)) rfl dX5_opens_9 ?_
  refine lv_iconst (v := 0) hx hb dX5_opens_12 (by decide) ?_
  obtain ⟨z2, e_z2, h⟩ := bnd h
  refine iaO (f := u.2.1) hx hb hK hP 1 0 rfl rfl e_z2 dX5_opens_13 ?_
  refine lv_icmp_ne (tgt := 21) hx hb dX5_opens_14 (by decide) (fun c3 => ?_) (fun c3 => ?_)
  · have h := (if_neg c3).symm.trans h
    refine lv_iconst (v := 0) hx hb dX5_opens_21 (by decide) ?_
    refine lv_iadd hx hb dX5_opens_22 ?_
    obtain ⟨z4, e_z4, h⟩ := bnd h
    refine iaS (f := u.2.1) hx hb hK hP hD hS 1 0 rfl rfl e_z4 dX5_opens_23 (fun H locs hP hD hS => ?_)
    have hP : va_P G vwCl (wM cI ga (u.1, z4, u.2.2)) H := hP
    have hD : va_D A (wM cI ga (u.1, z4, u.2.2)) := hD
    exact retMv hQ S hr hlocks hK hN hP hD hS h dX5_opens_24
  · have h := (if_pos c3).symm.trans h
    refine lv_iconst (v := 1) hx hb dX5_opens_17 (by decide) ?_
    refine lv_goto (tgt := 22) hx hb dX5_opens_18 (by decide) ?_
    refine lv_iadd hx hb dX5_opens_22 ?_
    obtain ⟨z5, e_z5, h⟩ := bnd h
    refine iaS (f := u.2.1) hx hb hK hP hD hS 1 0 rfl rfl e_z5 dX5_opens_23 (fun H locs hP hD hS => ?_)
    have hP : va_P G vwCl (wM cI ga (u.1, z5, u.2.2)) H := hP
    have hD : va_D A (wM cI ga (u.1, z5, u.2.2)) := hD
    exact retMv hQ S hr hlocks hK hN hP hD hS h dX5_opens_24

def fX5_kindAt_j53 (u : TM) (x1 : Int32) (t0 : Int32) : Option (Int32) := (if t0 = 0 then some (0 : Int32) else ((fX5_byteAt u (x1 / (100 : Int32)) (x1 - x1 / (100 : Int32) * (100 : Int32)) (0 : Int32)).bind fun z2 => (if z2 = (2 : Int32) then some z2 else (if z2 = (3 : Int32) then some z2 else some (1 : Int32)))))
def fX5_kindAt_j52 (u : TM) (x1 : Int32) : Option (Int32) := fX5_kindAt_j53 u x1 (0 : Int32)
def fX5_kindAt (u : TM) (p0 : Int32) : Option (Int32) := (if p0 < 0 then fX5_kindAt_j52 u p0 else ((rd u.2.1 10724 (0 : Int32)).bind fun z6 => (if z6 ≤ (p0 / (100 : Int32)) then fX5_kindAt_j52 u p0 else ((fX5_of u (p0 / (100 : Int32)) (0 : Int32)).bind fun z8 => (if z8 ≤ (p0 - p0 / (100 : Int32) * (100 : Int32)) then fX5_kindAt_j52 u p0 else ((fX5_sizeOf u (p0 / (100 : Int32)) (p0 - p0 / (100 : Int32) * (100 : Int32))).bind fun z10 => (if z10 ≤ 0 then fX5_kindAt_j52 u p0 else fX5_kindAt_j53 u p0 (1 : Int32))))))))
abbrev rmX5_kindAt : Room := { frames := 2, cells := 0, slots := 0, locals := 45 }
set_option maxRecDepth 100000 in
set_option maxHeartbeats 4000000 in
theorem kX5_kindAt (l : Launch) (G : va_G) (cI cS : ClassId) (ga : Nat → Nat) (u : TM) (p0 : Int32) (r : Int32) (hf : fX5_kindAt u p0 = some r) : Met l yX5_kindAt (.code yX5_kindAt cX5_kindAt 4 (some .int) :: bw) rmX5_kindAt (va_Pc [.ref (ga 0), .int p0] (PreR G (tysW cI cS) (wM cI ga u))) (vp_Si (fun r' => r' = r)) 0 0 (fun _ => False) := by
  refine enterR (own := RX5) (by decide) rfl rfl (Nat.le_of_ble_eq_true rfl) ?_
  intro p e s m args below meth c Q hQ S hr hlocks hP hK hN ls hl
  have hx := S.1; have hb := S.2.1; have hml := S.2.2.1; have hown := S.2.2.2.1; have hq := S.2.2.2.2
  have hl : lv_has ls 4 [(0, .ref (ga 0)), (1, .int p0)] := hl
  have h := hf
  unfold fX5_kindAt at h
  have J53 : ∀ (x1 : Int32) (t0 : Int32) , fX5_kindAt_j53 u x1 t0 = some r → ∀ ls : Array Slot, lv_has ls 4 [(0, .ref (ga 0)), (1, .int x1)] → W p l e rmX5_kindAt s m args below meth c s.heap [] 0 0 Q (F0 m 53 ls [.int t0]) := by
    intro x1 t0 h
    unfold fX5_kindAt_j53 at h
    intro ls hl
    refine lv_istore_n (lv' := [(2, .int t0), (0, .ref (ga 0)), (1, .int x1)]) hx hb dX5_kindAt_53 rfl hl (by decide) rfl (fun ls hl => ?_)
    refine lv_iload_n hx hb dX5_kindAt_54 rfl (lv_at hl 0 rfl) ?_
    refine lv_if_ne (tgt := 60) hx hb dX5_kindAt_55 (by decide) (fun c1 => ?_) (fun c1 => ?_)
    · have h := (if_neg c1).symm.trans h
      refine lv_aload_n hx hb dX5_kindAt_60 rfl (lv_at hl 1 rfl) ?_
      refine lv_iload_n hx hb dX5_kindAt_61 rfl (lv_at hl 2 rfl) ?_
      refine lv_bipush (v := 100) hx hb dX5_kindAt_62 (by decide) ?_
      refine lv_idiv hx hb dX5_kindAt_64 (by decide) ?_
      refine lv_iload_n hx hb dX5_kindAt_65 rfl (lv_at hl 2 rfl) ?_
      refine lv_bipush (v := 100) hx hb dX5_kindAt_66 (by decide) ?_
      refine lv_irem hx hb dX5_kindAt_68 (by decide) ?_
      refine lv_iconst (v := 0) hx hb dX5_kindAt_69 (by decide) ?_
      obtain ⟨z2, e_z2, h⟩ := bnd h
      refine roI (cc_X5_58 ga S hK hN hP e_z2 hl.1 (Nat.le_of_ble_eq_true rfl) ⟨Nat.le_of_ble_eq_true rfl, Nat.le_of_ble_eq_true rfl⟩ dX5_kindAt_70 ⟨Nat.le_of_ble_eq_true rfl, Nat.le_of_ble_eq_true rfl⟩) ?_
      refine lv_istore_n (lv' := [(3, .int z2), (2, .int t0), (0, .ref (ga 0)), (1, .int x1)]) hx hb dX5_kindAt_73 rfl hl (by decide) rfl (fun ls hl => ?_)
      refine lv_iload_n hx hb dX5_kindAt_74 rfl (lv_at hl 0 rfl) ?_
      refine lv_iconst (v := 2) hx hb dX5_kindAt_75 (by decide) ?_
      refine lv_icmp_eq (tgt := 84) hx hb dX5_kindAt_76 (by decide) (fun c3 => ?_) (fun c3 => ?_)
      · have h := (if_pos c3).symm.trans h
        refine lv_iload_n hx hb dX5_kindAt_84 rfl (lv_at hl 0 rfl) ?_
        refine lv_goto (tgt := 89) hx hb dX5_kindAt_85 (by decide) ?_
        exact retR hQ S hr hlocks h dX5_kindAt_89
      · have h := (if_neg c3).symm.trans h
        refine lv_iload_n hx hb dX5_kindAt_79 rfl (lv_at hl 0 rfl) ?_
        refine lv_iconst (v := 3) hx hb dX5_kindAt_80 (by decide) ?_
        refine lv_icmp_ne (tgt := 88) hx hb dX5_kindAt_81 (by decide) (fun c4 => ?_) (fun c4 => ?_)
        · have h := (if_neg c4).symm.trans h
          refine lv_iconst (v := 1) hx hb dX5_kindAt_88 (by decide) ?_
          exact retR hQ S hr hlocks h dX5_kindAt_89
        · have h := (if_pos c4).symm.trans h
          refine lv_iload_n hx hb dX5_kindAt_84 rfl (lv_at hl 0 rfl) ?_
          refine lv_goto (tgt := 89) hx hb dX5_kindAt_85 (by decide) ?_
          exact retR hQ S hr hlocks h dX5_kindAt_89
    · have h := (if_pos c1).symm.trans h
      refine lv_iconst (v := 0) hx hb dX5_kindAt_58 (by decide) ?_
      exact retR hQ S hr hlocks h dX5_kindAt_59
  have J52 : ∀ (x1 : Int32) , fX5_kindAt_j52 u x1 = some r → ∀ ls : Array Slot, lv_has ls 4 [(0, .ref (ga 0)), (1, .int x1)] → W p l e rmX5_kindAt s m args below meth c s.heap [] 0 0 Q (F0 m 52 ls []) := by
    intro x1 h
    unfold fX5_kindAt_j52 at h
    intro ls hl
    refine lv_iconst (v := 0) hx hb dX5_kindAt_52 (by decide) ?_
    exact J53 x1 (0 : Int32) h _ (lv_sub hl [0, 1] rfl)
  refine lv_iload_n hx hb dX5_kindAt_0 rfl (lv_at hl 1 rfl) ?_
  refine lv_if_lt (tgt := 52) hx hb dX5_kindAt_1 (by decide) (fun c5 => ?_) (fun c5 => ?_)
  · have h := (if_pos c5).symm.trans h
    exact J52 p0 h _ (lv_sub hl [0, 1] rfl)
  · have h := (if_neg c5).symm.trans h
    refine lv_iload_n hx hb dX5_kindAt_4 rfl (lv_at hl 1 rfl) ?_
    refine lv_bipush (v := 100) hx hb dX5_kindAt_5 (by decide) ?_
    refine lv_idiv hx hb dX5_kindAt_7 (by decide) ?_
    refine lv_aload_n hx hb dX5_kindAt_8 rfl (lv_at hl 0 rfl) ?_
    refine gf_X5_7 S hK hN hP 0 rfl (v := .ref (ga 1)) rfl dX5_kindAt_9 ?_
    refine lv_iconst (v := 0) hx hb dX5_kindAt_12 (by decide) ?_
    obtain ⟨z6, e_z6, h⟩ := bnd h
    refine iaO (f := u.2.1) hx hb hK hP 1 0 rfl rfl e_z6 dX5_kindAt_13 ?_
    refine lv_icmp_ge (tgt := 52) hx hb dX5_kindAt_14 (by decide) (fun c7 => ?_) (fun c7 => ?_)
    · have h := (if_pos c7).symm.trans h
      exact J52 p0 h _ (lv_sub hl [0, 1] rfl)
    · have h := (if_neg c7).symm.trans h
      refine lv_iload_n hx hb dX5_kindAt_17 rfl (lv_at hl 1 rfl) ?_
      refine lv_bipush (v := 100) hx hb dX5_kindAt_18 (by decide) ?_
      refine lv_irem hx hb dX5_kindAt_20 (by decide) ?_
      refine lv_aload_n hx hb dX5_kindAt_21 rfl (lv_at hl 0 rfl) ?_
      refine lv_iload_n hx hb dX5_kindAt_22 rfl (lv_at hl 1 rfl) ?_
      refine lv_bipush (v := 100) hx hb dX5_kindAt_23 (by decide) ?_
      refine lv_idiv hx hb dX5_kindAt_25 (by decide) ?_
      refine lv_iconst (v := 0) hx hb dX5_kindAt_26 (by decide) ?_
      obtain ⟨z8, e_z8, h⟩ := bnd h
      refine roI (cc_X5_26 ga S hK hN hP e_z8 hl.1 (Nat.le_of_ble_eq_true rfl) ⟨Nat.le_of_ble_eq_true rfl, Nat.le_of_ble_eq_true rfl⟩ dX5_kindAt_27 ⟨Nat.le_of_ble_eq_true rfl, Nat.le_of_ble_eq_true rfl⟩) ?_
      refine lv_icmp_ge (tgt := 52) hx hb dX5_kindAt_30 (by decide) (fun c9 => ?_) (fun c9 => ?_)
      · have h := (if_pos c9).symm.trans h
        exact J52 p0 h _ (lv_sub hl [0, 1] rfl)
      · have h := (if_neg c9).symm.trans h
        refine lv_aload_n hx hb dX5_kindAt_33 rfl (lv_at hl 0 rfl) ?_
        refine lv_iload_n hx hb dX5_kindAt_34 rfl (lv_at hl 1 rfl) ?_
        refine lv_bipush (v := 100) hx hb dX5_kindAt_35 (by decide) ?_
        refine lv_idiv hx hb dX5_kindAt_37 (by decide) ?_
        refine lv_iload_n hx hb dX5_kindAt_38 rfl (lv_at hl 1 rfl) ?_
        refine lv_bipush (v := 100) hx hb dX5_kindAt_39 (by decide) ?_
        refine lv_irem hx hb dX5_kindAt_41 (by decide) ?_
        obtain ⟨z10, e_z10, h⟩ := bnd h
        refine roI (cc_X5_34 ga S hK hN hP e_z10 hl.1 (Nat.le_of_ble_eq_true rfl) ⟨Nat.le_of_ble_eq_true rfl, Nat.le_of_ble_eq_true rfl⟩ dX5_kindAt_42 ⟨Nat.le_of_ble_eq_true rfl, Nat.le_of_ble_eq_true rfl⟩) ?_
        refine lv_if_le (tgt := 52) hx hb dX5_kindAt_45 (by decide) (fun c11 => ?_) (fun c11 => ?_)
        · have h := (if_pos c11).symm.trans h
          exact J52 p0 h _ (lv_sub hl [0, 1] rfl)
        · have h := (if_neg c11).symm.trans h
          refine lv_iconst (v := 1) hx hb dX5_kindAt_48 (by decide) ?_
          refine lv_goto (tgt := 53) hx hb dX5_kindAt_49 (by decide) ?_
          exact J53 p0 (1 : Int32) h _ (lv_sub hl [0, 1] rfl)

theorem cc_X5_75 {p : Program} {l : Launch} {e : Env} {R : Room} {s : State} {m : MethodId} {args : Array Value} {below : List Frame} {meth : Method} {c : Code} {H : Heap} {locs : List Loc} {cells slots : Nat} {cc : ByteArray} {pc nL : Nat} {ls : Array Slot} {rest : List Value} {G : va_G} (ga : Nat → Nat) {cI cS : ClassId} {u : TM}  {p0 : Int32} {r : Int32} (S : CallFix p m c cc nL s args bw RX5) (hK : va_K G vwCl (tysW cI cS) s) (hN : NW s) (hP : va_P G vwCl (wM cI ga u) H) (hf : fX5_kindAt u p0 = some r) (hsz : ls.size = nL) (hst : (rest.map fun v => v.category).sum ≤ 8) (hR : rmX5_kindAt.frames + 1 ≤ R.frames ∧ 8 + (4 + 11) + rmX5_kindAt.locals ≤ R.locals) (hdg : decode cc pc = .ok (.invokevirtual 75, 3)) (hcs : cells + 0 ≤ R.cells ∧ slots + 0 ≤ R.slots) : va_Run p l e R s m args below meth c H locs cells slots 0 0 (F0 m pc ls (.int p0 :: .ref (ga 0) :: rest)) rest (vp_Si (fun r' => r' = r) (#[.ref (ga 0), .int p0] : Array Value)) (fun _ => False) :=
  va_runV (As := [.int p0]) (rest := rest) S (kX5_kindAt l G cI cS ga u p0 r hf) (cwV 1 S.2.2.2.2 (gdV q_452 q_453 q_454 q_392 q_450) rfl rfl rfl (by decide +kernel) hR) (pvR (q := (RX5, TX5, 12)) hK hN hP (ci := 5) (q0 := 0) rfl rfl) rfl rfl hsz rfl (lv_room hst) hdg hcs
theorem cc_X5_78 {p : Program} {l : Launch} {e : Env} {R : Room} {s : State} {m : MethodId} {args : Array Value} {below : List Frame} {meth : Method} {c : Code} {H : Heap} {locs : List Loc} {cells slots : Nat} {cc : ByteArray} {pc nL : Nat} {ls : Array Slot} {rest : List Value} {G : va_G}  {cI cS : ClassId}  {p0 : Int32} {p1 : Int32} {p2 : Int32} {r : Int32} (S : CallFix p m c cc nL s args bw RX5) (hK : va_K G vwCl (tysW cI cS) s) (hN : NW s) (hP : va_P G vwCl wE H) (hf : fX5_in p0 p1 p2 = some r) (hsz : ls.size = nL) (hst : (rest.map fun v => v.category).sum ≤ 8) (hR : rmX5_in.frames + 1 ≤ R.frames ∧ 8 + (3 + 11) + rmX5_in.locals ≤ R.locals) (hdg : decode cc pc = .ok (.invokestatic 78, 3)) (hcs : cells + 0 ≤ R.cells ∧ slots + 0 ≤ R.slots) : va_Run p l e R s m args below meth c H locs cells slots 0 0 (F0 m pc ls (.int p2 :: .int p1 :: .int p0 :: rest)) rest (vp_Si (fun r' => r' = r) (#[.int p0, .int p1, .int p2] : Array Value)) (fun _ => False) :=
  va_runS (As := [.int p0, .int p1, .int p2]) (rest := rest) S (kX5_in l G cI cS p0 p1 p2 r hf) (cwS 3 S.2.2.2.2 (gdS q_455 q_456 q_392 q_384) rfl rfl rfl (by decide +kernel) hR) (psR hK hN hP) rfl rfl hsz rfl (lv_room hst) hdg hcs
def fX5_isIdentifier (u : TM) (p0 : Int32) : Option (Int32) := ((fX5_kindAt u p0).bind fun z1 => ((fX5_in z1 (1 : Int32) (2 : Int32)).bind fun z2 => ((zO z2).bind fun z3 => some z3)))
abbrev rmX5_isIdentifier : Room := { frames := 3, cells := 0, slots := 0, locals := 68 }
set_option maxRecDepth 100000 in
set_option maxHeartbeats 4000000 in
theorem kX5_isIdentifier (l : Launch) (G : va_G) (cI cS : ClassId) (ga : Nat → Nat) (u : TM) (p0 : Int32) (r : Int32) (hf : fX5_isIdentifier u p0 = some r) : Met l yX5_isIdentifier (.code yX5_isIdentifier cX5_isIdentifier 2 (some .boolean) :: bw) rmX5_isIdentifier (va_Pc [.ref (ga 0), .int p0] (PreR G (tysW cI cS) (wM cI ga u))) (vp_Si (fun r' => r' = r)) 0 0 (fun _ => False) := by
  refine enterR (own := RX5) (by decide) rfl rfl (Nat.le_of_ble_eq_true rfl) ?_
  intro p e s m args below meth c Q hQ S hr hlocks hP hK hN ls hl
  have hx := S.1; have hb := S.2.1; have hml := S.2.2.1; have hown := S.2.2.2.1; have hq := S.2.2.2.2
  have hl : lv_has ls 2 [(0, .ref (ga 0)), (1, .int p0)] := hl
  have h := hf
  unfold fX5_isIdentifier at h
  refine lv_aload_n hx hb dX5_isIdentifier_0 rfl (lv_at hl 0 rfl) ?_
  refine lv_iload_n hx hb dX5_isIdentifier_1 rfl (lv_at hl 1 rfl) ?_
  obtain ⟨z1, e_z1, h⟩ := bnd h
  refine roI (cc_X5_75 ga S hK hN hP e_z1 hl.1 (Nat.le_of_ble_eq_true rfl) ⟨Nat.le_of_ble_eq_true rfl, Nat.le_of_ble_eq_true rfl⟩ dX5_isIdentifier_2 ⟨Nat.le_of_ble_eq_true rfl, Nat.le_of_ble_eq_true rfl⟩) ?_
  refine lv_iconst (v := 1) hx hb dX5_isIdentifier_5 (by decide) ?_
  refine lv_iconst (v := 2) hx hb dX5_isIdentifier_6 (by decide) ?_
  obtain ⟨z2, e_z2, h⟩ := bnd h
  refine roI (cc_X5_78 S hK hN va_P0 e_z2 hl.1 (Nat.le_of_ble_eq_true rfl) ⟨Nat.le_of_ble_eq_true rfl, Nat.le_of_ble_eq_true rfl⟩ dX5_isIdentifier_7 ⟨Nat.le_of_ble_eq_true rfl, Nat.le_of_ble_eq_true rfl⟩) ?_
  obtain ⟨z3, e_z3, h⟩ := bnd h
  obtain ⟨q_z3, k_z3⟩ := zO_in e_z3
  rw [← q_z3] at h
  exact retRz hQ S hr hlocks (by rcases k_z3 with q | q <;> rw [q] <;> rfl) h dX5_isIdentifier_10

def fX5_placed (u : TM) (p0 : Int32) : Option (Int32) := ((fX5_kindAt u p0).bind fun z1 => (if z1 = (1 : Int32) then some p0 else ((fX5_byteAt u (p0 / (100 : Int32)) (p0 - p0 / (100 : Int32) * (100 : Int32)) (1 : Int32)).bind fun z3 => ((fX5_byteAt u (p0 / (100 : Int32)) (p0 - p0 / (100 : Int32) * (100 : Int32)) (2 : Int32)).bind fun z4 => some (((100 : Int32) * z3) + z4)))))
abbrev rmX5_placed : Room := { frames := 3, cells := 0, slots := 0, locals := 68 }
set_option maxRecDepth 100000 in
set_option maxHeartbeats 4000000 in
theorem kX5_placed (l : Launch) (G : va_G) (cI cS : ClassId) (ga : Nat → Nat) (u : TM) (p0 : Int32) (r : Int32) (hf : fX5_placed u p0 = some r) : Met l yX5_placed (.code yX5_placed cX5_placed 2 (some .int) :: bw) rmX5_placed (va_Pc [.ref (ga 0), .int p0] (PreR G (tysW cI cS) (wM cI ga u))) (vp_Si (fun r' => r' = r)) 0 0 (fun _ => False) := by
  refine enterR (own := RX5) (by decide) rfl rfl (Nat.le_of_ble_eq_true rfl) ?_
  intro p e s m args below meth c Q hQ S hr hlocks hP hK hN ls hl
  have hx := S.1; have hb := S.2.1; have hml := S.2.2.1; have hown := S.2.2.2.1; have hq := S.2.2.2.2
  have hl : lv_has ls 2 [(0, .ref (ga 0)), (1, .int p0)] := hl
  have h := hf
  unfold fX5_placed at h
  refine lv_aload_n hx hb dX5_placed_0 rfl (lv_at hl 0 rfl) ?_
  refine lv_iload_n hx hb dX5_placed_1 rfl (lv_at hl 1 rfl) ?_
  obtain ⟨z1, e_z1, h⟩ := bnd h
  refine roI (cc_X5_75 ga S hK hN hP e_z1 hl.1 (Nat.le_of_ble_eq_true rfl) ⟨Nat.le_of_ble_eq_true rfl, Nat.le_of_ble_eq_true rfl⟩ dX5_placed_2 ⟨Nat.le_of_ble_eq_true rfl, Nat.le_of_ble_eq_true rfl⟩) ?_
  refine lv_iconst (v := 1) hx hb dX5_placed_5 (by decide) ?_
  refine lv_icmp_ne (tgt := 13) hx hb dX5_placed_6 (by decide) (fun c2 => ?_) (fun c2 => ?_)
  · have h := (if_neg c2).symm.trans h
    refine lv_bipush (v := 100) hx hb dX5_placed_13 (by decide) ?_
    refine lv_aload_n hx hb dX5_placed_15 rfl (lv_at hl 0 rfl) ?_
    refine lv_iload_n hx hb dX5_placed_16 rfl (lv_at hl 1 rfl) ?_
    refine lv_bipush (v := 100) hx hb dX5_placed_17 (by decide) ?_
    refine lv_idiv hx hb dX5_placed_19 (by decide) ?_
    refine lv_iload_n hx hb dX5_placed_20 rfl (lv_at hl 1 rfl) ?_
    refine lv_bipush (v := 100) hx hb dX5_placed_21 (by decide) ?_
    refine lv_irem hx hb dX5_placed_23 (by decide) ?_
    refine lv_iconst (v := 1) hx hb dX5_placed_24 (by decide) ?_
    obtain ⟨z3, e_z3, h⟩ := bnd h
    refine roI (cc_X5_58 ga S hK hN hP e_z3 hl.1 (Nat.le_of_ble_eq_true rfl) ⟨Nat.le_of_ble_eq_true rfl, Nat.le_of_ble_eq_true rfl⟩ dX5_placed_25 ⟨Nat.le_of_ble_eq_true rfl, Nat.le_of_ble_eq_true rfl⟩) ?_
    refine lv_imul hx hb dX5_placed_28 ?_
    refine lv_aload_n hx hb dX5_placed_29 rfl (lv_at hl 0 rfl) ?_
    refine lv_iload_n hx hb dX5_placed_30 rfl (lv_at hl 1 rfl) ?_
    refine lv_bipush (v := 100) hx hb dX5_placed_31 (by decide) ?_
    refine lv_idiv hx hb dX5_placed_33 (by decide) ?_
    refine lv_iload_n hx hb dX5_placed_34 rfl (lv_at hl 1 rfl) ?_
    refine lv_bipush (v := 100) hx hb dX5_placed_35 (by decide) ?_
    refine lv_irem hx hb dX5_placed_37 (by decide) ?_
    refine lv_iconst (v := 2) hx hb dX5_placed_38 (by decide) ?_
    obtain ⟨z4, e_z4, h⟩ := bnd h
    refine roI (cc_X5_58 ga S hK hN hP e_z4 hl.1 (Nat.le_of_ble_eq_true rfl) ⟨Nat.le_of_ble_eq_true rfl, Nat.le_of_ble_eq_true rfl⟩ dX5_placed_39 ⟨Nat.le_of_ble_eq_true rfl, Nat.le_of_ble_eq_true rfl⟩) ?_
    refine lv_iadd hx hb dX5_placed_42 ?_
    exact retR hQ S hr hlocks h dX5_placed_43
  · have h := (if_pos c2).symm.trans h
    refine lv_iload_n hx hb dX5_placed_9 rfl (lv_at hl 1 rfl) ?_
    refine lv_goto (tgt := 43) hx hb dX5_placed_10 (by decide) ?_
    exact retR hQ S hr hlocks h dX5_placed_43

def fX5_homeSize (p0 : Int32) : Option (Int32) := (if (2 : Int32) ≤ p0 then some (p0 + (1 : Int32)) else some (3 : Int32))
abbrev rmX5_homeSize : Room := { frames := 0, cells := 0, slots := 0, locals := 0 }
set_option maxRecDepth 100000 in
set_option maxHeartbeats 4000000 in
theorem kX5_homeSize (l : Launch) (G : va_G) (cI cS : ClassId) (p0 : Int32) (r : Int32) (hf : fX5_homeSize p0 = some r) : Met l yX5_homeSize (.code yX5_homeSize cX5_homeSize 1 (some .int) :: bw) rmX5_homeSize (va_Pc [.int p0] (PreR G (tysW cI cS) wE)) (vp_Si (fun r' => r' = r)) 0 0 (fun _ => False) := by
  refine enterR (own := RX5) (by decide) rfl rfl (Nat.le_of_ble_eq_true rfl) ?_
  intro p e s m args below meth c Q hQ S hr hlocks hP hK hN ls hl
  have hx := S.1; have hb := S.2.1; have hml := S.2.2.1; have hown := S.2.2.2.1; have hq := S.2.2.2.2
  have hl : lv_has ls 1 [(0, .int p0)] := hl
  have h := hf
  unfold fX5_homeSize at h
  refine lv_iload_n hx hb dX5_homeSize_0 rfl (lv_at hl 0 rfl) ?_
  refine lv_iconst (v := 2) hx hb dX5_homeSize_1 (by decide) ?_
  refine lv_icmp_ge (tgt := 9) hx hb dX5_homeSize_2 (by decide) (fun c1 => ?_) (fun c1 => ?_)
  · have h := (if_pos c1).symm.trans h
    refine lv_iload_n hx hb dX5_homeSize_9 rfl (lv_at hl 0 rfl) ?_
    refine lv_iconst (v := 1) hx hb dX5_homeSize_10 (by decide) ?_
    refine lv_iadd hx hb dX5_homeSize_11 ?_
    exact retR hQ S hr hlocks h dX5_homeSize_12
  · have h := (if_neg c1).symm.trans h
    refine lv_iconst (v := 3) hx hb dX5_homeSize_5 (by decide) ?_
    refine lv_goto (tgt := 12) hx hb dX5_homeSize_6 (by decide) ?_
    exact retR hQ S hr hlocks h dX5_homeSize_12

theorem cc_X5_82 {p : Program} {l : Launch} {e : Env} {R : Room} {s : State} {m : MethodId} {args : Array Value} {below : List Frame} {meth : Method} {c : Code} {H : Heap} {locs : List Loc} {cells slots : Nat} {cc : ByteArray} {pc nL : Nat} {ls : Array Slot} {rest : List Value} {G : va_G} (ga : Nat → Nat) {cI cS : ClassId} {u : TM}  {p0 : Int32} {r : Int32} (S : CallFix p m c cc nL s args bw RX5) (hK : va_K G vwCl (tysW cI cS) s) (hN : NW s) (hP : va_P G vwCl (wM cI ga u) H) (hf : fX5_placed u p0 = some r) (hsz : ls.size = nL) (hst : (rest.map fun v => v.category).sum ≤ 8) (hR : rmX5_placed.frames + 1 ≤ R.frames ∧ 8 + (2 + 11) + rmX5_placed.locals ≤ R.locals) (hdg : decode cc pc = .ok (.invokevirtual 82, 3)) (hcs : cells + 0 ≤ R.cells ∧ slots + 0 ≤ R.slots) : va_Run p l e R s m args below meth c H locs cells slots 0 0 (F0 m pc ls (.int p0 :: .ref (ga 0) :: rest)) rest (vp_Si (fun r' => r' = r) (#[.ref (ga 0), .int p0] : Array Value)) (fun _ => False) :=
  va_runV (As := [.int p0]) (rest := rest) S (kX5_placed l G cI cS ga u p0 r hf) (cwV 1 S.2.2.2.2 (gdV q_460 q_461 q_462 q_392 q_457) rfl rfl rfl (by decide +kernel) hR) (pvR (q := (RX5, TX5, 12)) hK hN hP (ci := 5) (q0 := 0) rfl rfl) rfl rfl hsz rfl (lv_room hst) hdg hcs
def fX5_lengthOf (u : TM) (p0 : Int32) : Option (Int32) := ((fX5_placed u p0).bind fun z1 => ((fX5_sizeOf u (z1 / (100 : Int32)) (z1 - z1 / (100 : Int32) * (100 : Int32))).bind fun z2 => ((fX5_kindAt u p0).bind fun z3 => (if z3 = (2 : Int32) then some (z2 - (3 : Int32)) else ((fX5_byteAt u (z1 / (100 : Int32)) (z1 - z1 / (100 : Int32) * (100 : Int32)) (0 : Int32)).bind fun z5 => (if z5 = (4 : Int32) then some (0 : Int32) else (if z5 = (5 : Int32) then some (1 : Int32) else some (z2 - (1 : Int32)))))))))
abbrev rmX5_lengthOf : Room := { frames := 4, cells := 0, slots := 0, locals := 89 }
set_option maxRecDepth 100000 in
set_option maxHeartbeats 4000000 in
theorem kX5_lengthOf (l : Launch) (G : va_G) (cI cS : ClassId) (ga : Nat → Nat) (u : TM) (p0 : Int32) (r : Int32) (hf : fX5_lengthOf u p0 = some r) : Met l yX5_lengthOf (.code yX5_lengthOf cX5_lengthOf 5 (some .int) :: bw) rmX5_lengthOf (va_Pc [.ref (ga 0), .int p0] (PreR G (tysW cI cS) (wM cI ga u))) (vp_Si (fun r' => r' = r)) 0 0 (fun _ => False) := by
  refine enterR (own := RX5) (by decide) rfl rfl (Nat.le_of_ble_eq_true rfl) ?_
  intro p e s m args below meth c Q hQ S hr hlocks hP hK hN ls hl
  have hx := S.1; have hb := S.2.1; have hml := S.2.2.1; have hown := S.2.2.2.1; have hq := S.2.2.2.2
  have hl : lv_has ls 5 [(0, .ref (ga 0)), (1, .int p0)] := hl
  have h := hf
  unfold fX5_lengthOf at h
  refine lv_aload_n hx hb dX5_lengthOf_0 rfl (lv_at hl 0 rfl) ?_
  refine lv_iload_n hx hb dX5_lengthOf_1 rfl (lv_at hl 1 rfl) ?_
  obtain ⟨z1, e_z1, h⟩ := bnd h
  refine roI (cc_X5_82 ga S hK hN hP e_z1 hl.1 (Nat.le_of_ble_eq_true rfl) ⟨Nat.le_of_ble_eq_true rfl, Nat.le_of_ble_eq_true rfl⟩ dX5_lengthOf_2 ⟨Nat.le_of_ble_eq_true rfl, Nat.le_of_ble_eq_true rfl⟩) ?_
  refine lv_istore_n (lv' := [(2, .int z1), (0, .ref (ga 0)), (1, .int p0)]) hx hb dX5_lengthOf_5 rfl hl (by decide) rfl (fun ls hl => ?_)
  refine lv_aload_n hx hb dX5_lengthOf_6 rfl (lv_at hl 1 rfl) ?_
  refine lv_iload_n hx hb dX5_lengthOf_7 rfl (lv_at hl 0 rfl) ?_
  refine lv_bipush (v := 100) hx hb dX5_lengthOf_8 (by decide) ?_
  refine lv_idiv hx hb dX5_lengthOf_10 (by decide) ?_
  refine lv_iload_n hx hb dX5_lengthOf_11 rfl (lv_at hl 0 rfl) ?_
  refine lv_bipush (v := 100) hx hb dX5_lengthOf_12 (by decide) ?_
  refine lv_irem hx hb dX5_lengthOf_14 (by decide) ?_
  obtain ⟨z2, e_z2, h⟩ := bnd h
  refine roI (cc_X5_34 ga S hK hN hP e_z2 hl.1 (Nat.le_of_ble_eq_true rfl) ⟨Nat.le_of_ble_eq_true rfl, Nat.le_of_ble_eq_true rfl⟩ dX5_lengthOf_15 ⟨Nat.le_of_ble_eq_true rfl, Nat.le_of_ble_eq_true rfl⟩) ?_
  refine lv_istore_n (lv' := [(3, .int z2), (2, .int z1), (0, .ref (ga 0)), (1, .int p0)]) hx hb dX5_lengthOf_18 rfl hl (by decide) rfl (fun ls hl => ?_)
  refine lv_aload_n hx hb dX5_lengthOf_19 rfl (lv_at hl 2 rfl) ?_
  refine lv_iload_n hx hb dX5_lengthOf_20 rfl (lv_at hl 3 rfl) ?_
  obtain ⟨z3, e_z3, h⟩ := bnd h
  refine roI (cc_X5_75 ga S hK hN hP e_z3 hl.1 (Nat.le_of_ble_eq_true rfl) ⟨Nat.le_of_ble_eq_true rfl, Nat.le_of_ble_eq_true rfl⟩ dX5_lengthOf_21 ⟨Nat.le_of_ble_eq_true rfl, Nat.le_of_ble_eq_true rfl⟩) ?_
  refine lv_iconst (v := 2) hx hb dX5_lengthOf_24 (by decide) ?_
  refine lv_icmp_ne (tgt := 32) hx hb dX5_lengthOf_25 (by decide) (fun c4 => ?_) (fun c4 => ?_)
  · have h := (if_neg c4).symm.trans h
    refine lv_aload_n hx hb dX5_lengthOf_32 rfl (lv_at hl 2 rfl) ?_
    refine lv_iload_n hx hb dX5_lengthOf_33 rfl (lv_at hl 1 rfl) ?_
    refine lv_bipush (v := 100) hx hb dX5_lengthOf_34 (by decide) ?_
    refine lv_idiv hx hb dX5_lengthOf_36 (by decide) ?_
    refine lv_iload_n hx hb dX5_lengthOf_37 rfl (lv_at hl 1 rfl) ?_
    refine lv_bipush (v := 100) hx hb dX5_lengthOf_38 (by decide) ?_
    refine lv_irem hx hb dX5_lengthOf_40 (by decide) ?_
    refine lv_iconst (v := 0) hx hb dX5_lengthOf_41 (by decide) ?_
    obtain ⟨z5, e_z5, h⟩ := bnd h
    refine roI (cc_X5_58 ga S hK hN hP e_z5 hl.1 (Nat.le_of_ble_eq_true rfl) ⟨Nat.le_of_ble_eq_true rfl, Nat.le_of_ble_eq_true rfl⟩ dX5_lengthOf_42 ⟨Nat.le_of_ble_eq_true rfl, Nat.le_of_ble_eq_true rfl⟩) ?_
    refine lv_istore (lv' := [(4, .int z5), (3, .int z2), (2, .int z1), (0, .ref (ga 0)), (1, .int p0)]) hx hb dX5_lengthOf_45 hl (by decide) rfl (fun ls hl => ?_)
    refine lv_iload hx hb dX5_lengthOf_47 (lv_at hl 0 rfl) ?_
    refine lv_iconst (v := 4) hx hb dX5_lengthOf_49 (by decide) ?_
    refine lv_icmp_ne (tgt := 57) hx hb dX5_lengthOf_50 (by decide) (fun c6 => ?_) (fun c6 => ?_)
    · have h := (if_neg c6).symm.trans h
      refine lv_iload hx hb dX5_lengthOf_57 (lv_at hl 0 rfl) ?_
      refine lv_iconst (v := 5) hx hb dX5_lengthOf_59 (by decide) ?_
      refine lv_icmp_ne (tgt := 67) hx hb dX5_lengthOf_60 (by decide) (fun c7 => ?_) (fun c7 => ?_)
      · have h := (if_neg c7).symm.trans h
        refine lv_iload_n hx hb dX5_lengthOf_67 rfl (lv_at hl 1 rfl) ?_
        refine lv_iconst (v := 1) hx hb dX5_lengthOf_68 (by decide) ?_
        refine lv_isub hx hb dX5_lengthOf_69 ?_
        exact retR hQ S hr hlocks h dX5_lengthOf_70
      · have h := (if_pos c7).symm.trans h
        refine lv_iconst (v := 1) hx hb dX5_lengthOf_63 (by decide) ?_
        refine lv_goto (tgt := 70) hx hb dX5_lengthOf_64 (by decide) ?_
        exact retR hQ S hr hlocks h dX5_lengthOf_70
    · have h := (if_pos c6).symm.trans h
      refine lv_iconst (v := 0) hx hb dX5_lengthOf_53 (by decide) ?_
      refine lv_goto (tgt := 70) hx hb dX5_lengthOf_54 (by decide) ?_
      exact retR hQ S hr hlocks h dX5_lengthOf_70
  · have h := (if_pos c4).symm.trans h
    refine lv_iload_n hx hb dX5_lengthOf_28 rfl (lv_at hl 0 rfl) ?_
    refine lv_iconst (v := 3) hx hb dX5_lengthOf_29 (by decide) ?_
    refine lv_isub hx hb dX5_lengthOf_30 ?_
    exact retR hQ S hr hlocks h dX5_lengthOf_31

def fX5_byteOfRow_j33 (u : TM) (t0 : Int32) (t1 : Int32) (t2 : Int32) : Option (Int32) := ((fX5_byteAt u t2 t1 t0).bind fun z1 => some z1)
def fX5_byteOfRow (u : TM) (p0 : Int32) (p1 : Int32) : Option (Int32) := ((fX5_placed u p0).bind fun z2 => ((fX5_kindAt u p0).bind fun z3 => (if z3 = (2 : Int32) then fX5_byteOfRow_j33 u ((3 : Int32) + p1) (z2 - z2 / (100 : Int32) * (100 : Int32)) (z2 / (100 : Int32)) else fX5_byteOfRow_j33 u ((1 : Int32) + p1) (z2 - z2 / (100 : Int32) * (100 : Int32)) (z2 / (100 : Int32)))))
abbrev rmX5_byteOfRow : Room := { frames := 4, cells := 0, slots := 0, locals := 89 }
set_option maxRecDepth 100000 in
set_option maxHeartbeats 4000000 in
theorem kX5_byteOfRow (l : Launch) (G : va_G) (cI cS : ClassId) (ga : Nat → Nat) (u : TM) (p0 : Int32) (p1 : Int32) (r : Int32) (hf : fX5_byteOfRow u p0 p1 = some r) : Met l yX5_byteOfRow (.code yX5_byteOfRow cX5_byteOfRow 4 (some .int) :: bw) rmX5_byteOfRow (va_Pc [.ref (ga 0), .int p0, .int p1] (PreR G (tysW cI cS) (wM cI ga u))) (vp_Si (fun r' => r' = r)) 0 0 (fun _ => False) := by
  refine enterR (own := RX5) (by decide) rfl rfl (Nat.le_of_ble_eq_true rfl) ?_
  intro p e s m args below meth c Q hQ S hr hlocks hP hK hN ls hl
  have hx := S.1; have hb := S.2.1; have hml := S.2.2.1; have hown := S.2.2.2.1; have hq := S.2.2.2.2
  have hl : lv_has ls 4 [(0, .ref (ga 0)), (1, .int p0), (2, .int p1)] := hl
  have h := hf
  unfold fX5_byteOfRow at h
  have J33 : ∀ (t0 : Int32) (t1 : Int32) (t2 : Int32) , fX5_byteOfRow_j33 u t0 t1 t2 = some r → ∀ ls : Array Slot, lv_has ls 4 [] → W p l e rmX5_byteOfRow s m args below meth c s.heap [] 0 0 Q (F0 m 33 ls [.int t0, .int t1, .int t2, .ref (ga 0)]) := by
    intro t0 t1 t2 h
    unfold fX5_byteOfRow_j33 at h
    intro ls hl
    obtain ⟨z1, e_z1, h⟩ := bnd h
    refine roI (cc_X5_58 ga S hK hN hP e_z1 hl.1 (Nat.le_of_ble_eq_true rfl) ⟨Nat.le_of_ble_eq_true rfl, Nat.le_of_ble_eq_true rfl⟩ dX5_byteOfRow_33 ⟨Nat.le_of_ble_eq_true rfl, Nat.le_of_ble_eq_true rfl⟩) ?_
    exact retR hQ S hr hlocks h dX5_byteOfRow_36
  refine lv_aload_n hx hb dX5_byteOfRow_0 rfl (lv_at hl 0 rfl) ?_
  refine lv_iload_n hx hb dX5_byteOfRow_1 rfl (lv_at hl 1 rfl) ?_
  obtain ⟨z2, e_z2, h⟩ := bnd h
  refine roI (cc_X5_82 ga S hK hN hP e_z2 hl.1 (Nat.le_of_ble_eq_true rfl) ⟨Nat.le_of_ble_eq_true rfl, Nat.le_of_ble_eq_true rfl⟩ dX5_byteOfRow_2 ⟨Nat.le_of_ble_eq_true rfl, Nat.le_of_ble_eq_true rfl⟩) ?_
  refine lv_istore_n (lv' := [(3, .int z2), (0, .ref (ga 0)), (1, .int p0), (2, .int p1)]) hx hb dX5_byteOfRow_5 rfl hl (by decide) rfl (fun ls hl => ?_)
  refine lv_aload_n hx hb dX5_byteOfRow_6 rfl (lv_at hl 1 rfl) ?_
  refine lv_iload_n hx hb dX5_byteOfRow_7 rfl (lv_at hl 0 rfl) ?_
  refine lv_bipush (v := 100) hx hb dX5_byteOfRow_8 (by decide) ?_
  refine lv_idiv hx hb dX5_byteOfRow_10 (by decide) ?_
  refine lv_iload_n hx hb dX5_byteOfRow_11 rfl (lv_at hl 0 rfl) ?_
  refine lv_bipush (v := 100) hx hb dX5_byteOfRow_12 (by decide) ?_
  refine lv_irem hx hb dX5_byteOfRow_14 (by decide) ?_
  refine lv_aload_n hx hb dX5_byteOfRow_15 rfl (lv_at hl 1 rfl) ?_
  refine lv_iload_n hx hb dX5_byteOfRow_16 rfl (lv_at hl 2 rfl) ?_
  obtain ⟨z3, e_z3, h⟩ := bnd h
  refine roI (cc_X5_75 ga S hK hN hP e_z3 hl.1 (Nat.le_of_ble_eq_true rfl) ⟨Nat.le_of_ble_eq_true rfl, Nat.le_of_ble_eq_true rfl⟩ dX5_byteOfRow_17 ⟨Nat.le_of_ble_eq_true rfl, Nat.le_of_ble_eq_true rfl⟩) ?_
  refine lv_iconst (v := 2) hx hb dX5_byteOfRow_20 (by decide) ?_
  refine lv_icmp_ne (tgt := 30) hx hb dX5_byteOfRow_21 (by decide) (fun c4 => ?_) (fun c4 => ?_)
  · have h := (if_neg c4).symm.trans h
    refine lv_iconst (v := 1) hx hb dX5_byteOfRow_30 (by decide) ?_
    refine lv_iload_n hx hb dX5_byteOfRow_31 rfl (lv_at hl 3 rfl) ?_
    refine lv_iadd hx hb dX5_byteOfRow_32 ?_
    exact J33 ((1 : Int32) + p1) (z2 - z2 / (100 : Int32) * (100 : Int32)) (z2 / (100 : Int32)) h _ (lv_sub hl [] rfl)
  · have h := (if_pos c4).symm.trans h
    refine lv_iconst (v := 3) hx hb dX5_byteOfRow_24 (by decide) ?_
    refine lv_iload_n hx hb dX5_byteOfRow_25 rfl (lv_at hl 3 rfl) ?_
    refine lv_iadd hx hb dX5_byteOfRow_26 ?_
    refine lv_goto (tgt := 33) hx hb dX5_byteOfRow_27 (by decide) ?_
    exact J33 ((3 : Int32) + p1) (z2 - z2 / (100 : Int32) * (100 : Int32)) (z2 / (100 : Int32)) h _ (lv_sub hl [] rfl)

theorem gf_X5_16 {p : Program} {l : Launch} {e : Env} {R : Room} {s : State} {m : MethodId} {args : Array Value} {below : List Frame} {meth : Method} {c : Code} {H : Heap} {locs : List Loc} {cells slots : Nat} {cc : ByteArray} {pc nL : Nat} {ls : Array Slot} {rest : List Value} {G : va_G} {Q : State → Prop} {tys : List (ClassId × FieldType)} {ws : va_W} {a : Nat} (S : CallFix p m c cc nL s args bw RX5) (hK : va_K G vwCl tys s) (hN : NW s) (hP : va_P G vwCl ws H) (q0 : Nat) {fs : List Value} (he : ws[q0]? = some (a, .inr (5, fs))) {v : Value} (hv : fs[5]? = some v) (hdg : decode cc pc = .ok (.getfield 16, 3)) (kk : W p l e R s m args below meth c H locs cells slots Q (F0 m (pc + 3) ls (v :: rest))) : W p l e R s m args below meth c H locs cells slots Q (F0 m pc ls (.ref a :: rest)) :=
  va_get (C := RX5) (T := TX5) (N := 12) S.1 S.2.1 S.2.2.2.2 bi_U5 S.2.2.2.1 hK hP q0 he rfl 5 (by decide) (S.2.2.2.2 _ q_380) (fun _ h9 => h9) hv hdg kk
theorem gf_X5_85 {p : Program} {l : Launch} {e : Env} {R : Room} {s : State} {m : MethodId} {args : Array Value} {below : List Frame} {meth : Method} {c : Code} {H : Heap} {locs : List Loc} {cells slots : Nat} {cc : ByteArray} {pc nL : Nat} {ls : Array Slot} {rest : List Value} {G : va_G} {Q : State → Prop} {tys : List (ClassId × FieldType)} {ws : va_W} {a : Nat} (S : CallFix p m c cc nL s args bw RX5) (hK : va_K G vwCl tys s) (hN : NW s) (hP : va_P G vwCl ws H) (q0 : Nat) {fs : List Value} (he : ws[q0]? = some (a, .inr (5, fs))) {v : Value} (hv : fs[6]? = some v) (hdg : decode cc pc = .ok (.getfield 85, 3)) (kk : W p l e R s m args below meth c H locs cells slots Q (F0 m (pc + 3) ls (v :: rest))) : W p l e R s m args below meth c H locs cells slots Q (F0 m pc ls (.ref a :: rest)) :=
  va_get (C := RX5) (T := TX5) (N := 12) S.1 S.2.1 S.2.2.2.2 bi_U5 S.2.2.2.1 hK hP q0 he rfl 6 (by decide) (S.2.2.2.2 _ q_465) (fun _ h9 => h9) hv hdg kk
def fX5_writesHome_s33 (u : TM) (x1 : Int32) (x2 : Int32) (x3 : Int32) : Option ((TM × Int32 × Int32 × Int32) ⊕ (TM)) := (if u.1.2.2.2.1 ≤ x3 then some (.inr u) else ((rd u.2.2.2.1 60 x3).bind fun z2 => ((fX5_layByte u x1 x2 ((1 : Int32) + x3) z2).bind fun z3 => some (.inl (z3, x1, x2, (x3 + 1))))))
def fX5_writesHome_j28 (u : TM) (x1 : Int32) (x2 : Int32) (t0 : Int32) (t1 : Int32) (t2 : Int32) (t3 : Int32) : Option (TM) := ((fX5_layByte u t3 t2 t1 t0).bind fun z4 => ((itr (fun a : TM × Int32 × Int32 × Int32 => fX5_writesHome_s33 a.1 a.2.1 a.2.2.1 a.2.2.2) FU (z4, x1, x2, (0 : Int32))).bind fun b5 => some b5))
def fX5_writesHome (u : TM) (p0 : Int32) (p1 : Int32) : Option (TM) := (if u.1.2.2.2.1 = 0 then fX5_writesHome_j28 u p0 p1 (4 : Int32) (0 : Int32) p1 p0 else (if u.1.2.2.2.1 = (1 : Int32) then fX5_writesHome_j28 u p0 p1 (5 : Int32) (0 : Int32) p1 p0 else fX5_writesHome_j28 u p0 p1 (1 : Int32) (0 : Int32) p1 p0))
abbrev rmX5_writesHome : Room := { frames := 2, cells := 0, slots := 0, locals := 47 }
set_option maxRecDepth 100000 in
set_option maxHeartbeats 4000000 in
theorem kX5_writesHome (l : Launch) (G : va_G) (cI cS : ClassId) (ga : Nat → Nat) (sz : Nat) (u : TM) (p0 : Int32) (p1 : Int32) (r : TM) (hf : fX5_writesHome u p0 p1 = some r) : Met l yX5_writesHome (.code yX5_writesHome cX5_writesHome 4 none :: bw) rmX5_writesHome (va_Pc [.ref (ga 0), .int p0, .int p1] (PreM G (tysW cI cS) (wM cI ga u) sz)) (va_Qv (fun u' => u' = r) (PoM G (tysW cI cS) (va_A (wM cI ga u) sz) (wM cI ga)) (va_A (wM cI ga u) sz)) 0 0 (va_A (wM cI ga u) sz) := by
  refine enterM (own := RX5) (by decide) rfl (Nat.le_of_ble_eq_true rfl) ?_
  intro p e s m args below meth c A Q hAe hQ S hr hlocks hP hK hN hD hA hS ls hl
  rw [hAe] at hQ
  have hx := S.1; have hb := S.2.1; have hml := S.2.2.1; have hown := S.2.2.2.1; have hq := S.2.2.2.2
  have hl : lv_has ls 4 [(0, .ref (ga 0)), (1, .int p0), (2, .int p1)] := hl
  have h := hf
  unfold fX5_writesHome at h
  have L33 : ∀ (n9 : Nat) (a9 : TM × Int32 × Int32 × Int32) (b9 : TM), itr (fun a : TM × Int32 × Int32 × Int32 => fX5_writesHome_s33 a.1 a.2.1 a.2.2.1 a.2.2.2) n9 a9 = some b9 → (fun b : TM => ∀ (H : Heap) (locs : List Loc), va_P G vwCl (wM cI ga b) H → va_D A (wM cI ga b) → va_S A s.heap H locs → ∀ ls : Array Slot, lv_has ls 4 [] → W p l e rmX5_writesHome s m args below meth c H locs 0 0 Q (F0 m 62 ls [])) b9 → (fun a : TM × Int32 × Int32 × Int32 => ∀ (H : Heap) (locs : List Loc), va_P G vwCl (wM cI ga a.1) H → va_D A (wM cI ga a.1) → va_S A s.heap H locs → ∀ ls : Array Slot, lv_has ls 4 [(0, .ref (ga 0)), (1, .int a.2.1), (2, .int a.2.2.1), (3, .int a.2.2.2)] → W p l e rmX5_writesHome s m args below meth c H locs 0 0 Q (F0 m 33 ls [])) a9 := by
    refine itr_ind (Inv := (fun a : TM × Int32 × Int32 × Int32 => ∀ (H : Heap) (locs : List Loc), va_P G vwCl (wM cI ga a.1) H → va_D A (wM cI ga a.1) → va_S A s.heap H locs → ∀ ls : Array Slot, lv_has ls 4 [(0, .ref (ga 0)), (1, .int a.2.1), (2, .int a.2.2.1), (3, .int a.2.2.2)] → W p l e rmX5_writesHome s m args below meth c H locs 0 0 Q (F0 m 33 ls []))) (Ex := (fun b : TM => ∀ (H : Heap) (locs : List Loc), va_P G vwCl (wM cI ga b) H → va_D A (wM cI ga b) → va_S A s.heap H locs → ∀ ls : Array Slot, lv_has ls 4 [] → W p l e rmX5_writesHome s m args below meth c H locs 0 0 Q (F0 m 62 ls []))) ?_
    rintro ⟨u, x1, x2, x3⟩ z h hI hE
    have h : fX5_writesHome_s33 u x1 x2 x3 = some z := h
    unfold fX5_writesHome_s33 at h
    show ∀ (H : Heap) (locs : List Loc), va_P G vwCl (wM cI ga u) H → va_D A (wM cI ga u) → va_S A s.heap H locs → ∀ ls : Array Slot, lv_has ls 4 [(0, .ref (ga 0)), (1, .int x1), (2, .int x2), (3, .int x3)] → W p l e rmX5_writesHome s m args below meth c H locs 0 0 Q (F0 m 33 ls [])
    intro H locs hP hD hS ls hl
    refine lv_iload_n hx hb dX5_writesHome_33 rfl (lv_at hl 3 rfl) ?_
    refine lv_aload_n hx hb dX5_writesHome_34 rfl (lv_at hl 0 rfl) ?_
    refine gf_X5_85 S hK hN hP 0 rfl (v := .int u.1.2.2.2.1) rfl dX5_writesHome_35 ?_
    refine lv_icmp_ge (tgt := 62) hx hb dX5_writesHome_38 (by decide) (fun c1 => ?_) (fun c1 => ?_)
    · have h := (if_pos c1).symm.trans h
      exact hE _ (Option.some.inj h) _ _ hP hD hS _ (lv_sub hl [] rfl)
    · have h := (if_neg c1).symm.trans h
      refine lv_aload_n hx hb dX5_writesHome_41 rfl (lv_at hl 0 rfl) ?_
      refine lv_iload_n hx hb dX5_writesHome_42 rfl (lv_at hl 1 rfl) ?_
      refine lv_iload_n hx hb dX5_writesHome_43 rfl (lv_at hl 2 rfl) ?_
      refine lv_iconst (v := 1) hx hb dX5_writesHome_44 (by decide) ?_
      refine lv_iload_n hx hb dX5_writesHome_45 rfl (lv_at hl 3 rfl) ?_
      refine lv_iadd hx hb dX5_writesHome_46 ?_
      refine lv_aload_n hx hb dX5_writesHome_47 rfl (lv_at hl 0 rfl) ?_
      refine gf_X5_16 S hK hN hP 0 rfl (v := .ref (ga 3)) rfl dX5_writesHome_48 ?_
      refine lv_iload_n hx hb dX5_writesHome_51 rfl (lv_at hl 3 rfl) ?_
      obtain ⟨z2, e_z2, h⟩ := bnd h
      refine iaO (f := u.2.2.2.1) hx hb hK hP 3 0 rfl rfl e_z2 dX5_writesHome_52 ?_
      obtain ⟨z3, e_z3, h⟩ := bnd h
      refine muv (cc_X5_50 ga S hK hN hP hD e_z3 hl.1 (Nat.le_of_ble_eq_true rfl) ⟨Nat.le_of_ble_eq_true rfl, Nat.le_of_ble_eq_true rfl⟩ dX5_writesHome_53 ⟨Nat.le_of_ble_eq_true rfl, Nat.le_of_ble_eq_true rfl⟩) hS hD (va_free hD hS hA [0, 1, 2, 3, 4] rfl) (fun H locs hP hD hS => ?_)
      have hP : va_P G vwCl (wM cI ga z3) H := hP
      have hD : va_D A (wM cI ga z3) := hD
      refine lv_iinc (v := (x3 + 1)) (lv' := [(3, .int (x3 + 1)), (0, .ref (ga 0)), (1, .int x1), (2, .int x2)]) hx hb dX5_writesHome_56 hl (k := 3) rfl rfl (by decide) rfl (fun ls hl => ?_)
      refine lv_goto (tgt := 33) hx hb dX5_writesHome_59 (by decide) ?_
      exact hI _ (Option.some.inj h) _ _ hP hD hS _ (lv_sub hl [1, 2, 3, 0] rfl)
  have J28 : ∀ (u : TM) (x1 : Int32) (x2 : Int32) (t0 : Int32) (t1 : Int32) (t2 : Int32) (t3 : Int32) , fX5_writesHome_j28 u x1 x2 t0 t1 t2 t3 = some r → ∀ (H : Heap) (locs : List Loc), va_P G vwCl (wM cI ga u) H → va_D A (wM cI ga u) → va_S A s.heap H locs → ∀ ls : Array Slot, lv_has ls 4 [(0, .ref (ga 0)), (1, .int x1), (2, .int x2)] → W p l e rmX5_writesHome s m args below meth c H locs 0 0 Q (F0 m 28 ls [.int t0, .int t1, .int t2, .int t3, .ref (ga 0)]) := by
    intro u x1 x2 t0 t1 t2 t3 h
    unfold fX5_writesHome_j28 at h
    intro H locs hP hD hS ls hl
    obtain ⟨z4, e_z4, h⟩ := bnd h
    refine muv (cc_X5_50 ga S hK hN hP hD e_z4 hl.1 (Nat.le_of_ble_eq_true rfl) ⟨Nat.le_of_ble_eq_true rfl, Nat.le_of_ble_eq_true rfl⟩ dX5_writesHome_28 ⟨Nat.le_of_ble_eq_true rfl, Nat.le_of_ble_eq_true rfl⟩) hS hD (va_free hD hS hA [0, 1, 2, 3, 4] rfl) (fun H locs hP hD hS => ?_)
    have hP : va_P G vwCl (wM cI ga z4) H := hP
    have hD : va_D A (wM cI ga z4) := hD
    refine lv_iconst (v := 0) hx hb dX5_writesHome_31 (by decide) ?_
    refine lv_istore_n (lv' := [(3, .int (0 : Int32)), (0, .ref (ga 0)), (1, .int x1), (2, .int x2)]) hx hb dX5_writesHome_32 rfl hl (by decide) rfl (fun ls hl => ?_)
    obtain ⟨b5, e_b5, h⟩ := bnd h
    refine L33 _ _ _ e_b5 ?_ _ _ hP hD hS _ (lv_sub hl [1, 2, 3, 0] rfl)
    intro H locs hP hD hS ls hl
    exact retMv hQ S hr hlocks hK hN hP hD hS h dX5_writesHome_62
  refine lv_aload_n hx hb dX5_writesHome_0 rfl (lv_at hl 0 rfl) ?_
  refine lv_iload_n hx hb dX5_writesHome_1 rfl (lv_at hl 1 rfl) ?_
  refine lv_iload_n hx hb dX5_writesHome_2 rfl (lv_at hl 2 rfl) ?_
  refine lv_iconst (v := 0) hx hb dX5_writesHome_3 (by decide) ?_
  refine lv_aload_n hx hb dX5_writesHome_4 rfl (lv_at hl 0 rfl) ?_
  refine gf_X5_85 S hK hN hP 0 rfl (v := .int u.1.2.2.2.1) rfl dX5_writesHome_5 ?_
  refine lv_if_ne (tgt := 15) hx hb dX5_writesHome_8 (by decide) (fun c6 => ?_) (fun c6 => ?_)
  · have h := (if_neg c6).symm.trans h
    refine lv_aload_n hx hb dX5_writesHome_15 rfl (lv_at hl 0 rfl) ?_
    refine gf_X5_85 S hK hN hP 0 rfl (v := .int u.1.2.2.2.1) rfl dX5_writesHome_16 ?_
    refine lv_iconst (v := 1) hx hb dX5_writesHome_19 (by decide) ?_
    refine lv_icmp_ne (tgt := 27) hx hb dX5_writesHome_20 (by decide) (fun c7 => ?_) (fun c7 => ?_)
    · have h := (if_neg c7).symm.trans h
      refine lv_iconst (v := 1) hx hb dX5_writesHome_27 (by decide) ?_
      exact J28 u p0 p1 (1 : Int32) (0 : Int32) p1 p0 h _ _ hP hD hS _ (lv_sub hl [0, 1, 2] rfl)
    · have h := (if_pos c7).symm.trans h
      refine lv_iconst (v := 5) hx hb dX5_writesHome_23 (by decide) ?_
      refine lv_goto (tgt := 28) hx hb dX5_writesHome_24 (by decide) ?_
      exact J28 u p0 p1 (5 : Int32) (0 : Int32) p1 p0 h _ _ hP hD hS _ (lv_sub hl [0, 1, 2] rfl)
  · have h := (if_pos c6).symm.trans h
    refine lv_iconst (v := 4) hx hb dX5_writesHome_11 (by decide) ?_
    refine lv_goto (tgt := 28) hx hb dX5_writesHome_12 (by decide) ?_
    exact J28 u p0 p1 (4 : Int32) (0 : Int32) p1 p0 h _ _ hP hD hS _ (lv_sub hl [0, 1, 2] rfl)

def fX5_writesNote (u : TM) (p0 : Int32) (p1 : Int32) (p2 : Int32) : Option (TM) := ((fX5_layByte u (p0 / (100 : Int32)) (p0 - p0 / (100 : Int32) * (100 : Int32)) (0 : Int32) p1).bind fun z1 => ((fX5_layByte z1 (p0 / (100 : Int32)) (p0 - p0 / (100 : Int32) * (100 : Int32)) (1 : Int32) (p2 / (100 : Int32))).bind fun z2 => ((fX5_layByte z2 (p0 / (100 : Int32)) (p0 - p0 / (100 : Int32) * (100 : Int32)) (2 : Int32) (p2 - p2 / (100 : Int32) * (100 : Int32))).bind fun z3 => some z3)))
abbrev rmX5_writesNote : Room := { frames := 2, cells := 0, slots := 0, locals := 47 }
set_option maxRecDepth 100000 in
set_option maxHeartbeats 4000000 in
theorem kX5_writesNote (l : Launch) (G : va_G) (cI cS : ClassId) (ga : Nat → Nat) (sz : Nat) (u : TM) (p0 : Int32) (p1 : Int32) (p2 : Int32) (r : TM) (hf : fX5_writesNote u p0 p1 p2 = some r) : Met l yX5_writesNote (.code yX5_writesNote cX5_writesNote 4 none :: bw) rmX5_writesNote (va_Pc [.ref (ga 0), .int p0, .int p1, .int p2] (PreM G (tysW cI cS) (wM cI ga u) sz)) (va_Qv (fun u' => u' = r) (PoM G (tysW cI cS) (va_A (wM cI ga u) sz) (wM cI ga)) (va_A (wM cI ga u) sz)) 0 0 (va_A (wM cI ga u) sz) := by
  refine enterM (own := RX5) (by decide) rfl (Nat.le_of_ble_eq_true rfl) ?_
  intro p e s m args below meth c A Q hAe hQ S hr hlocks hP hK hN hD hA hS ls hl
  rw [hAe] at hQ
  have hx := S.1; have hb := S.2.1; have hml := S.2.2.1; have hown := S.2.2.2.1; have hq := S.2.2.2.2
  have hl : lv_has ls 4 [(0, .ref (ga 0)), (1, .int p0), (2, .int p1), (3, .int p2)] := hl
  have h := hf
  unfold fX5_writesNote at h
  refine lv_aload_n hx hb dX5_writesNote_0 rfl (lv_at hl 0 rfl) ?_
  refine lv_iload_n hx hb dX5_writesNote_1 rfl (lv_at hl 1 rfl) ?_
  refine lv_bipush (v := 100) hx hb dX5_writesNote_2 (by decide) ?_
  refine lv_idiv hx hb dX5_writesNote_4 (by decide) ?_
  refine lv_iload_n hx hb dX5_writesNote_5 rfl (lv_at hl 1 rfl) ?_
  refine lv_bipush (v := 100) hx hb dX5_writesNote_6 (by decide) ?_
  refine lv_irem hx hb dX5_writesNote_8 (by decide) ?_
  refine lv_iconst (v := 0) hx hb dX5_writesNote_9 (by decide) ?_
  refine lv_iload_n hx hb dX5_writesNote_10 rfl (lv_at hl 2 rfl) ?_
  obtain ⟨z1, e_z1, h⟩ := bnd h
  refine muv (cc_X5_50 ga S hK hN hP hD e_z1 hl.1 (Nat.le_of_ble_eq_true rfl) ⟨Nat.le_of_ble_eq_true rfl, Nat.le_of_ble_eq_true rfl⟩ dX5_writesNote_11 ⟨Nat.le_of_ble_eq_true rfl, Nat.le_of_ble_eq_true rfl⟩) hS hD (va_free hD hS hA [0, 1, 2, 3, 4] rfl) (fun H locs hP hD hS => ?_)
  have hP : va_P G vwCl (wM cI ga z1) H := hP
  have hD : va_D A (wM cI ga z1) := hD
  refine lv_aload_n hx hb dX5_writesNote_14 rfl (lv_at hl 0 rfl) ?_
  refine lv_iload_n hx hb dX5_writesNote_15 rfl (lv_at hl 1 rfl) ?_
  refine lv_bipush (v := 100) hx hb dX5_writesNote_16 (by decide) ?_
  refine lv_idiv hx hb dX5_writesNote_18 (by decide) ?_
  refine lv_iload_n hx hb dX5_writesNote_19 rfl (lv_at hl 1 rfl) ?_
  refine lv_bipush (v := 100) hx hb dX5_writesNote_20 (by decide) ?_
  refine lv_irem hx hb dX5_writesNote_22 (by decide) ?_
  refine lv_iconst (v := 1) hx hb dX5_writesNote_23 (by decide) ?_
  refine lv_iload_n hx hb dX5_writesNote_24 rfl (lv_at hl 3 rfl) ?_
  refine lv_bipush (v := 100) hx hb dX5_writesNote_25 (by decide) ?_
  refine lv_idiv hx hb dX5_writesNote_27 (by decide) ?_
  obtain ⟨z2, e_z2, h⟩ := bnd h
  refine muv (cc_X5_50 ga S hK hN hP hD e_z2 hl.1 (Nat.le_of_ble_eq_true rfl) ⟨Nat.le_of_ble_eq_true rfl, Nat.le_of_ble_eq_true rfl⟩ dX5_writesNote_28 ⟨Nat.le_of_ble_eq_true rfl, Nat.le_of_ble_eq_true rfl⟩) hS hD (va_free hD hS hA [0, 1, 2, 3, 4] rfl) (fun H locs hP hD hS => ?_)
  have hP : va_P G vwCl (wM cI ga z2) H := hP
  have hD : va_D A (wM cI ga z2) := hD
  refine lv_aload_n hx hb dX5_writesNote_31 rfl (lv_at hl 0 rfl) ?_
  refine lv_iload_n hx hb dX5_writesNote_32 rfl (lv_at hl 1 rfl) ?_
  refine lv_bipush (v := 100) hx hb dX5_writesNote_33 (by decide) ?_
  refine lv_idiv hx hb dX5_writesNote_35 (by decide) ?_
  refine lv_iload_n hx hb dX5_writesNote_36 rfl (lv_at hl 1 rfl) ?_
  refine lv_bipush (v := 100) hx hb dX5_writesNote_37 (by decide) ?_
  refine lv_irem hx hb dX5_writesNote_39 (by decide) ?_
  refine lv_iconst (v := 2) hx hb dX5_writesNote_40 (by decide) ?_
  refine lv_iload_n hx hb dX5_writesNote_41 rfl (lv_at hl 3 rfl) ?_
  refine lv_bipush (v := 100) hx hb dX5_writesNote_42 (by decide) ?_
  refine lv_irem hx hb dX5_writesNote_44 (by decide) ?_
  obtain ⟨z3, e_z3, h⟩ := bnd h
  refine muv (cc_X5_50 ga S hK hN hP hD e_z3 hl.1 (Nat.le_of_ble_eq_true rfl) ⟨Nat.le_of_ble_eq_true rfl, Nat.le_of_ble_eq_true rfl⟩ dX5_writesNote_45 ⟨Nat.le_of_ble_eq_true rfl, Nat.le_of_ble_eq_true rfl⟩) hS hD (va_free hD hS hA [0, 1, 2, 3, 4] rfl) (fun H locs hP hD hS => ?_)
  have hP : va_P G vwCl (wM cI ga z3) H := hP
  have hD : va_D A (wM cI ga z3) := hD
  exact retMv hQ S hr hlocks hK hN hP hD hS h dX5_writesNote_48

theorem cc_X5_88 {p : Program} {l : Launch} {e : Env} {R : Room} {s : State} {m : MethodId} {args : Array Value} {below : List Frame} {meth : Method} {c : Code} {H : Heap} {locs : List Loc} {cells slots : Nat} {cc : ByteArray} {pc nL : Nat} {ls : Array Slot} {rest : List Value} {G : va_G} {A : Nat → Prop} (ga : Nat → Nat) {cI cS : ClassId} {u : TM}  {p0 : Int32} {p1 : Int32} {p2 : Int32} {r : TM} (S : CallFix p m c cc nL s args bw RX5) (hK : va_K G vwCl (tysW cI cS) s) (hN : NW s) (hP : va_P G vwCl (wM cI ga u) H) (hD : va_D A (wM cI ga u)) (hf : fX5_writesNote u p0 p1 p2 = some r) (hsz : ls.size = nL) (hst : (rest.map fun v => v.category).sum ≤ 8) (hR : rmX5_writesNote.frames + 1 ≤ R.frames ∧ 8 + (4 + 11) + rmX5_writesNote.locals ≤ R.locals) (hdg : decode cc pc = .ok (.invokevirtual 88, 3)) (hcs : cells + 0 ≤ R.cells ∧ slots + 0 ≤ R.slots) : va_Run p l e R s m args below meth c H locs cells slots 0 0 (F0 m pc ls (.int p2 :: .int p1 :: .int p0 :: .ref (ga 0) :: rest)) rest (va_Qv (fun u' => u' = r) (PoM G (tysW cI cS) (va_A (wM cI ga u) H.size) (wM cI ga)) (va_A (wM cI ga u) H.size) (#[.ref (ga 0), .int p0, .int p1, .int p2] : Array Value)) (va_A (wM cI ga u) H.size) :=
  va_runV (As := [.int p0, .int p1, .int p2]) (rest := rest) S (kX5_writesNote l G cI cS ga H.size u p0 p1 p2 r hf) (cwV 3 S.2.2.2.2 (gdV q_468 q_469 q_470 q_392 q_466) rfl rfl rfl (by decide +kernel) hR) (pvM (q := (RX5, TX5, 12)) hK hN hP hD (ci := 5) (q0 := 0) rfl rfl) rfl rfl hsz rfl (lv_room hst) hdg hcs
def fX5_writesMoved_s9 (u : TM) (x1 : Int32) (x3 : Int32) : Option ((TM × Int32 × Int32) ⊕ (TM)) := (if u.1.2.2.2.1 ≤ x3 then some (.inr u) else ((rd u.2.2.2.1 60 x3).bind fun z2 => ((fX5_layByte u (x1 / (100 : Int32)) (x1 - x1 / (100 : Int32) * (100 : Int32)) ((3 : Int32) + x3) z2).bind fun z3 => some (.inl (z3, x1, (x3 + 1))))))
def fX5_writesMoved (u : TM) (p0 : Int32) (p1 : Int32) : Option (TM) := ((fX5_writesNote u p0 (3 : Int32) p1).bind fun z4 => ((itr (fun a : TM × Int32 × Int32 => fX5_writesMoved_s9 a.1 a.2.1 a.2.2) FU (z4, p0, (0 : Int32))).bind fun b5 => some b5))
abbrev rmX5_writesMoved : Room := { frames := 3, cells := 0, slots := 0, locals := 70 }
set_option maxRecDepth 100000 in
set_option maxHeartbeats 4000000 in
theorem kX5_writesMoved (l : Launch) (G : va_G) (cI cS : ClassId) (ga : Nat → Nat) (sz : Nat) (u : TM) (p0 : Int32) (p1 : Int32) (r : TM) (hf : fX5_writesMoved u p0 p1 = some r) : Met l yX5_writesMoved (.code yX5_writesMoved cX5_writesMoved 4 none :: bw) rmX5_writesMoved (va_Pc [.ref (ga 0), .int p0, .int p1] (PreM G (tysW cI cS) (wM cI ga u) sz)) (va_Qv (fun u' => u' = r) (PoM G (tysW cI cS) (va_A (wM cI ga u) sz) (wM cI ga)) (va_A (wM cI ga u) sz)) 0 0 (va_A (wM cI ga u) sz) := by
  refine enterM (own := RX5) (by decide) rfl (Nat.le_of_ble_eq_true rfl) ?_
  intro p e s m args below meth c A Q hAe hQ S hr hlocks hP hK hN hD hA hS ls hl
  rw [hAe] at hQ
  have hx := S.1; have hb := S.2.1; have hml := S.2.2.1; have hown := S.2.2.2.1; have hq := S.2.2.2.2
  have hl : lv_has ls 4 [(0, .ref (ga 0)), (1, .int p0), (2, .int p1)] := hl
  have h := hf
  unfold fX5_writesMoved at h
  have L9 : ∀ (n9 : Nat) (a9 : TM × Int32 × Int32) (b9 : TM), itr (fun a : TM × Int32 × Int32 => fX5_writesMoved_s9 a.1 a.2.1 a.2.2) n9 a9 = some b9 → (fun b : TM => ∀ (H : Heap) (locs : List Loc), va_P G vwCl (wM cI ga b) H → va_D A (wM cI ga b) → va_S A s.heap H locs → ∀ ls : Array Slot, lv_has ls 4 [] → W p l e rmX5_writesMoved s m args below meth c H locs 0 0 Q (F0 m 44 ls [])) b9 → (fun a : TM × Int32 × Int32 => ∀ (H : Heap) (locs : List Loc), va_P G vwCl (wM cI ga a.1) H → va_D A (wM cI ga a.1) → va_S A s.heap H locs → ∀ ls : Array Slot, lv_has ls 4 [(0, .ref (ga 0)), (1, .int a.2.1), (3, .int a.2.2)] → W p l e rmX5_writesMoved s m args below meth c H locs 0 0 Q (F0 m 9 ls [])) a9 := by
    refine itr_ind (Inv := (fun a : TM × Int32 × Int32 => ∀ (H : Heap) (locs : List Loc), va_P G vwCl (wM cI ga a.1) H → va_D A (wM cI ga a.1) → va_S A s.heap H locs → ∀ ls : Array Slot, lv_has ls 4 [(0, .ref (ga 0)), (1, .int a.2.1), (3, .int a.2.2)] → W p l e rmX5_writesMoved s m args below meth c H locs 0 0 Q (F0 m 9 ls []))) (Ex := (fun b : TM => ∀ (H : Heap) (locs : List Loc), va_P G vwCl (wM cI ga b) H → va_D A (wM cI ga b) → va_S A s.heap H locs → ∀ ls : Array Slot, lv_has ls 4 [] → W p l e rmX5_writesMoved s m args below meth c H locs 0 0 Q (F0 m 44 ls []))) ?_
    rintro ⟨u, x1, x3⟩ z h hI hE
    have h : fX5_writesMoved_s9 u x1 x3 = some z := h
    unfold fX5_writesMoved_s9 at h
    show ∀ (H : Heap) (locs : List Loc), va_P G vwCl (wM cI ga u) H → va_D A (wM cI ga u) → va_S A s.heap H locs → ∀ ls : Array Slot, lv_has ls 4 [(0, .ref (ga 0)), (1, .int x1), (3, .int x3)] → W p l e rmX5_writesMoved s m args below meth c H locs 0 0 Q (F0 m 9 ls [])
    intro H locs hP hD hS ls hl
    refine lv_iload_n hx hb dX5_writesMoved_9 rfl (lv_at hl 2 rfl) ?_
    refine lv_aload_n hx hb dX5_writesMoved_10 rfl (lv_at hl 0 rfl) ?_
    refine gf_X5_85 S hK hN hP 0 rfl (v := .int u.1.2.2.2.1) rfl dX5_writesMoved_11 ?_
    refine lv_icmp_ge (tgt := 44) hx hb dX5_writesMoved_14 (by decide) (fun c1 => ?_) (fun c1 => ?_)
    · have h := (if_pos c1).symm.trans h
      exact hE _ (Option.some.inj h) _ _ hP hD hS _ (lv_sub hl [] rfl)
    · have h := (if_neg c1).symm.trans h
      refine lv_aload_n hx hb dX5_writesMoved_17 rfl (lv_at hl 0 rfl) ?_
      refine lv_iload_n hx hb dX5_writesMoved_18 rfl (lv_at hl 1 rfl) ?_
      refine lv_bipush (v := 100) hx hb dX5_writesMoved_19 (by decide) ?_
      refine lv_idiv hx hb dX5_writesMoved_21 (by decide) ?_
      refine lv_iload_n hx hb dX5_writesMoved_22 rfl (lv_at hl 1 rfl) ?_
      refine lv_bipush (v := 100) hx hb dX5_writesMoved_23 (by decide) ?_
      refine lv_irem hx hb dX5_writesMoved_25 (by decide) ?_
      refine lv_iconst (v := 3) hx hb dX5_writesMoved_26 (by decide) ?_
      refine lv_iload_n hx hb dX5_writesMoved_27 rfl (lv_at hl 2 rfl) ?_
      refine lv_iadd hx hb dX5_writesMoved_28 ?_
      refine lv_aload_n hx hb dX5_writesMoved_29 rfl (lv_at hl 0 rfl) ?_
      refine gf_X5_16 S hK hN hP 0 rfl (v := .ref (ga 3)) rfl dX5_writesMoved_30 ?_
      refine lv_iload_n hx hb dX5_writesMoved_33 rfl (lv_at hl 2 rfl) ?_
      obtain ⟨z2, e_z2, h⟩ := bnd h
      refine iaO (f := u.2.2.2.1) hx hb hK hP 3 0 rfl rfl e_z2 dX5_writesMoved_34 ?_
      obtain ⟨z3, e_z3, h⟩ := bnd h
      refine muv (cc_X5_50 ga S hK hN hP hD e_z3 hl.1 (Nat.le_of_ble_eq_true rfl) ⟨Nat.le_of_ble_eq_true rfl, Nat.le_of_ble_eq_true rfl⟩ dX5_writesMoved_35 ⟨Nat.le_of_ble_eq_true rfl, Nat.le_of_ble_eq_true rfl⟩) hS hD (va_free hD hS hA [0, 1, 2, 3, 4] rfl) (fun H locs hP hD hS => ?_)
      have hP : va_P G vwCl (wM cI ga z3) H := hP
      have hD : va_D A (wM cI ga z3) := hD
      refine lv_iinc (v := (x3 + 1)) (lv' := [(3, .int (x3 + 1)), (0, .ref (ga 0)), (1, .int x1)]) hx hb dX5_writesMoved_38 hl (k := 2) rfl rfl (by decide) rfl (fun ls hl => ?_)
      refine lv_goto (tgt := 9) hx hb dX5_writesMoved_41 (by decide) ?_
      exact hI _ (Option.some.inj h) _ _ hP hD hS _ (lv_sub hl [1, 2, 0] rfl)
  refine lv_aload_n hx hb dX5_writesMoved_0 rfl (lv_at hl 0 rfl) ?_
  refine lv_iload_n hx hb dX5_writesMoved_1 rfl (lv_at hl 1 rfl) ?_
  refine lv_iconst (v := 3) hx hb dX5_writesMoved_2 (by decide) ?_
  refine lv_iload_n hx hb dX5_writesMoved_3 rfl (lv_at hl 2 rfl) ?_
  obtain ⟨z4, e_z4, h⟩ := bnd h
  refine muv (cc_X5_88 ga S hK hN hP hD e_z4 hl.1 (Nat.le_of_ble_eq_true rfl) ⟨Nat.le_of_ble_eq_true rfl, Nat.le_of_ble_eq_true rfl⟩ dX5_writesMoved_4 ⟨Nat.le_of_ble_eq_true rfl, Nat.le_of_ble_eq_true rfl⟩) hS hD (va_free hD hS hA [0, 1, 2, 3, 4] rfl) (fun H locs hP hD hS => ?_)
  have hP : va_P G vwCl (wM cI ga z4) H := hP
  have hD : va_D A (wM cI ga z4) := hD
  refine lv_iconst (v := 0) hx hb dX5_writesMoved_7 (by decide) ?_
  refine lv_istore_n (lv' := [(3, .int (0 : Int32)), (0, .ref (ga 0)), (1, .int p0), (2, .int p1)]) hx hb dX5_writesMoved_8 rfl hl (by decide) rfl (fun ls hl => ?_)
  obtain ⟨b5, e_b5, h⟩ := bnd h
  refine L9 _ _ _ e_b5 ?_ _ _ hP hD hS _ (lv_sub hl [1, 2, 0] rfl)
  intro H locs hP hD hS ls hl
  exact retMv hQ S hr hlocks hK hN hP hD hS h dX5_writesMoved_44

theorem cc_X5_101 {p : Program} {l : Launch} {e : Env} {R : Room} {s : State} {m : MethodId} {args : Array Value} {below : List Frame} {meth : Method} {c : Code} {H : Heap} {locs : List Loc} {cells slots : Nat} {cc : ByteArray} {pc nL : Nat} {ls : Array Slot} {rest : List Value} {G : va_G} {A : Nat → Prop} (ga : Nat → Nat) {cI cS : ClassId} {u : TM}  {p0 : Int32} {p1 : Int32} {r : Int32 × TM} (S : CallFix p m c cc nL s args bw RX5) (hK : va_K G vwCl (tysW cI cS) s) (hN : NW s) (hP : va_P G vwCl (wM cI ga u) H) (hD : va_D A (wM cI ga u)) (hf : fX5_stores u p0 p1 = some r) (hsz : ls.size = nL) (hst : (rest.map fun v => v.category).sum ≤ 8) (hR : rmX5_stores.frames + 1 ≤ R.frames ∧ 8 + (4 + 11) + rmX5_stores.locals ≤ R.locals) (hdg : decode cc pc = .ok (.invokevirtual 101, 3)) (hcs : cells + 0 ≤ R.cells ∧ slots + 0 ≤ R.slots) : va_Run p l e R s m args below meth c H locs cells slots 0 0 (F0 m pc ls (.int p1 :: .int p0 :: .ref (ga 0) :: rest)) rest (va_Qi (fun r' u' => (r', u') = r) (PoM G (tysW cI cS) (va_A (wM cI ga u) H.size) (wM cI ga)) (va_A (wM cI ga u) H.size) (#[.ref (ga 0), .int p0, .int p1] : Array Value)) (va_A (wM cI ga u) H.size) :=
  va_runV (As := [.int p0, .int p1]) (rest := rest) S (kX5_stores l G cI cS ga H.size u p0 p1 r hf) (cwV 2 S.2.2.2.2 (gdV q_479 q_480 q_481 q_392 q_442) rfl rfl rfl (by decide +kernel) hR) (pvM (q := (RX5, TX5, 12)) hK hN hP hD (ci := 5) (q0 := 0) rfl rfl) rfl rfl hsz rfl (lv_room hst) hdg hcs
theorem cc_X5_104 {p : Program} {l : Launch} {e : Env} {R : Room} {s : State} {m : MethodId} {args : Array Value} {below : List Frame} {meth : Method} {c : Code} {H : Heap} {locs : List Loc} {cells slots : Nat} {cc : ByteArray} {pc nL : Nat} {ls : Array Slot} {rest : List Value} {G : va_G} {A : Nat → Prop} (ga : Nat → Nat) {cI cS : ClassId} {u : TM}  {p0 : Int32} {p1 : Int32} {r : TM} (S : CallFix p m c cc nL s args bw RX5) (hK : va_K G vwCl (tysW cI cS) s) (hN : NW s) (hP : va_P G vwCl (wM cI ga u) H) (hD : va_D A (wM cI ga u)) (hf : fX5_writesHome u p0 p1 = some r) (hsz : ls.size = nL) (hst : (rest.map fun v => v.category).sum ≤ 8) (hR : rmX5_writesHome.frames + 1 ≤ R.frames ∧ 8 + (4 + 11) + rmX5_writesHome.locals ≤ R.locals) (hdg : decode cc pc = .ok (.invokevirtual 104, 3)) (hcs : cells + 0 ≤ R.cells ∧ slots + 0 ≤ R.slots) : va_Run p l e R s m args below meth c H locs cells slots 0 0 (F0 m pc ls (.int p1 :: .int p0 :: .ref (ga 0) :: rest)) rest (va_Qv (fun u' => u' = r) (PoM G (tysW cI cS) (va_A (wM cI ga u) H.size) (wM cI ga)) (va_A (wM cI ga u) H.size) (#[.ref (ga 0), .int p0, .int p1] : Array Value)) (va_A (wM cI ga u) H.size) :=
  va_runV (As := [.int p0, .int p1]) (rest := rest) S (kX5_writesHome l G cI cS ga H.size u p0 p1 r hf) (cwV 2 S.2.2.2.2 (gdV q_482 q_483 q_484 q_392 q_464) rfl rfl rfl (by decide +kernel) hR) (pvM (q := (RX5, TX5, 12)) hK hN hP hD (ci := 5) (q0 := 0) rfl rfl) rfl rfl hsz rfl (lv_room hst) hdg hcs
theorem cc_X5_91 {p : Program} {l : Launch} {e : Env} {R : Room} {s : State} {m : MethodId} {args : Array Value} {below : List Frame} {meth : Method} {c : Code} {H : Heap} {locs : List Loc} {cells slots : Nat} {cc : ByteArray} {pc nL : Nat} {ls : Array Slot} {rest : List Value} {G : va_G}  {cI cS : ClassId}  {p0 : Int32} {r : Int32} (S : CallFix p m c cc nL s args bw RX5) (hK : va_K G vwCl (tysW cI cS) s) (hN : NW s) (hP : va_P G vwCl wE H) (hf : fX5_homeSize p0 = some r) (hsz : ls.size = nL) (hst : (rest.map fun v => v.category).sum ≤ 8) (hR : rmX5_homeSize.frames + 1 ≤ R.frames ∧ 8 + (1 + 11) + rmX5_homeSize.locals ≤ R.locals) (hdg : decode cc pc = .ok (.invokestatic 91, 3)) (hcs : cells + 0 ≤ R.cells ∧ slots + 0 ≤ R.slots) : va_Run p l e R s m args below meth c H locs cells slots 0 0 (F0 m pc ls (.int p0 :: rest)) rest (vp_Si (fun r' => r' = r) (#[.int p0] : Array Value)) (fun _ => False) :=
  va_runS (As := [.int p0]) (rest := rest) S (kX5_homeSize l G cI cS p0 r hf) (cwS 1 S.2.2.2.2 (gdS q_471 q_472 q_392 q_458) rfl rfl rfl (by decide +kernel) hR) (psR hK hN hP) rfl rfl hsz rfl (lv_room hst) hdg hcs
theorem cc_X5_94 {p : Program} {l : Launch} {e : Env} {R : Room} {s : State} {m : MethodId} {args : Array Value} {below : List Frame} {meth : Method} {c : Code} {H : Heap} {locs : List Loc} {cells slots : Nat} {cc : ByteArray} {pc nL : Nat} {ls : Array Slot} {rest : List Value} {G : va_G} (ga : Nat → Nat) {cI cS : ClassId} {u : TM}  {p0 : Int32} {p1 : Int32} {p2 : Int32} {r : Int32} (S : CallFix p m c cc nL s args bw RX5) (hK : va_K G vwCl (tysW cI cS) s) (hN : NW s) (hP : va_P G vwCl (wM cI ga u) H) (hf : fX5_pageFor u p0 p1 p2 = some r) (hsz : ls.size = nL) (hst : (rest.map fun v => v.category).sum ≤ 8) (hR : rmX5_pageFor.frames + 1 ≤ R.frames ∧ 8 + (5 + 11) + rmX5_pageFor.locals ≤ R.locals) (hdg : decode cc pc = .ok (.invokevirtual 94, 3)) (hcs : cells + 0 ≤ R.cells ∧ slots + 0 ≤ R.slots) : va_Run p l e R s m args below meth c H locs cells slots 0 0 (F0 m pc ls (.int p2 :: .int p1 :: .int p0 :: .ref (ga 0) :: rest)) rest (vp_Si (fun r' => r' = r) (#[.ref (ga 0), .int p0, .int p1, .int p2] : Array Value)) (fun _ => False) :=
  va_runV (As := [.int p0, .int p1, .int p2]) (rest := rest) S (kX5_pageFor l G cI cS ga u p0 p1 p2 r hf) (cwV 3 S.2.2.2.2 (gdV q_473 q_474 q_475 q_392 q_448) rfl rfl rfl (by decide +kernel) hR) (pvR (q := (RX5, TX5, 12)) hK hN hP (ci := 5) (q0 := 0) rfl rfl) rfl rfl hsz rfl (lv_room hst) hdg hcs
theorem cc_X5_97 {p : Program} {l : Launch} {e : Env} {R : Room} {s : State} {m : MethodId} {args : Array Value} {below : List Frame} {meth : Method} {c : Code} {H : Heap} {locs : List Loc} {cells slots : Nat} {cc : ByteArray} {pc nL : Nat} {ls : Array Slot} {rest : List Value} {G : va_G} {A : Nat → Prop} (ga : Nat → Nat) {cI cS : ClassId} {u : TM}  {p0 : Int32} {r : TM} (S : CallFix p m c cc nL s args bw RX5) (hK : va_K G vwCl (tysW cI cS) s) (hN : NW s) (hP : va_P G vwCl (wM cI ga u) H) (hD : va_D A (wM cI ga u)) (hf : fX5_opens u p0 = some r) (hsz : ls.size = nL) (hst : (rest.map fun v => v.category).sum ≤ 8) (hR : rmX5_opens.frames + 1 ≤ R.frames ∧ 8 + (2 + 11) + rmX5_opens.locals ≤ R.locals) (hdg : decode cc pc = .ok (.invokevirtual 97, 3)) (hcs : cells + 0 ≤ R.cells ∧ slots + 0 ≤ R.slots) : va_Run p l e R s m args below meth c H locs cells slots 0 0 (F0 m pc ls (.int p0 :: .ref (ga 0) :: rest)) rest (va_Qv (fun u' => u' = r) (PoM G (tysW cI cS) (va_A (wM cI ga u) H.size) (wM cI ga)) (va_A (wM cI ga u) H.size) (#[.ref (ga 0), .int p0] : Array Value)) (va_A (wM cI ga u) H.size) :=
  va_runV (As := [.int p0]) (rest := rest) S (kX5_opens l G cI cS ga H.size u p0 r hf) (cwV 1 S.2.2.2.2 (gdV q_476 q_477 q_478 q_392 q_449) rfl rfl rfl (by decide +kernel) hR) (pvM (q := (RX5, TX5, 12)) hK hN hP hD (ci := 5) (q0 := 0) rfl rfl) rfl rfl hsz rfl (lv_room hst) hdg hcs
def fX5_inserts (u : TM) : Option (Int32 × TM) := ((fX5_homeSize u.1.2.2.2.1).bind fun z1 => ((fX5_pageFor u z1 ((-1) : Int32) ((-1) : Int32)).bind fun z2 => ((fX5_opens u z2).bind fun z3 => ((fX5_homeSize z3.1.2.2.2.1).bind fun z4 => ((fX5_stores z3 z2 z4).bind fun z5 => ((fX5_writesHome z5.2 z2 z5.1).bind fun z6 => some ((((100 : Int32) * z2) + z5.1), z6)))))))
abbrev rmX5_inserts : Room := { frames := 6, cells := 0, slots := 0, locals := 136 }
set_option maxRecDepth 100000 in
set_option maxHeartbeats 4000000 in
theorem kX5_inserts (l : Launch) (G : va_G) (cI cS : ClassId) (ga : Nat → Nat) (sz : Nat) (u : TM) (r : Int32 × TM) (hf : fX5_inserts u = some r) : Met l yX5_inserts (.code yX5_inserts cX5_inserts 3 (some .int) :: bw) rmX5_inserts (va_Pc [.ref (ga 0)] (PreM G (tysW cI cS) (wM cI ga u) sz)) (va_Qi (fun r' u' => (r', u') = r) (PoM G (tysW cI cS) (va_A (wM cI ga u) sz) (wM cI ga)) (va_A (wM cI ga u) sz)) 0 0 (va_A (wM cI ga u) sz) := by
  refine enterM (own := RX5) (by decide) rfl (Nat.le_of_ble_eq_true rfl) ?_
  intro p e s m args below meth c A Q hAe hQ S hr hlocks hP hK hN hD hA hS ls hl
  rw [hAe] at hQ
  have hx := S.1; have hb := S.2.1; have hml := S.2.2.1; have hown := S.2.2.2.1; have hq := S.2.2.2.2
  have hl : lv_has ls 3 [(0, .ref (ga 0))] := hl
  have h := hf
  unfold fX5_inserts at h
  refine lv_aload_n hx hb dX5_inserts_0 rfl (lv_at hl 0 rfl) ?_
  refine lv_aload_n hx hb dX5_inserts_1 rfl (lv_at hl 0 rfl) ?_
  refine gf_X5_85 S hK hN hP 0 rfl (v := .int u.1.2.2.2.1) rfl dX5_inserts_2 ?_
  obtain ⟨z1, e_z1, h⟩ := bnd h
  refine roI (cc_X5_91 S hK hN va_P0 e_z1 hl.1 (Nat.le_of_ble_eq_true rfl) ⟨Nat.le_of_ble_eq_true rfl, Nat.le_of_ble_eq_true rfl⟩ dX5_inserts_5 ⟨Nat.le_of_ble_eq_true rfl, Nat.le_of_ble_eq_true rfl⟩) ?_
  refine lv_iconst (v := (-1)) hx hb dX5_inserts_8 (by decide) ?_
  refine lv_iconst (v := (-1)) hx hb dX5_inserts_9 (by decide) ?_
  obtain ⟨z2, e_z2, h⟩ := bnd h
  refine roI (cc_X5_94 ga S hK hN hP e_z2 hl.1 (Nat.le_of_ble_eq_true rfl) ⟨Nat.le_of_ble_eq_true rfl, Nat.le_of_ble_eq_true rfl⟩ dX5_inserts_10 ⟨Nat.le_of_ble_eq_true rfl, Nat.le_of_ble_eq_true rfl⟩) ?_
  refine lv_istore_n (lv' := [(1, .int z2), (0, .ref (ga 0))]) hx hb dX5_inserts_13 rfl hl (by decide) rfl (fun ls hl => ?_)
  refine lv_aload_n hx hb dX5_inserts_14 rfl (lv_at hl 1 rfl) ?_
  refine lv_iload_n hx hb dX5_inserts_15 rfl (lv_at hl 0 rfl) ?_
  obtain ⟨z3, e_z3, h⟩ := bnd h
  refine muv (cc_X5_97 ga S hK hN hP hD e_z3 hl.1 (Nat.le_of_ble_eq_true rfl) ⟨Nat.le_of_ble_eq_true rfl, Nat.le_of_ble_eq_true rfl⟩ dX5_inserts_16 ⟨Nat.le_of_ble_eq_true rfl, Nat.le_of_ble_eq_true rfl⟩) hS hD (va_free hD hS hA [0, 1, 2, 3, 4] rfl) (fun H locs hP hD hS => ?_)
  have hP : va_P G vwCl (wM cI ga z3) H := hP
  have hD : va_D A (wM cI ga z3) := hD
  refine lv_aload_n hx hb dX5_inserts_19 rfl (lv_at hl 1 rfl) ?_
  refine lv_iload_n hx hb dX5_inserts_20 rfl (lv_at hl 0 rfl) ?_
  refine lv_aload_n hx hb dX5_inserts_21 rfl (lv_at hl 1 rfl) ?_
  refine gf_X5_85 S hK hN hP 0 rfl (v := .int z3.1.2.2.2.1) rfl dX5_inserts_22 ?_
  obtain ⟨z4, e_z4, h⟩ := bnd h
  refine roI (cc_X5_91 S hK hN va_P0 e_z4 hl.1 (Nat.le_of_ble_eq_true rfl) ⟨Nat.le_of_ble_eq_true rfl, Nat.le_of_ble_eq_true rfl⟩ dX5_inserts_25 ⟨Nat.le_of_ble_eq_true rfl, Nat.le_of_ble_eq_true rfl⟩) ?_
  obtain ⟨z5, e_z5, h⟩ := bnd h
  refine mui (cc_X5_101 ga S hK hN hP hD e_z5 hl.1 (Nat.le_of_ble_eq_true rfl) ⟨Nat.le_of_ble_eq_true rfl, Nat.le_of_ble_eq_true rfl⟩ dX5_inserts_28 ⟨Nat.le_of_ble_eq_true rfl, Nat.le_of_ble_eq_true rfl⟩) hS hD (va_free hD hS hA [0, 1, 2, 3, 4] rfl) (fun H locs hP hD hS => ?_)
  have hP : va_P G vwCl (wM cI ga z5.2) H := hP
  have hD : va_D A (wM cI ga z5.2) := hD
  refine lv_istore_n (lv' := [(2, .int z5.1), (1, .int z2), (0, .ref (ga 0))]) hx hb dX5_inserts_31 rfl hl (by decide) rfl (fun ls hl => ?_)
  refine lv_aload_n hx hb dX5_inserts_32 rfl (lv_at hl 2 rfl) ?_
  refine lv_iload_n hx hb dX5_inserts_33 rfl (lv_at hl 1 rfl) ?_
  refine lv_iload_n hx hb dX5_inserts_34 rfl (lv_at hl 0 rfl) ?_
  obtain ⟨z6, e_z6, h⟩ := bnd h
  refine muv (cc_X5_104 ga S hK hN hP hD e_z6 hl.1 (Nat.le_of_ble_eq_true rfl) ⟨Nat.le_of_ble_eq_true rfl, Nat.le_of_ble_eq_true rfl⟩ dX5_inserts_35 ⟨Nat.le_of_ble_eq_true rfl, Nat.le_of_ble_eq_true rfl⟩) hS hD (va_free hD hS hA [0, 1, 2, 3, 4] rfl) (fun H locs hP hD hS => ?_)
  have hP : va_P G vwCl (wM cI ga z6) H := hP
  have hD : va_D A (wM cI ga z6) := hD
  refine lv_bipush (v := 100) hx hb dX5_inserts_38 (by decide) ?_
  refine lv_iload_n hx hb dX5_inserts_40 rfl (lv_at hl 1 rfl) ?_
  refine lv_imul hx hb dX5_inserts_41 ?_
  refine lv_iload_n hx hb dX5_inserts_42 rfl (lv_at hl 0 rfl) ?_
  refine lv_iadd hx hb dX5_inserts_43 ?_
  exact retMi hQ S hr hlocks hK hN hP hD hS h dX5_inserts_44

theorem cc_X5_107 {p : Program} {l : Launch} {e : Env} {R : Room} {s : State} {m : MethodId} {args : Array Value} {below : List Frame} {meth : Method} {c : Code} {H : Heap} {locs : List Loc} {cells slots : Nat} {cc : ByteArray} {pc nL : Nat} {ls : Array Slot} {rest : List Value} {G : va_G} (ga : Nat → Nat) {cI cS : ClassId} {u : TM}  {p0 : Int32} {p1 : Int32} {p2 : Int32} {r : Int32} (S : CallFix p m c cc nL s args bw RX5) (hK : va_K G vwCl (tysW cI cS) s) (hN : NW s) (hP : va_P G vwCl (wM cI ga u) H) (hf : fX5_canReplace u p0 p1 p2 = some r) (hsz : ls.size = nL) (hst : (rest.map fun v => v.category).sum ≤ 8) (hR : rmX5_canReplace.frames + 1 ≤ R.frames ∧ 8 + (4 + 11) + rmX5_canReplace.locals ≤ R.locals) (hdg : decode cc pc = .ok (.invokevirtual 107, 3)) (hcs : cells + 0 ≤ R.cells ∧ slots + 0 ≤ R.slots) : va_Run p l e R s m args below meth c H locs cells slots 0 0 (F0 m pc ls (.int p2 :: .int p1 :: .int p0 :: .ref (ga 0) :: rest)) rest (vp_Si (fun r' => r' = r) (#[.ref (ga 0), .int p0, .int p1, .int p2] : Array Value)) (fun _ => False) :=
  va_runV (As := [.int p0, .int p1, .int p2]) (rest := rest) S (kX5_canReplace l G cI cS ga u p0 p1 p2 r hf) (cwV 3 S.2.2.2.2 (gdV q_486 q_487 q_488 q_392 q_444) rfl rfl rfl (by decide +kernel) hR) (pvR (q := (RX5, TX5, 12)) hK hN hP (ci := 5) (q0 := 0) rfl rfl) rfl rfl hsz rfl (lv_room hst) hdg hcs
def fX5_way_j68 (u : TM) (x1 : Int32) (x2 : Int32) (x3 : Int32) : Option (Int32) := ((fX5_pageFor u (x2 + (3 : Int32)) (x1 / (100 : Int32)) (x3 / (100 : Int32))).bind fun z1 => (if z1 = ((-1) : Int32) then some ((-1) : Int32) else some (3 : Int32)))
def fX5_way_j20 (u : TM) (x1 : Int32) (x2 : Int32) (x3 : Int32) (t0 : Int32) : Option (Int32) := ((fX5_homeSize x2).bind fun z3 => ((fX5_canReplace u (x1 / (100 : Int32)) (x1 - x1 / (100 : Int32) * (100 : Int32)) z3).bind fun z4 => (if z4 = 0 then (if t0 = 0 then fX5_way_j68 u x1 x2 x3 else ((fX5_canReplace u (x3 / (100 : Int32)) (x3 - x3 / (100 : Int32) * (100 : Int32)) (x2 + (3 : Int32))).bind fun z7 => (if z7 = 0 then fX5_way_j68 u x1 x2 x3 else some (2 : Int32)))) else some (1 : Int32))))
def fX5_way (u : TM) (p0 : Int32) (p1 : Int32) : Option (Int32) := ((fX5_placed u p0).bind fun z9 => ((fX5_kindAt u p0).bind fun z10 => (if z10 = (2 : Int32) then fX5_way_j20 u p0 p1 z9 (1 : Int32) else fX5_way_j20 u p0 p1 z9 (0 : Int32))))
abbrev rmX5_way : Room := { frames := 6, cells := 0, slots := 0, locals := 135 }
set_option maxRecDepth 100000 in
set_option maxHeartbeats 4000000 in
theorem kX5_way (l : Launch) (G : va_G) (cI cS : ClassId) (ga : Nat → Nat) (u : TM) (p0 : Int32) (p1 : Int32) (r : Int32) (hf : fX5_way u p0 p1 = some r) : Met l yX5_way (.code yX5_way cX5_way 5 (some .int) :: bw) rmX5_way (va_Pc [.ref (ga 0), .int p0, .int p1] (PreR G (tysW cI cS) (wM cI ga u))) (vp_Si (fun r' => r' = r)) 0 0 (fun _ => False) := by
  refine enterR (own := RX5) (by decide) rfl rfl (Nat.le_of_ble_eq_true rfl) ?_
  intro p e s m args below meth c Q hQ S hr hlocks hP hK hN ls hl
  have hx := S.1; have hb := S.2.1; have hml := S.2.2.1; have hown := S.2.2.2.1; have hq := S.2.2.2.2
  have hl : lv_has ls 5 [(0, .ref (ga 0)), (1, .int p0), (2, .int p1)] := hl
  have h := hf
  unfold fX5_way at h
  have J68 : ∀ (x1 : Int32) (x2 : Int32) (x3 : Int32) , fX5_way_j68 u x1 x2 x3 = some r → ∀ ls : Array Slot, lv_has ls 5 [(0, .ref (ga 0)), (1, .int x1), (2, .int x2), (3, .int x3)] → W p l e rmX5_way s m args below meth c s.heap [] 0 0 Q (F0 m 68 ls []) := by
    intro x1 x2 x3 h
    unfold fX5_way_j68 at h
    intro ls hl
    refine lv_aload_n hx hb dX5_way_68 rfl (lv_at hl 0 rfl) ?_
    refine lv_iload_n hx hb dX5_way_69 rfl (lv_at hl 2 rfl) ?_
    refine lv_iconst (v := 3) hx hb dX5_way_70 (by decide) ?_
    refine lv_iadd hx hb dX5_way_71 ?_
    refine lv_iload_n hx hb dX5_way_72 rfl (lv_at hl 1 rfl) ?_
    refine lv_bipush (v := 100) hx hb dX5_way_73 (by decide) ?_
    refine lv_idiv hx hb dX5_way_75 (by decide) ?_
    refine lv_iload_n hx hb dX5_way_76 rfl (lv_at hl 3 rfl) ?_
    refine lv_bipush (v := 100) hx hb dX5_way_77 (by decide) ?_
    refine lv_idiv hx hb dX5_way_79 (by decide) ?_
    obtain ⟨z1, e_z1, h⟩ := bnd h
    refine roI (cc_X5_94 ga S hK hN hP e_z1 hl.1 (Nat.le_of_ble_eq_true rfl) ⟨Nat.le_of_ble_eq_true rfl, Nat.le_of_ble_eq_true rfl⟩ dX5_way_80 ⟨Nat.le_of_ble_eq_true rfl, Nat.le_of_ble_eq_true rfl⟩) ?_
    refine lv_iconst (v := (-1)) hx hb dX5_way_83 (by decide) ?_
    refine lv_icmp_ne (tgt := 91) hx hb dX5_way_84 (by decide) (fun c2 => ?_) (fun c2 => ?_)
    · have h := (if_neg c2).symm.trans h
      refine lv_iconst (v := 3) hx hb dX5_way_91 (by decide) ?_
      exact retR hQ S hr hlocks h dX5_way_92
    · have h := (if_pos c2).symm.trans h
      refine lv_iconst (v := (-1)) hx hb dX5_way_87 (by decide) ?_
      refine lv_goto (tgt := 92) hx hb dX5_way_88 (by decide) ?_
      exact retR hQ S hr hlocks h dX5_way_92
  have J20 : ∀ (x1 : Int32) (x2 : Int32) (x3 : Int32) (t0 : Int32) , fX5_way_j20 u x1 x2 x3 t0 = some r → ∀ ls : Array Slot, lv_has ls 5 [(0, .ref (ga 0)), (1, .int x1), (2, .int x2), (3, .int x3)] → W p l e rmX5_way s m args below meth c s.heap [] 0 0 Q (F0 m 20 ls [.int t0]) := by
    intro x1 x2 x3 t0 h
    unfold fX5_way_j20 at h
    intro ls hl
    refine lv_istore (lv' := [(4, .int t0), (0, .ref (ga 0)), (1, .int x1), (2, .int x2), (3, .int x3)]) hx hb dX5_way_20 hl (by decide) rfl (fun ls hl => ?_)
    refine lv_aload_n hx hb dX5_way_22 rfl (lv_at hl 1 rfl) ?_
    refine lv_iload_n hx hb dX5_way_23 rfl (lv_at hl 2 rfl) ?_
    refine lv_bipush (v := 100) hx hb dX5_way_24 (by decide) ?_
    refine lv_idiv hx hb dX5_way_26 (by decide) ?_
    refine lv_iload_n hx hb dX5_way_27 rfl (lv_at hl 2 rfl) ?_
    refine lv_bipush (v := 100) hx hb dX5_way_28 (by decide) ?_
    refine lv_irem hx hb dX5_way_30 (by decide) ?_
    refine lv_iload_n hx hb dX5_way_31 rfl (lv_at hl 3 rfl) ?_
    obtain ⟨z3, e_z3, h⟩ := bnd h
    refine roI (cc_X5_91 S hK hN va_P0 e_z3 hl.1 (Nat.le_of_ble_eq_true rfl) ⟨Nat.le_of_ble_eq_true rfl, Nat.le_of_ble_eq_true rfl⟩ dX5_way_32 ⟨Nat.le_of_ble_eq_true rfl, Nat.le_of_ble_eq_true rfl⟩) ?_
    obtain ⟨z4, e_z4, h⟩ := bnd h
    refine roI (cc_X5_107 ga S hK hN hP e_z4 hl.1 (Nat.le_of_ble_eq_true rfl) ⟨Nat.le_of_ble_eq_true rfl, Nat.le_of_ble_eq_true rfl⟩ dX5_way_35 ⟨Nat.le_of_ble_eq_true rfl, Nat.le_of_ble_eq_true rfl⟩) ?_
    refine lv_if_eq (tgt := 43) hx hb dX5_way_38 (by decide) (fun c5 => ?_) (fun c5 => ?_)
    · have h := (if_pos c5).symm.trans h
      refine lv_iload hx hb dX5_way_43 (lv_at hl 0 rfl) ?_
      refine lv_if_eq (tgt := 68) hx hb dX5_way_45 (by decide) (fun c6 => ?_) (fun c6 => ?_)
      · have h := (if_pos c6).symm.trans h
        exact J68 x1 x2 x3 h _ (lv_sub hl [1, 2, 3, 4] rfl)
      · have h := (if_neg c6).symm.trans h
        refine lv_aload_n hx hb dX5_way_48 rfl (lv_at hl 1 rfl) ?_
        refine lv_iload_n hx hb dX5_way_49 rfl (lv_at hl 4 rfl) ?_
        refine lv_bipush (v := 100) hx hb dX5_way_50 (by decide) ?_
        refine lv_idiv hx hb dX5_way_52 (by decide) ?_
        refine lv_iload_n hx hb dX5_way_53 rfl (lv_at hl 4 rfl) ?_
        refine lv_bipush (v := 100) hx hb dX5_way_54 (by decide) ?_
        refine lv_irem hx hb dX5_way_56 (by decide) ?_
        refine lv_iload_n hx hb dX5_way_57 rfl (lv_at hl 3 rfl) ?_
        refine lv_iconst (v := 3) hx hb dX5_way_58 (by decide) ?_
        refine lv_iadd hx hb dX5_way_59 ?_
        obtain ⟨z7, e_z7, h⟩ := bnd h
        refine roI (cc_X5_107 ga S hK hN hP e_z7 hl.1 (Nat.le_of_ble_eq_true rfl) ⟨Nat.le_of_ble_eq_true rfl, Nat.le_of_ble_eq_true rfl⟩ dX5_way_60 ⟨Nat.le_of_ble_eq_true rfl, Nat.le_of_ble_eq_true rfl⟩) ?_
        refine lv_if_eq (tgt := 68) hx hb dX5_way_63 (by decide) (fun c8 => ?_) (fun c8 => ?_)
        · have h := (if_pos c8).symm.trans h
          exact J68 x1 x2 x3 h _ (lv_sub hl [1, 2, 3, 4] rfl)
        · have h := (if_neg c8).symm.trans h
          refine lv_iconst (v := 2) hx hb dX5_way_66 (by decide) ?_
          exact retR hQ S hr hlocks h dX5_way_67
    · have h := (if_neg c5).symm.trans h
      refine lv_iconst (v := 1) hx hb dX5_way_41 (by decide) ?_
      exact retR hQ S hr hlocks h dX5_way_42
  refine lv_aload_n hx hb dX5_way_0 rfl (lv_at hl 0 rfl) ?_
  refine lv_iload_n hx hb dX5_way_1 rfl (lv_at hl 1 rfl) ?_
  obtain ⟨z9, e_z9, h⟩ := bnd h
  refine roI (cc_X5_82 ga S hK hN hP e_z9 hl.1 (Nat.le_of_ble_eq_true rfl) ⟨Nat.le_of_ble_eq_true rfl, Nat.le_of_ble_eq_true rfl⟩ dX5_way_2 ⟨Nat.le_of_ble_eq_true rfl, Nat.le_of_ble_eq_true rfl⟩) ?_
  refine lv_istore_n (lv' := [(3, .int z9), (0, .ref (ga 0)), (1, .int p0), (2, .int p1)]) hx hb dX5_way_5 rfl hl (by decide) rfl (fun ls hl => ?_)
  refine lv_aload_n hx hb dX5_way_6 rfl (lv_at hl 1 rfl) ?_
  refine lv_iload_n hx hb dX5_way_7 rfl (lv_at hl 2 rfl) ?_
  obtain ⟨z10, e_z10, h⟩ := bnd h
  refine roI (cc_X5_75 ga S hK hN hP e_z10 hl.1 (Nat.le_of_ble_eq_true rfl) ⟨Nat.le_of_ble_eq_true rfl, Nat.le_of_ble_eq_true rfl⟩ dX5_way_8 ⟨Nat.le_of_ble_eq_true rfl, Nat.le_of_ble_eq_true rfl⟩) ?_
  refine lv_iconst (v := 2) hx hb dX5_way_11 (by decide) ?_
  refine lv_icmp_ne (tgt := 19) hx hb dX5_way_12 (by decide) (fun c11 => ?_) (fun c11 => ?_)
  · have h := (if_neg c11).symm.trans h
    refine lv_iconst (v := 0) hx hb dX5_way_19 (by decide) ?_
    exact J20 p0 p1 z9 (0 : Int32) h _ (lv_sub hl [1, 2, 3, 0] rfl)
  · have h := (if_pos c11).symm.trans h
    refine lv_iconst (v := 1) hx hb dX5_way_15 (by decide) ?_
    refine lv_goto (tgt := 20) hx hb dX5_way_16 (by decide) ?_
    exact J20 p0 p1 z9 (1 : Int32) h _ (lv_sub hl [1, 2, 3, 0] rfl)

theorem cc_X5_110 {p : Program} {l : Launch} {e : Env} {R : Room} {s : State} {m : MethodId} {args : Array Value} {below : List Frame} {meth : Method} {c : Code} {H : Heap} {locs : List Loc} {cells slots : Nat} {cc : ByteArray} {pc nL : Nat} {ls : Array Slot} {rest : List Value} {G : va_G} {A : Nat → Prop} (ga : Nat → Nat) {cI cS : ClassId} {u : TM}  {p0 : Int32} {p1 : Int32} {r : TM} (S : CallFix p m c cc nL s args bw RX5) (hK : va_K G vwCl (tysW cI cS) s) (hN : NW s) (hP : va_P G vwCl (wM cI ga u) H) (hD : va_D A (wM cI ga u)) (hf : fX5_removes u p0 p1 = some r) (hsz : ls.size = nL) (hst : (rest.map fun v => v.category).sum ≤ 8) (hR : rmX5_removes.frames + 1 ≤ R.frames ∧ 8 + (4 + 11) + rmX5_removes.locals ≤ R.locals) (hdg : decode cc pc = .ok (.invokevirtual 110, 3)) (hcs : cells + 0 ≤ R.cells ∧ slots + 0 ≤ R.slots) : va_Run p l e R s m args below meth c H locs cells slots 0 0 (F0 m pc ls (.int p1 :: .int p0 :: .ref (ga 0) :: rest)) rest (va_Qv (fun u' => u' = r) (PoM G (tysW cI cS) (va_A (wM cI ga u) H.size) (wM cI ga)) (va_A (wM cI ga u) H.size) (#[.ref (ga 0), .int p0, .int p1] : Array Value)) (va_A (wM cI ga u) H.size) :=
  va_runV (As := [.int p0, .int p1]) (rest := rest) S (kX5_removes l G cI cS ga H.size u p0 p1 r hf) (cwV 2 S.2.2.2.2 (gdV q_490 q_491 q_492 q_392 q_424) rfl rfl rfl (by decide +kernel) hR) (pvM (q := (RX5, TX5, 12)) hK hN hP hD (ci := 5) (q0 := 0) rfl rfl) rfl rfl hsz rfl (lv_room hst) hdg hcs
theorem cc_X5_113 {p : Program} {l : Launch} {e : Env} {R : Room} {s : State} {m : MethodId} {args : Array Value} {below : List Frame} {meth : Method} {c : Code} {H : Heap} {locs : List Loc} {cells slots : Nat} {cc : ByteArray} {pc nL : Nat} {ls : Array Slot} {rest : List Value} {G : va_G} {A : Nat → Prop} (ga : Nat → Nat) {cI cS : ClassId} {u : TM}  {p0 : Int32} {p1 : Int32} {p2 : Int32} {r : TM} (S : CallFix p m c cc nL s args bw RX5) (hK : va_K G vwCl (tysW cI cS) s) (hN : NW s) (hP : va_P G vwCl (wM cI ga u) H) (hD : va_D A (wM cI ga u)) (hf : fX5_replaces u p0 p1 p2 = some r) (hsz : ls.size = nL) (hst : (rest.map fun v => v.category).sum ≤ 8) (hR : rmX5_replaces.frames + 1 ≤ R.frames ∧ 8 + (4 + 11) + rmX5_replaces.locals ≤ R.locals) (hdg : decode cc pc = .ok (.invokevirtual 113, 3)) (hcs : cells + 0 ≤ R.cells ∧ slots + 0 ≤ R.slots) : va_Run p l e R s m args below meth c H locs cells slots 0 0 (F0 m pc ls (.int p2 :: .int p1 :: .int p0 :: .ref (ga 0) :: rest)) rest (va_Qv (fun u' => u' = r) (PoM G (tysW cI cS) (va_A (wM cI ga u) H.size) (wM cI ga)) (va_A (wM cI ga u) H.size) (#[.ref (ga 0), .int p0, .int p1, .int p2] : Array Value)) (va_A (wM cI ga u) H.size) :=
  va_runV (As := [.int p0, .int p1, .int p2]) (rest := rest) S (kX5_replaces l G cI cS ga H.size u p0 p1 p2 r hf) (cwV 3 S.2.2.2.2 (gdV q_493 q_494 q_495 q_392 q_443) rfl rfl rfl (by decide +kernel) hR) (pvM (q := (RX5, TX5, 12)) hK hN hP hD (ci := 5) (q0 := 0) rfl rfl) rfl rfl hsz rfl (lv_room hst) hdg hcs
def fX5_comesHome_j37 (u : TM) (x1 : Int32) : Option (TM) := ((fX5_homeSize u.1.2.2.2.1).bind fun z1 => ((fX5_replaces u (x1 / (100 : Int32)) (x1 - x1 / (100 : Int32) * (100 : Int32)) z1).bind fun z2 => ((fX5_writesHome z2 (x1 / (100 : Int32)) (x1 - x1 / (100 : Int32) * (100 : Int32))).bind fun z3 => some z3)))
def fX5_comesHome (u : TM) (p0 : Int32) : Option (TM) := ((fX5_placed u p0).bind fun z4 => ((fX5_kindAt u p0).bind fun z5 => (if z5 = (2 : Int32) then ((fX5_removes u (z4 / (100 : Int32)) (z4 - z4 / (100 : Int32) * (100 : Int32))).bind fun z7 => ((rd z7.2.1 10724 (2 : Int32)).bind fun z8 => ((wr z7.2.1 10724 (2 : Int32) (z8 + (1 : Int32))).bind fun z9 => fX5_comesHome_j37 (z7.1, z9, z7.2.2) p0))) else fX5_comesHome_j37 u p0)))
abbrev rmX5_comesHome : Room := { frames := 6, cells := 0, slots := 0, locals := 136 }
set_option maxRecDepth 100000 in
set_option maxHeartbeats 4000000 in
theorem kX5_comesHome (l : Launch) (G : va_G) (cI cS : ClassId) (ga : Nat → Nat) (sz : Nat) (u : TM) (p0 : Int32) (r : TM) (hf : fX5_comesHome u p0 = some r) : Met l yX5_comesHome (.code yX5_comesHome cX5_comesHome 3 none :: bw) rmX5_comesHome (va_Pc [.ref (ga 0), .int p0] (PreM G (tysW cI cS) (wM cI ga u) sz)) (va_Qv (fun u' => u' = r) (PoM G (tysW cI cS) (va_A (wM cI ga u) sz) (wM cI ga)) (va_A (wM cI ga u) sz)) 0 0 (va_A (wM cI ga u) sz) := by
  refine enterM (own := RX5) (by decide) rfl (Nat.le_of_ble_eq_true rfl) ?_
  intro p e s m args below meth c A Q hAe hQ S hr hlocks hP hK hN hD hA hS ls hl
  rw [hAe] at hQ
  have hx := S.1; have hb := S.2.1; have hml := S.2.2.1; have hown := S.2.2.2.1; have hq := S.2.2.2.2
  have hl : lv_has ls 3 [(0, .ref (ga 0)), (1, .int p0)] := hl
  have h := hf
  unfold fX5_comesHome at h
  have J37 : ∀ (u : TM) (x1 : Int32) , fX5_comesHome_j37 u x1 = some r → ∀ (H : Heap) (locs : List Loc), va_P G vwCl (wM cI ga u) H → va_D A (wM cI ga u) → va_S A s.heap H locs → ∀ ls : Array Slot, lv_has ls 3 [(0, .ref (ga 0)), (1, .int x1)] → W p l e rmX5_comesHome s m args below meth c H locs 0 0 Q (F0 m 37 ls []) := by
    intro u x1 h
    unfold fX5_comesHome_j37 at h
    intro H locs hP hD hS ls hl
    refine lv_aload_n hx hb dX5_comesHome_37 rfl (lv_at hl 0 rfl) ?_
    refine lv_iload_n hx hb dX5_comesHome_38 rfl (lv_at hl 1 rfl) ?_
    refine lv_bipush (v := 100) hx hb dX5_comesHome_39 (by decide) ?_
    refine lv_idiv hx hb dX5_comesHome_41 (by decide) ?_
    refine lv_iload_n hx hb dX5_comesHome_42 rfl (lv_at hl 1 rfl) ?_
    refine lv_bipush (v := 100) hx hb dX5_comesHome_43 (by decide) ?_
    refine lv_irem hx hb dX5_comesHome_45 (by decide) ?_
    refine lv_aload_n hx hb dX5_comesHome_46 rfl (lv_at hl 0 rfl) ?_
    refine gf_X5_85 S hK hN hP 0 rfl (v := .int u.1.2.2.2.1) rfl dX5_comesHome_47 ?_
    obtain ⟨z1, e_z1, h⟩ := bnd h
    refine roI (cc_X5_91 S hK hN va_P0 e_z1 hl.1 (Nat.le_of_ble_eq_true rfl) ⟨Nat.le_of_ble_eq_true rfl, Nat.le_of_ble_eq_true rfl⟩ dX5_comesHome_50 ⟨Nat.le_of_ble_eq_true rfl, Nat.le_of_ble_eq_true rfl⟩) ?_
    obtain ⟨z2, e_z2, h⟩ := bnd h
    refine muv (cc_X5_113 ga S hK hN hP hD e_z2 hl.1 (Nat.le_of_ble_eq_true rfl) ⟨Nat.le_of_ble_eq_true rfl, Nat.le_of_ble_eq_true rfl⟩ dX5_comesHome_53 ⟨Nat.le_of_ble_eq_true rfl, Nat.le_of_ble_eq_true rfl⟩) hS hD (va_free hD hS hA [0, 1, 2, 3, 4] rfl) (fun H locs hP hD hS => ?_)
    have hP : va_P G vwCl (wM cI ga z2) H := hP
    have hD : va_D A (wM cI ga z2) := hD
    refine lv_aload_n hx hb dX5_comesHome_56 rfl (lv_at hl 0 rfl) ?_
    refine lv_iload_n hx hb dX5_comesHome_57 rfl (lv_at hl 1 rfl) ?_
    refine lv_bipush (v := 100) hx hb dX5_comesHome_58 (by decide) ?_
    refine lv_idiv hx hb dX5_comesHome_60 (by decide) ?_
    refine lv_iload_n hx hb dX5_comesHome_61 rfl (lv_at hl 1 rfl) ?_
    refine lv_bipush (v := 100) hx hb dX5_comesHome_62 (by decide) ?_
    refine lv_irem hx hb dX5_comesHome_64 (by decide) ?_
    obtain ⟨z3, e_z3, h⟩ := bnd h
    refine muv (cc_X5_104 ga S hK hN hP hD e_z3 hl.1 (Nat.le_of_ble_eq_true rfl) ⟨Nat.le_of_ble_eq_true rfl, Nat.le_of_ble_eq_true rfl⟩ dX5_comesHome_65 ⟨Nat.le_of_ble_eq_true rfl, Nat.le_of_ble_eq_true rfl⟩) hS hD (va_free hD hS hA [0, 1, 2, 3, 4] rfl) (fun H locs hP hD hS => ?_)
    have hP : va_P G vwCl (wM cI ga z3) H := hP
    have hD : va_D A (wM cI ga z3) := hD
    exact retMv hQ S hr hlocks hK hN hP hD hS h dX5_comesHome_68
  refine lv_aload_n hx hb dX5_comesHome_0 rfl (lv_at hl 0 rfl) ?_
  refine lv_iload_n hx hb dX5_comesHome_1 rfl (lv_at hl 1 rfl) ?_
  obtain ⟨z4, e_z4, h⟩ := bnd h
  refine roI (cc_X5_82 ga S hK hN hP e_z4 hl.1 (Nat.le_of_ble_eq_true rfl) ⟨Nat.le_of_ble_eq_true rfl, Nat.le_of_ble_eq_true rfl⟩ dX5_comesHome_2 ⟨Nat.le_of_ble_eq_true rfl, Nat.le_of_ble_eq_true rfl⟩) ?_
  refine lv_istore_n (lv' := [(2, .int z4), (0, .ref (ga 0)), (1, .int p0)]) hx hb dX5_comesHome_5 rfl hl (by decide) rfl (fun ls hl => ?_)
  refine lv_aload_n hx hb dX5_comesHome_6 rfl (lv_at hl 1 rfl) ?_
  refine lv_iload_n hx hb dX5_comesHome_7 rfl (lv_at hl 2 rfl) ?_
  obtain ⟨z5, e_z5, h⟩ := bnd h
  refine roI (cc_X5_75 ga S hK hN hP e_z5 hl.1 (Nat.le_of_ble_eq_true rfl) ⟨Nat.le_of_ble_eq_true rfl, Nat.le_of_ble_eq_true rfl⟩ dX5_comesHome_8 ⟨Nat.le_of_ble_eq_true rfl, Nat.le_of_ble_eq_true rfl⟩) ?_
  refine lv_iconst (v := 2) hx hb dX5_comesHome_11 (by decide) ?_
  refine lv_icmp_ne (tgt := 37) hx hb dX5_comesHome_12 (by decide) (fun c6 => ?_) (fun c6 => ?_)
  · have h := (if_neg c6).symm.trans h
    exact J37 u p0 h _ _ hP hD hS _ (lv_sub hl [1, 2] rfl)
  · have h := (if_pos c6).symm.trans h
    refine lv_aload_n hx hb dX5_comesHome_15 rfl (lv_at hl 1 rfl) ?_
    refine lv_iload_n hx hb dX5_comesHome_16 rfl (lv_at hl 0 rfl) ?_
    refine lv_bipush (v := 100) hx hb dX5_comesHome_17 (by decide) ?_
    refine lv_idiv hx hb dX5_comesHome_19 (by decide) ?_
    refine lv_iload_n hx hb dX5_comesHome_20 rfl (lv_at hl 0 rfl) ?_
    refine lv_bipush (v := 100) hx hb dX5_comesHome_21 (by decide) ?_
    refine lv_irem hx hb dX5_comesHome_23 (by decide) ?_
    obtain ⟨z7, e_z7, h⟩ := bnd h
    refine muv (cc_X5_110 ga S hK hN hP hD e_z7 hl.1 (Nat.le_of_ble_eq_true rfl) ⟨Nat.le_of_ble_eq_true rfl, Nat.le_of_ble_eq_true rfl⟩ dX5_comesHome_24 ⟨Nat.le_of_ble_eq_true rfl, Nat.le_of_ble_eq_true rfl⟩) hS hD (va_free hD hS hA [0, 1, 2, 3, 4] rfl) (fun H locs hP hD hS => ?_)
    have hP : va_P G vwCl (wM cI ga z7) H := hP
    have hD : va_D A (wM cI ga z7) := hD
    refine lv_aload_n hx hb dX5_comesHome_27 rfl (lv_at hl 1 rfl) ?_
    refine gf_X5_7 S hK hN hP 0 rfl (v := .ref (ga 1)) rfl dX5_comesHome_28 ?_
    refine lv_iconst (v := 2) hx hb dX5_comesHome_31 (by decide) ?_
    refine lv_dup2_11 hx hb dX5_comesHome_32 rfl rfl ?_
    obtain ⟨z8, e_z8, h⟩ := bnd h
    refine iaO (f := z7.2.1) hx hb hK hP 1 0 rfl rfl e_z8 dX5_comesHome_33 ?_
    refine lv_iconst (v := 1) hx hb dX5_comesHome_34 (by decide) ?_
    refine lv_iadd hx hb dX5_comesHome_35 ?_
    obtain ⟨z9, e_z9, h⟩ := bnd h
    refine iaS (f := z7.2.1) hx hb hK hP hD hS 1 0 rfl rfl e_z9 dX5_comesHome_36 (fun H locs hP hD hS => ?_)
    have hP : va_P G vwCl (wM cI ga (z7.1, z9, z7.2.2)) H := hP
    have hD : va_D A (wM cI ga (z7.1, z9, z7.2.2)) := hD
    exact J37 (z7.1, z9, z7.2.2) p0 h _ _ hP hD hS _ (lv_sub hl [1, 2] rfl)

theorem cc_X5_116 {p : Program} {l : Launch} {e : Env} {R : Room} {s : State} {m : MethodId} {args : Array Value} {below : List Frame} {meth : Method} {c : Code} {H : Heap} {locs : List Loc} {cells slots : Nat} {cc : ByteArray} {pc nL : Nat} {ls : Array Slot} {rest : List Value} {G : va_G} {A : Nat → Prop} (ga : Nat → Nat) {cI cS : ClassId} {u : TM}  {p0 : Int32} {p1 : Int32} {r : TM} (S : CallFix p m c cc nL s args bw RX5) (hK : va_K G vwCl (tysW cI cS) s) (hN : NW s) (hP : va_P G vwCl (wM cI ga u) H) (hD : va_D A (wM cI ga u)) (hf : fX5_writesMoved u p0 p1 = some r) (hsz : ls.size = nL) (hst : (rest.map fun v => v.category).sum ≤ 8) (hR : rmX5_writesMoved.frames + 1 ≤ R.frames ∧ 8 + (4 + 11) + rmX5_writesMoved.locals ≤ R.locals) (hdg : decode cc pc = .ok (.invokevirtual 116, 3)) (hcs : cells + 0 ≤ R.cells ∧ slots + 0 ≤ R.slots) : va_Run p l e R s m args below meth c H locs cells slots 0 0 (F0 m pc ls (.int p1 :: .int p0 :: .ref (ga 0) :: rest)) rest (va_Qv (fun u' => u' = r) (PoM G (tysW cI cS) (va_A (wM cI ga u) H.size) (wM cI ga)) (va_A (wM cI ga u) H.size) (#[.ref (ga 0), .int p0, .int p1] : Array Value)) (va_A (wM cI ga u) H.size) :=
  va_runV (As := [.int p0, .int p1]) (rest := rest) S (kX5_writesMoved l G cI cS ga H.size u p0 p1 r hf) (cwV 2 S.2.2.2.2 (gdV q_497 q_498 q_499 q_392 q_467) rfl rfl rfl (by decide +kernel) hR) (pvM (q := (RX5, TX5, 12)) hK hN hP hD (ci := 5) (q0 := 0) rfl rfl) rfl rfl hsz rfl (lv_room hst) hdg hcs
def fX5_goesOut_j92 (u : TM) (x1 : Int32) (x4 : Int32) : Option (TM) := ((fX5_writesNote u x1 (2 : Int32) x4).bind fun z1 => ((rd z1.2.1 10724 (1 : Int32)).bind fun z2 => ((wr z1.2.1 10724 (1 : Int32) (z2 + (1 : Int32))).bind fun z3 => some (z1.1, z3, z1.2.2))))
def fX5_goesOut (u : TM) (p0 : Int32) : Option (TM) := ((fX5_placed u p0).bind fun z4 => ((fX5_pageFor u (u.1.2.2.2.1 + (3 : Int32)) (p0 / (100 : Int32)) (z4 / (100 : Int32))).bind fun z5 => ((fX5_opens u z5).bind fun z6 => ((fX5_stores z6 z5 (z6.1.2.2.2.1 + (3 : Int32))).bind fun z7 => ((fX5_writesMoved z7.2 (((100 : Int32) * z5) + z7.1) p0).bind fun z8 => ((fX5_kindAt z8 p0).bind fun z9 => (if z9 = (1 : Int32) then ((fX5_replaces z8 (p0 / (100 : Int32)) (p0 - p0 / (100 : Int32) * (100 : Int32)) (3 : Int32)).bind fun z12 => fX5_goesOut_j92 z12 p0 (((100 : Int32) * z5) + z7.1)) else ((fX5_removes z8 (z4 / (100 : Int32)) (z4 - z4 / (100 : Int32) * (100 : Int32))).bind fun z11 => fX5_goesOut_j92 z11 p0 (((100 : Int32) * z5) + z7.1)))))))))
abbrev rmX5_goesOut : Room := { frames := 6, cells := 0, slots := 0, locals := 136 }
set_option maxRecDepth 100000 in
set_option maxHeartbeats 4000000 in
theorem kX5_goesOut (l : Launch) (G : va_G) (cI cS : ClassId) (ga : Nat → Nat) (sz : Nat) (u : TM) (p0 : Int32) (r : TM) (hf : fX5_goesOut u p0 = some r) : Met l yX5_goesOut (.code yX5_goesOut cX5_goesOut 5 none :: bw) rmX5_goesOut (va_Pc [.ref (ga 0), .int p0] (PreM G (tysW cI cS) (wM cI ga u) sz)) (va_Qv (fun u' => u' = r) (PoM G (tysW cI cS) (va_A (wM cI ga u) sz) (wM cI ga)) (va_A (wM cI ga u) sz)) 0 0 (va_A (wM cI ga u) sz) := by
  refine enterM (own := RX5) (by decide) rfl (Nat.le_of_ble_eq_true rfl) ?_
  intro p e s m args below meth c A Q hAe hQ S hr hlocks hP hK hN hD hA hS ls hl
  rw [hAe] at hQ
  have hx := S.1; have hb := S.2.1; have hml := S.2.2.1; have hown := S.2.2.2.1; have hq := S.2.2.2.2
  have hl : lv_has ls 5 [(0, .ref (ga 0)), (1, .int p0)] := hl
  have h := hf
  unfold fX5_goesOut at h
  have J92 : ∀ (u : TM) (x1 : Int32) (x4 : Int32) , fX5_goesOut_j92 u x1 x4 = some r → ∀ (H : Heap) (locs : List Loc), va_P G vwCl (wM cI ga u) H → va_D A (wM cI ga u) → va_S A s.heap H locs → ∀ ls : Array Slot, lv_has ls 5 [(0, .ref (ga 0)), (1, .int x1), (4, .int x4)] → W p l e rmX5_goesOut s m args below meth c H locs 0 0 Q (F0 m 92 ls []) := by
    intro u x1 x4 h
    unfold fX5_goesOut_j92 at h
    intro H locs hP hD hS ls hl
    refine lv_aload_n hx hb dX5_goesOut_92 rfl (lv_at hl 0 rfl) ?_
    refine lv_iload_n hx hb dX5_goesOut_93 rfl (lv_at hl 1 rfl) ?_
    refine lv_iconst (v := 2) hx hb dX5_goesOut_94 (by decide) ?_
    refine lv_iload hx hb dX5_goesOut_95 (lv_at hl 2 rfl) ?_
    obtain ⟨z1, e_z1, h⟩ := bnd h
    refine muv (cc_X5_88 ga S hK hN hP hD e_z1 hl.1 (Nat.le_of_ble_eq_true rfl) ⟨Nat.le_of_ble_eq_true rfl, Nat.le_of_ble_eq_true rfl⟩ dX5_goesOut_97 ⟨Nat.le_of_ble_eq_true rfl, Nat.le_of_ble_eq_true rfl⟩) hS hD (va_free hD hS hA [0, 1, 2, 3, 4] rfl) (fun H locs hP hD hS => ?_)
    have hP : va_P G vwCl (wM cI ga z1) H := hP
    have hD : va_D A (wM cI ga z1) := hD
    refine lv_aload_n hx hb dX5_goesOut_100 rfl (lv_at hl 0 rfl) ?_
    refine gf_X5_7 S hK hN hP 0 rfl (v := .ref (ga 1)) rfl dX5_goesOut_101 ?_
    refine lv_iconst (v := 1) hx hb dX5_goesOut_104 (by decide) ?_
    refine lv_dup2_11 hx hb dX5_goesOut_105 rfl rfl ?_
    obtain ⟨z2, e_z2, h⟩ := bnd h
    refine iaO (f := z1.2.1) hx hb hK hP 1 0 rfl rfl e_z2 dX5_goesOut_106 ?_
    refine lv_iconst (v := 1) hx hb dX5_goesOut_107 (by decide) ?_
    refine lv_iadd hx hb dX5_goesOut_108 ?_
    obtain ⟨z3, e_z3, h⟩ := bnd h
    refine iaS (f := z1.2.1) hx hb hK hP hD hS 1 0 rfl rfl e_z3 dX5_goesOut_109 (fun H locs hP hD hS => ?_)
    have hP : va_P G vwCl (wM cI ga (z1.1, z3, z1.2.2)) H := hP
    have hD : va_D A (wM cI ga (z1.1, z3, z1.2.2)) := hD
    exact retMv hQ S hr hlocks hK hN hP hD hS h dX5_goesOut_110
  refine lv_aload_n hx hb dX5_goesOut_0 rfl (lv_at hl 0 rfl) ?_
  refine lv_iload_n hx hb dX5_goesOut_1 rfl (lv_at hl 1 rfl) ?_
  obtain ⟨z4, e_z4, h⟩ := bnd h
  refine roI (cc_X5_82 ga S hK hN hP e_z4 hl.1 (Nat.le_of_ble_eq_true rfl) ⟨Nat.le_of_ble_eq_true rfl, Nat.le_of_ble_eq_true rfl⟩ dX5_goesOut_2 ⟨Nat.le_of_ble_eq_true rfl, Nat.le_of_ble_eq_true rfl⟩) ?_
  refine lv_istore_n (lv' := [(2, .int z4), (0, .ref (ga 0)), (1, .int p0)]) hx hb dX5_goesOut_5 rfl hl (by decide) rfl (fun ls hl => ?_)
  refine lv_aload_n hx hb dX5_goesOut_6 rfl (lv_at hl 1 rfl) ?_
  refine lv_aload_n hx hb dX5_goesOut_7 rfl (lv_at hl 1 rfl) ?_
  refine gf_X5_85 S hK hN hP 0 rfl (v := .int u.1.2.2.2.1) rfl dX5_goesOut_8 ?_
  refine lv_iconst (v := 3) hx hb dX5_goesOut_11 (by decide) ?_
  refine lv_iadd hx hb dX5_goesOut_12 ?_
  refine lv_iload_n hx hb dX5_goesOut_13 rfl (lv_at hl 2 rfl) ?_
  refine lv_bipush (v := 100) hx hb dX5_goesOut_14 (by decide) ?_
  refine lv_idiv hx hb dX5_goesOut_16 (by decide) ?_
  refine lv_iload_n hx hb dX5_goesOut_17 rfl (lv_at hl 0 rfl) ?_
  refine lv_bipush (v := 100) hx hb dX5_goesOut_18 (by decide) ?_
  refine lv_idiv hx hb dX5_goesOut_20 (by decide) ?_
  obtain ⟨z5, e_z5, h⟩ := bnd h
  refine roI (cc_X5_94 ga S hK hN hP e_z5 hl.1 (Nat.le_of_ble_eq_true rfl) ⟨Nat.le_of_ble_eq_true rfl, Nat.le_of_ble_eq_true rfl⟩ dX5_goesOut_21 ⟨Nat.le_of_ble_eq_true rfl, Nat.le_of_ble_eq_true rfl⟩) ?_
  refine lv_istore_n (lv' := [(3, .int z5), (2, .int z4), (0, .ref (ga 0)), (1, .int p0)]) hx hb dX5_goesOut_24 rfl hl (by decide) rfl (fun ls hl => ?_)
  refine lv_aload_n hx hb dX5_goesOut_25 rfl (lv_at hl 2 rfl) ?_
  refine lv_iload_n hx hb dX5_goesOut_26 rfl (lv_at hl 0 rfl) ?_
  obtain ⟨z6, e_z6, h⟩ := bnd h
  refine muv (cc_X5_97 ga S hK hN hP hD e_z6 hl.1 (Nat.le_of_ble_eq_true rfl) ⟨Nat.le_of_ble_eq_true rfl, Nat.le_of_ble_eq_true rfl⟩ dX5_goesOut_27 ⟨Nat.le_of_ble_eq_true rfl, Nat.le_of_ble_eq_true rfl⟩) hS hD (va_free hD hS hA [0, 1, 2, 3, 4] rfl) (fun H locs hP hD hS => ?_)
  have hP : va_P G vwCl (wM cI ga z6) H := hP
  have hD : va_D A (wM cI ga z6) := hD
  refine lv_bipush (v := 100) hx hb dX5_goesOut_30 (by decide) ?_
  refine lv_iload_n hx hb dX5_goesOut_32 rfl (lv_at hl 0 rfl) ?_
  refine lv_imul hx hb dX5_goesOut_33 ?_
  refine lv_aload_n hx hb dX5_goesOut_34 rfl (lv_at hl 2 rfl) ?_
  refine lv_iload_n hx hb dX5_goesOut_35 rfl (lv_at hl 0 rfl) ?_
  refine lv_aload_n hx hb dX5_goesOut_36 rfl (lv_at hl 2 rfl) ?_
  refine gf_X5_85 S hK hN hP 0 rfl (v := .int z6.1.2.2.2.1) rfl dX5_goesOut_37 ?_
  refine lv_iconst (v := 3) hx hb dX5_goesOut_40 (by decide) ?_
  refine lv_iadd hx hb dX5_goesOut_41 ?_
  obtain ⟨z7, e_z7, h⟩ := bnd h
  refine mui (cc_X5_101 ga S hK hN hP hD e_z7 hl.1 (Nat.le_of_ble_eq_true rfl) ⟨Nat.le_of_ble_eq_true rfl, Nat.le_of_ble_eq_true rfl⟩ dX5_goesOut_42 ⟨Nat.le_of_ble_eq_true rfl, Nat.le_of_ble_eq_true rfl⟩) hS hD (va_free hD hS hA [0, 1, 2, 3, 4] rfl) (fun H locs hP hD hS => ?_)
  have hP : va_P G vwCl (wM cI ga z7.2) H := hP
  have hD : va_D A (wM cI ga z7.2) := hD
  refine lv_iadd hx hb dX5_goesOut_45 ?_
  refine lv_istore (lv' := [(4, .int (((100 : Int32) * z5) + z7.1)), (3, .int z5), (2, .int z4), (0, .ref (ga 0)), (1, .int p0)]) hx hb dX5_goesOut_46 hl (by decide) rfl (fun ls hl => ?_)
  refine lv_aload_n hx hb dX5_goesOut_48 rfl (lv_at hl 3 rfl) ?_
  refine lv_iload hx hb dX5_goesOut_49 (lv_at hl 0 rfl) ?_
  refine lv_iload_n hx hb dX5_goesOut_51 rfl (lv_at hl 4 rfl) ?_
  obtain ⟨z8, e_z8, h⟩ := bnd h
  refine muv (cc_X5_116 ga S hK hN hP hD e_z8 hl.1 (Nat.le_of_ble_eq_true rfl) ⟨Nat.le_of_ble_eq_true rfl, Nat.le_of_ble_eq_true rfl⟩ dX5_goesOut_52 ⟨Nat.le_of_ble_eq_true rfl, Nat.le_of_ble_eq_true rfl⟩) hS hD (va_free hD hS hA [0, 1, 2, 3, 4] rfl) (fun H locs hP hD hS => ?_)
  have hP : va_P G vwCl (wM cI ga z8) H := hP
  have hD : va_D A (wM cI ga z8) := hD
  refine lv_aload_n hx hb dX5_goesOut_55 rfl (lv_at hl 3 rfl) ?_
  refine lv_iload_n hx hb dX5_goesOut_56 rfl (lv_at hl 4 rfl) ?_
  obtain ⟨z9, e_z9, h⟩ := bnd h
  refine roI (cc_X5_75 ga S hK hN hP e_z9 hl.1 (Nat.le_of_ble_eq_true rfl) ⟨Nat.le_of_ble_eq_true rfl, Nat.le_of_ble_eq_true rfl⟩ dX5_goesOut_57 ⟨Nat.le_of_ble_eq_true rfl, Nat.le_of_ble_eq_true rfl⟩) ?_
  refine lv_iconst (v := 1) hx hb dX5_goesOut_60 (by decide) ?_
  refine lv_icmp_ne (tgt := 80) hx hb dX5_goesOut_61 (by decide) (fun c10 => ?_) (fun c10 => ?_)
  · have h := (if_neg c10).symm.trans h
    refine lv_aload_n hx hb dX5_goesOut_80 rfl (lv_at hl 3 rfl) ?_
    refine lv_iload_n hx hb dX5_goesOut_81 rfl (lv_at hl 2 rfl) ?_
    refine lv_bipush (v := 100) hx hb dX5_goesOut_82 (by decide) ?_
    refine lv_idiv hx hb dX5_goesOut_84 (by decide) ?_
    refine lv_iload_n hx hb dX5_goesOut_85 rfl (lv_at hl 2 rfl) ?_
    refine lv_bipush (v := 100) hx hb dX5_goesOut_86 (by decide) ?_
    refine lv_irem hx hb dX5_goesOut_88 (by decide) ?_
    obtain ⟨z11, e_z11, h⟩ := bnd h
    refine muv (cc_X5_110 ga S hK hN hP hD e_z11 hl.1 (Nat.le_of_ble_eq_true rfl) ⟨Nat.le_of_ble_eq_true rfl, Nat.le_of_ble_eq_true rfl⟩ dX5_goesOut_89 ⟨Nat.le_of_ble_eq_true rfl, Nat.le_of_ble_eq_true rfl⟩) hS hD (va_free hD hS hA [0, 1, 2, 3, 4] rfl) (fun H locs hP hD hS => ?_)
    have hP : va_P G vwCl (wM cI ga z11) H := hP
    have hD : va_D A (wM cI ga z11) := hD
    exact J92 z11 p0 (((100 : Int32) * z5) + z7.1) h _ _ hP hD hS _ (lv_sub hl [3, 4, 0] rfl)
  · have h := (if_pos c10).symm.trans h
    refine lv_aload_n hx hb dX5_goesOut_64 rfl (lv_at hl 3 rfl) ?_
    refine lv_iload_n hx hb dX5_goesOut_65 rfl (lv_at hl 4 rfl) ?_
    refine lv_bipush (v := 100) hx hb dX5_goesOut_66 (by decide) ?_
    refine lv_idiv hx hb dX5_goesOut_68 (by decide) ?_
    refine lv_iload_n hx hb dX5_goesOut_69 rfl (lv_at hl 4 rfl) ?_
    refine lv_bipush (v := 100) hx hb dX5_goesOut_70 (by decide) ?_
    refine lv_irem hx hb dX5_goesOut_72 (by decide) ?_
    refine lv_iconst (v := 3) hx hb dX5_goesOut_73 (by decide) ?_
    obtain ⟨z12, e_z12, h⟩ := bnd h
    refine muv (cc_X5_113 ga S hK hN hP hD e_z12 hl.1 (Nat.le_of_ble_eq_true rfl) ⟨Nat.le_of_ble_eq_true rfl, Nat.le_of_ble_eq_true rfl⟩ dX5_goesOut_74 ⟨Nat.le_of_ble_eq_true rfl, Nat.le_of_ble_eq_true rfl⟩) hS hD (va_free hD hS hA [0, 1, 2, 3, 4] rfl) (fun H locs hP hD hS => ?_)
    have hP : va_P G vwCl (wM cI ga z12) H := hP
    have hD : va_D A (wM cI ga z12) := hD
    refine lv_goto (tgt := 92) hx hb dX5_goesOut_77 (by decide) ?_
    exact J92 z12 p0 (((100 : Int32) * z5) + z7.1) h _ _ hP hD hS _ (lv_sub hl [3, 4, 0] rfl)

theorem cc_X5_119 {p : Program} {l : Launch} {e : Env} {R : Room} {s : State} {m : MethodId} {args : Array Value} {below : List Frame} {meth : Method} {c : Code} {H : Heap} {locs : List Loc} {cells slots : Nat} {cc : ByteArray} {pc nL : Nat} {ls : Array Slot} {rest : List Value} {G : va_G} (ga : Nat → Nat) {cI cS : ClassId} {u : TM}  {p0 : Int32} {p1 : Int32} {r : Int32} (S : CallFix p m c cc nL s args bw RX5) (hK : va_K G vwCl (tysW cI cS) s) (hN : NW s) (hP : va_P G vwCl (wM cI ga u) H) (hf : fX5_way u p0 p1 = some r) (hsz : ls.size = nL) (hst : (rest.map fun v => v.category).sum ≤ 8) (hR : rmX5_way.frames + 1 ≤ R.frames ∧ 8 + (5 + 11) + rmX5_way.locals ≤ R.locals) (hdg : decode cc pc = .ok (.invokevirtual 119, 3)) (hcs : cells + 0 ≤ R.cells ∧ slots + 0 ≤ R.slots) : va_Run p l e R s m args below meth c H locs cells slots 0 0 (F0 m pc ls (.int p1 :: .int p0 :: .ref (ga 0) :: rest)) rest (vp_Si (fun r' => r' = r) (#[.ref (ga 0), .int p0, .int p1] : Array Value)) (fun _ => False) :=
  va_runV (As := [.int p0, .int p1]) (rest := rest) S (kX5_way l G cI cS ga u p0 p1 r hf) (cwV 2 S.2.2.2.2 (gdV q_501 q_502 q_503 q_392 q_489) rfl rfl rfl (by decide +kernel) hR) (pvR (q := (RX5, TX5, 12)) hK hN hP (ci := 5) (q0 := 0) rfl rfl) rfl rfl hsz rfl (lv_room hst) hdg hcs
theorem cc_X5_122 {p : Program} {l : Launch} {e : Env} {R : Room} {s : State} {m : MethodId} {args : Array Value} {below : List Frame} {meth : Method} {c : Code} {H : Heap} {locs : List Loc} {cells slots : Nat} {cc : ByteArray} {pc nL : Nat} {ls : Array Slot} {rest : List Value} {G : va_G} {A : Nat → Prop} (ga : Nat → Nat) {cI cS : ClassId} {u : TM}  {p0 : Int32} {r : TM} (S : CallFix p m c cc nL s args bw RX5) (hK : va_K G vwCl (tysW cI cS) s) (hN : NW s) (hP : va_P G vwCl (wM cI ga u) H) (hD : va_D A (wM cI ga u)) (hf : fX5_comesHome u p0 = some r) (hsz : ls.size = nL) (hst : (rest.map fun v => v.category).sum ≤ 8) (hR : rmX5_comesHome.frames + 1 ≤ R.frames ∧ 8 + (3 + 11) + rmX5_comesHome.locals ≤ R.locals) (hdg : decode cc pc = .ok (.invokevirtual 122, 3)) (hcs : cells + 0 ≤ R.cells ∧ slots + 0 ≤ R.slots) : va_Run p l e R s m args below meth c H locs cells slots 0 0 (F0 m pc ls (.int p0 :: .ref (ga 0) :: rest)) rest (va_Qv (fun u' => u' = r) (PoM G (tysW cI cS) (va_A (wM cI ga u) H.size) (wM cI ga)) (va_A (wM cI ga u) H.size) (#[.ref (ga 0), .int p0] : Array Value)) (va_A (wM cI ga u) H.size) :=
  va_runV (As := [.int p0]) (rest := rest) S (kX5_comesHome l G cI cS ga H.size u p0 r hf) (cwV 1 S.2.2.2.2 (gdV q_504 q_505 q_506 q_392 q_496) rfl rfl rfl (by decide +kernel) hR) (pvM (q := (RX5, TX5, 12)) hK hN hP hD (ci := 5) (q0 := 0) rfl rfl) rfl rfl hsz rfl (lv_room hst) hdg hcs
theorem cc_X5_125 {p : Program} {l : Launch} {e : Env} {R : Room} {s : State} {m : MethodId} {args : Array Value} {below : List Frame} {meth : Method} {c : Code} {H : Heap} {locs : List Loc} {cells slots : Nat} {cc : ByteArray} {pc nL : Nat} {ls : Array Slot} {rest : List Value} {G : va_G} {A : Nat → Prop} (ga : Nat → Nat) {cI cS : ClassId} {u : TM}  {p0 : Int32} {r : TM} (S : CallFix p m c cc nL s args bw RX5) (hK : va_K G vwCl (tysW cI cS) s) (hN : NW s) (hP : va_P G vwCl (wM cI ga u) H) (hD : va_D A (wM cI ga u)) (hf : fX5_goesOut u p0 = some r) (hsz : ls.size = nL) (hst : (rest.map fun v => v.category).sum ≤ 8) (hR : rmX5_goesOut.frames + 1 ≤ R.frames ∧ 8 + (5 + 11) + rmX5_goesOut.locals ≤ R.locals) (hdg : decode cc pc = .ok (.invokevirtual 125, 3)) (hcs : cells + 0 ≤ R.cells ∧ slots + 0 ≤ R.slots) : va_Run p l e R s m args below meth c H locs cells slots 0 0 (F0 m pc ls (.int p0 :: .ref (ga 0) :: rest)) rest (va_Qv (fun u' => u' = r) (PoM G (tysW cI cS) (va_A (wM cI ga u) H.size) (wM cI ga)) (va_A (wM cI ga u) H.size) (#[.ref (ga 0), .int p0] : Array Value)) (va_A (wM cI ga u) H.size) :=
  va_runV (As := [.int p0]) (rest := rest) S (kX5_goesOut l G cI cS ga H.size u p0 r hf) (cwV 1 S.2.2.2.2 (gdV q_507 q_508 q_509 q_392 q_500) rfl rfl rfl (by decide +kernel) hR) (pvM (q := (RX5, TX5, 12)) hK hN hP hD (ci := 5) (q0 := 0) rfl rfl) rfl rfl hsz rfl (lv_room hst) hdg hcs
def fX5_updates (u : TM) (p0 : Int32) : Option (Int32 × TM) := ((fX5_way u p0 u.1.2.2.2.1).bind fun z1 => (if z1 = (1 : Int32) then ((fX5_comesHome u p0).bind fun z8 => some (z1, z8)) else (if z1 = (2 : Int32) then ((fX5_placed u p0).bind fun z5 => ((fX5_replaces u (z5 / (100 : Int32)) (z5 - z5 / (100 : Int32) * (100 : Int32)) (u.1.2.2.2.1 + (3 : Int32))).bind fun z6 => ((fX5_writesMoved z6 z5 p0).bind fun z7 => some (z1, z7)))) else ((fX5_goesOut u p0).bind fun z4 => some (z1, z4)))))
abbrev rmX5_updates : Room := { frames := 7, cells := 0, slots := 0, locals := 160 }
set_option maxRecDepth 100000 in
set_option maxHeartbeats 4000000 in
theorem kX5_updates (l : Launch) (G : va_G) (cI cS : ClassId) (ga : Nat → Nat) (sz : Nat) (u : TM) (p0 : Int32) (r : Int32 × TM) (hf : fX5_updates u p0 = some r) : Met l yX5_updates (.code yX5_updates cX5_updates 4 (some .int) :: bw) rmX5_updates (va_Pc [.ref (ga 0), .int p0] (PreM G (tysW cI cS) (wM cI ga u) sz)) (va_Qi (fun r' u' => (r', u') = r) (PoM G (tysW cI cS) (va_A (wM cI ga u) sz) (wM cI ga)) (va_A (wM cI ga u) sz)) 0 0 (va_A (wM cI ga u) sz) := by
  refine enterM (own := RX5) (by decide) rfl (Nat.le_of_ble_eq_true rfl) ?_
  intro p e s m args below meth c A Q hAe hQ S hr hlocks hP hK hN hD hA hS ls hl
  rw [hAe] at hQ
  have hx := S.1; have hb := S.2.1; have hml := S.2.2.1; have hown := S.2.2.2.1; have hq := S.2.2.2.2
  have hl : lv_has ls 4 [(0, .ref (ga 0)), (1, .int p0)] := hl
  have h := hf
  unfold fX5_updates at h
  refine lv_aload_n hx hb dX5_updates_0 rfl (lv_at hl 0 rfl) ?_
  refine lv_iload_n hx hb dX5_updates_1 rfl (lv_at hl 1 rfl) ?_
  refine lv_aload_n hx hb dX5_updates_2 rfl (lv_at hl 0 rfl) ?_
  refine gf_X5_85 S hK hN hP 0 rfl (v := .int u.1.2.2.2.1) rfl dX5_updates_3 ?_
  obtain ⟨z1, e_z1, h⟩ := bnd h
  refine roI (cc_X5_119 ga S hK hN hP e_z1 hl.1 (Nat.le_of_ble_eq_true rfl) ⟨Nat.le_of_ble_eq_true rfl, Nat.le_of_ble_eq_true rfl⟩ dX5_updates_6 ⟨Nat.le_of_ble_eq_true rfl, Nat.le_of_ble_eq_true rfl⟩) ?_
  refine lv_istore_n (lv' := [(2, .int z1), (0, .ref (ga 0)), (1, .int p0)]) hx hb dX5_updates_9 rfl hl (by decide) rfl (fun ls hl => ?_)
  refine lv_iload_n hx hb dX5_updates_10 rfl (lv_at hl 0 rfl) ?_
  refine lv_iconst (v := 1) hx hb dX5_updates_11 (by decide) ?_
  refine lv_icmp_ne (tgt := 23) hx hb dX5_updates_12 (by decide) (fun c2 => ?_) (fun c2 => ?_)
  · have h := (if_neg c2).symm.trans h
    refine lv_iload_n hx hb dX5_updates_23 rfl (lv_at hl 0 rfl) ?_
    refine lv_iconst (v := 2) hx hb dX5_updates_24 (by decide) ?_
    refine lv_icmp_ne (tgt := 61) hx hb dX5_updates_25 (by decide) (fun c3 => ?_) (fun c3 => ?_)
    · have h := (if_neg c3).symm.trans h
      refine lv_aload_n hx hb dX5_updates_61 rfl (lv_at hl 1 rfl) ?_
      refine lv_iload_n hx hb dX5_updates_62 rfl (lv_at hl 2 rfl) ?_
      obtain ⟨z4, e_z4, h⟩ := bnd h
      refine muv (cc_X5_125 ga S hK hN hP hD e_z4 hl.1 (Nat.le_of_ble_eq_true rfl) ⟨Nat.le_of_ble_eq_true rfl, Nat.le_of_ble_eq_true rfl⟩ dX5_updates_63 ⟨Nat.le_of_ble_eq_true rfl, Nat.le_of_ble_eq_true rfl⟩) hS hD (va_free hD hS hA [0, 1, 2, 3, 4] rfl) (fun H locs hP hD hS => ?_)
      have hP : va_P G vwCl (wM cI ga z4) H := hP
      have hD : va_D A (wM cI ga z4) := hD
      refine lv_iload_n hx hb dX5_updates_66 rfl (lv_at hl 0 rfl) ?_
      exact retMi hQ S hr hlocks hK hN hP hD hS h dX5_updates_67
    · have h := (if_pos c3).symm.trans h
      refine lv_aload_n hx hb dX5_updates_28 rfl (lv_at hl 1 rfl) ?_
      refine lv_iload_n hx hb dX5_updates_29 rfl (lv_at hl 2 rfl) ?_
      obtain ⟨z5, e_z5, h⟩ := bnd h
      refine roI (cc_X5_82 ga S hK hN hP e_z5 hl.1 (Nat.le_of_ble_eq_true rfl) ⟨Nat.le_of_ble_eq_true rfl, Nat.le_of_ble_eq_true rfl⟩ dX5_updates_30 ⟨Nat.le_of_ble_eq_true rfl, Nat.le_of_ble_eq_true rfl⟩) ?_
      refine lv_istore_n (lv' := [(3, .int z5), (2, .int z1), (0, .ref (ga 0)), (1, .int p0)]) hx hb dX5_updates_33 rfl hl (by decide) rfl (fun ls hl => ?_)
      refine lv_aload_n hx hb dX5_updates_34 rfl (lv_at hl 2 rfl) ?_
      refine lv_iload_n hx hb dX5_updates_35 rfl (lv_at hl 0 rfl) ?_
      refine lv_bipush (v := 100) hx hb dX5_updates_36 (by decide) ?_
      refine lv_idiv hx hb dX5_updates_38 (by decide) ?_
      refine lv_iload_n hx hb dX5_updates_39 rfl (lv_at hl 0 rfl) ?_
      refine lv_bipush (v := 100) hx hb dX5_updates_40 (by decide) ?_
      refine lv_irem hx hb dX5_updates_42 (by decide) ?_
      refine lv_aload_n hx hb dX5_updates_43 rfl (lv_at hl 2 rfl) ?_
      refine gf_X5_85 S hK hN hP 0 rfl (v := .int u.1.2.2.2.1) rfl dX5_updates_44 ?_
      refine lv_iconst (v := 3) hx hb dX5_updates_47 (by decide) ?_
      refine lv_iadd hx hb dX5_updates_48 ?_
      obtain ⟨z6, e_z6, h⟩ := bnd h
      refine muv (cc_X5_113 ga S hK hN hP hD e_z6 hl.1 (Nat.le_of_ble_eq_true rfl) ⟨Nat.le_of_ble_eq_true rfl, Nat.le_of_ble_eq_true rfl⟩ dX5_updates_49 ⟨Nat.le_of_ble_eq_true rfl, Nat.le_of_ble_eq_true rfl⟩) hS hD (va_free hD hS hA [0, 1, 2, 3, 4] rfl) (fun H locs hP hD hS => ?_)
      have hP : va_P G vwCl (wM cI ga z6) H := hP
      have hD : va_D A (wM cI ga z6) := hD
      refine lv_aload_n hx hb dX5_updates_52 rfl (lv_at hl 2 rfl) ?_
      refine lv_iload_n hx hb dX5_updates_53 rfl (lv_at hl 0 rfl) ?_
      refine lv_iload_n hx hb dX5_updates_54 rfl (lv_at hl 3 rfl) ?_
      obtain ⟨z7, e_z7, h⟩ := bnd h
      refine muv (cc_X5_116 ga S hK hN hP hD e_z7 hl.1 (Nat.le_of_ble_eq_true rfl) ⟨Nat.le_of_ble_eq_true rfl, Nat.le_of_ble_eq_true rfl⟩ dX5_updates_55 ⟨Nat.le_of_ble_eq_true rfl, Nat.le_of_ble_eq_true rfl⟩) hS hD (va_free hD hS hA [0, 1, 2, 3, 4] rfl) (fun H locs hP hD hS => ?_)
      have hP : va_P G vwCl (wM cI ga z7) H := hP
      have hD : va_D A (wM cI ga z7) := hD
      refine lv_goto (tgt := 66) hx hb dX5_updates_58 (by decide) ?_
      refine lv_iload_n hx hb dX5_updates_66 rfl (lv_at hl 1 rfl) ?_
      exact retMi hQ S hr hlocks hK hN hP hD hS h dX5_updates_67
  · have h := (if_pos c2).symm.trans h
    refine lv_aload_n hx hb dX5_updates_15 rfl (lv_at hl 1 rfl) ?_
    refine lv_iload_n hx hb dX5_updates_16 rfl (lv_at hl 2 rfl) ?_
    obtain ⟨z8, e_z8, h⟩ := bnd h
    refine muv (cc_X5_122 ga S hK hN hP hD e_z8 hl.1 (Nat.le_of_ble_eq_true rfl) ⟨Nat.le_of_ble_eq_true rfl, Nat.le_of_ble_eq_true rfl⟩ dX5_updates_17 ⟨Nat.le_of_ble_eq_true rfl, Nat.le_of_ble_eq_true rfl⟩) hS hD (va_free hD hS hA [0, 1, 2, 3, 4] rfl) (fun H locs hP hD hS => ?_)
    have hP : va_P G vwCl (wM cI ga z8) H := hP
    have hD : va_D A (wM cI ga z8) := hD
    refine lv_goto (tgt := 66) hx hb dX5_updates_20 (by decide) ?_
    refine lv_iload_n hx hb dX5_updates_66 rfl (lv_at hl 0 rfl) ?_
    exact retMi hQ S hr hlocks hK hN hP hD hS h dX5_updates_67

theorem cc_X5_128 {p : Program} {l : Launch} {e : Env} {R : Room} {s : State} {m : MethodId} {args : Array Value} {below : List Frame} {meth : Method} {c : Code} {H : Heap} {locs : List Loc} {cells slots : Nat} {cc : ByteArray} {pc nL : Nat} {ls : Array Slot} {rest : List Value} {G : va_G} (ga : Nat → Nat) {cI cS : ClassId} {u : TM}  {p0 : Int32} {r : Int32} (S : CallFix p m c cc nL s args bw RX5) (hK : va_K G vwCl (tysW cI cS) s) (hN : NW s) (hP : va_P G vwCl (wM cI ga u) H) (hf : fX5_lengthOf u p0 = some r) (hsz : ls.size = nL) (hst : (rest.map fun v => v.category).sum ≤ 8) (hR : rmX5_lengthOf.frames + 1 ≤ R.frames ∧ 8 + (5 + 11) + rmX5_lengthOf.locals ≤ R.locals) (hdg : decode cc pc = .ok (.invokevirtual 128, 3)) (hcs : cells + 0 ≤ R.cells ∧ slots + 0 ≤ R.slots) : va_Run p l e R s m args below meth c H locs cells slots 0 0 (F0 m pc ls (.int p0 :: .ref (ga 0) :: rest)) rest (vp_Si (fun r' => r' = r) (#[.ref (ga 0), .int p0] : Array Value)) (fun _ => False) :=
  va_runV (As := [.int p0]) (rest := rest) S (kX5_lengthOf l G cI cS ga u p0 r hf) (cwV 1 S.2.2.2.2 (gdV q_511 q_512 q_513 q_392 q_459) rfl rfl rfl (by decide +kernel) hR) (pvR (q := (RX5, TX5, 12)) hK hN hP (ci := 5) (q0 := 0) rfl rfl) rfl rfl hsz rfl (lv_room hst) hdg hcs
def fX5_deletes (u : TM) (p0 : Int32) : Option (Int32 × TM) := ((fX5_lengthOf u p0).bind fun z1 => ((fX5_placed u p0).bind fun z2 => ((fX5_removes u (z2 / (100 : Int32)) (z2 - z2 / (100 : Int32) * (100 : Int32))).bind fun z3 => (if z2 = p0 then some (z1, z3) else ((fX5_removes z3 (p0 / (100 : Int32)) (p0 - p0 / (100 : Int32) * (100 : Int32))).bind fun z5 => some (z1, z5))))))
abbrev rmX5_deletes : Room := { frames := 5, cells := 0, slots := 0, locals := 113 }
set_option maxRecDepth 100000 in
set_option maxHeartbeats 4000000 in
theorem kX5_deletes (l : Launch) (G : va_G) (cI cS : ClassId) (ga : Nat → Nat) (sz : Nat) (u : TM) (p0 : Int32) (r : Int32 × TM) (hf : fX5_deletes u p0 = some r) : Met l yX5_deletes (.code yX5_deletes cX5_deletes 4 (some .int) :: bw) rmX5_deletes (va_Pc [.ref (ga 0), .int p0] (PreM G (tysW cI cS) (wM cI ga u) sz)) (va_Qi (fun r' u' => (r', u') = r) (PoM G (tysW cI cS) (va_A (wM cI ga u) sz) (wM cI ga)) (va_A (wM cI ga u) sz)) 0 0 (va_A (wM cI ga u) sz) := by
  refine enterM (own := RX5) (by decide) rfl (Nat.le_of_ble_eq_true rfl) ?_
  intro p e s m args below meth c A Q hAe hQ S hr hlocks hP hK hN hD hA hS ls hl
  rw [hAe] at hQ
  have hx := S.1; have hb := S.2.1; have hml := S.2.2.1; have hown := S.2.2.2.1; have hq := S.2.2.2.2
  have hl : lv_has ls 4 [(0, .ref (ga 0)), (1, .int p0)] := hl
  have h := hf
  unfold fX5_deletes at h
  refine lv_aload_n hx hb dX5_deletes_0 rfl (lv_at hl 0 rfl) ?_
  refine lv_iload_n hx hb dX5_deletes_1 rfl (lv_at hl 1 rfl) ?_
  obtain ⟨z1, e_z1, h⟩ := bnd h
  refine roI (cc_X5_128 ga S hK hN hP e_z1 hl.1 (Nat.le_of_ble_eq_true rfl) ⟨Nat.le_of_ble_eq_true rfl, Nat.le_of_ble_eq_true rfl⟩ dX5_deletes_2 ⟨Nat.le_of_ble_eq_true rfl, Nat.le_of_ble_eq_true rfl⟩) ?_
  refine lv_istore_n (lv' := [(2, .int z1), (0, .ref (ga 0)), (1, .int p0)]) hx hb dX5_deletes_5 rfl hl (by decide) rfl (fun ls hl => ?_)
  refine lv_aload_n hx hb dX5_deletes_6 rfl (lv_at hl 1 rfl) ?_
  refine lv_iload_n hx hb dX5_deletes_7 rfl (lv_at hl 2 rfl) ?_
  obtain ⟨z2, e_z2, h⟩ := bnd h
  refine roI (cc_X5_82 ga S hK hN hP e_z2 hl.1 (Nat.le_of_ble_eq_true rfl) ⟨Nat.le_of_ble_eq_true rfl, Nat.le_of_ble_eq_true rfl⟩ dX5_deletes_8 ⟨Nat.le_of_ble_eq_true rfl, Nat.le_of_ble_eq_true rfl⟩) ?_
  refine lv_istore_n (lv' := [(3, .int z2), (2, .int z1), (0, .ref (ga 0)), (1, .int p0)]) hx hb dX5_deletes_11 rfl hl (by decide) rfl (fun ls hl => ?_)
  refine lv_aload_n hx hb dX5_deletes_12 rfl (lv_at hl 2 rfl) ?_
  refine lv_iload_n hx hb dX5_deletes_13 rfl (lv_at hl 0 rfl) ?_
  refine lv_bipush (v := 100) hx hb dX5_deletes_14 (by decide) ?_
  refine lv_idiv hx hb dX5_deletes_16 (by decide) ?_
  refine lv_iload_n hx hb dX5_deletes_17 rfl (lv_at hl 0 rfl) ?_
  refine lv_bipush (v := 100) hx hb dX5_deletes_18 (by decide) ?_
  refine lv_irem hx hb dX5_deletes_20 (by decide) ?_
  obtain ⟨z3, e_z3, h⟩ := bnd h
  refine muv (cc_X5_110 ga S hK hN hP hD e_z3 hl.1 (Nat.le_of_ble_eq_true rfl) ⟨Nat.le_of_ble_eq_true rfl, Nat.le_of_ble_eq_true rfl⟩ dX5_deletes_21 ⟨Nat.le_of_ble_eq_true rfl, Nat.le_of_ble_eq_true rfl⟩) hS hD (va_free hD hS hA [0, 1, 2, 3, 4] rfl) (fun H locs hP hD hS => ?_)
  have hP : va_P G vwCl (wM cI ga z3) H := hP
  have hD : va_D A (wM cI ga z3) := hD
  refine lv_iload_n hx hb dX5_deletes_24 rfl (lv_at hl 0 rfl) ?_
  refine lv_iload_n hx hb dX5_deletes_25 rfl (lv_at hl 3 rfl) ?_
  refine lv_icmp_eq (tgt := 41) hx hb dX5_deletes_26 (by decide) (fun c4 => ?_) (fun c4 => ?_)
  · have h := (if_pos c4).symm.trans h
    refine lv_iload_n hx hb dX5_deletes_41 rfl (lv_at hl 1 rfl) ?_
    exact retMi hQ S hr hlocks hK hN hP hD hS h dX5_deletes_42
  · have h := (if_neg c4).symm.trans h
    refine lv_aload_n hx hb dX5_deletes_29 rfl (lv_at hl 2 rfl) ?_
    refine lv_iload_n hx hb dX5_deletes_30 rfl (lv_at hl 3 rfl) ?_
    refine lv_bipush (v := 100) hx hb dX5_deletes_31 (by decide) ?_
    refine lv_idiv hx hb dX5_deletes_33 (by decide) ?_
    refine lv_iload_n hx hb dX5_deletes_34 rfl (lv_at hl 3 rfl) ?_
    refine lv_bipush (v := 100) hx hb dX5_deletes_35 (by decide) ?_
    refine lv_irem hx hb dX5_deletes_37 (by decide) ?_
    obtain ⟨z5, e_z5, h⟩ := bnd h
    refine muv (cc_X5_110 ga S hK hN hP hD e_z5 hl.1 (Nat.le_of_ble_eq_true rfl) ⟨Nat.le_of_ble_eq_true rfl, Nat.le_of_ble_eq_true rfl⟩ dX5_deletes_38 ⟨Nat.le_of_ble_eq_true rfl, Nat.le_of_ble_eq_true rfl⟩) hS hD (va_free hD hS hA [0, 1, 2, 3, 4] rfl) (fun H locs hP hD hS => ?_)
    have hP : va_P G vwCl (wM cI ga z5) H := hP
    have hD : va_D A (wM cI ga z5) := hD
    refine lv_iload_n hx hb dX5_deletes_41 rfl (lv_at hl 1 rfl) ?_
    exact retMi hQ S hr hlocks hK hN hP hD hS h dX5_deletes_42

theorem cc_X5_134 {p : Program} {l : Launch} {e : Env} {R : Room} {s : State} {m : MethodId} {args : Array Value} {below : List Frame} {meth : Method} {c : Code} {H : Heap} {locs : List Loc} {cells slots : Nat} {cc : ByteArray} {pc nL : Nat} {ls : Array Slot} {rest : List Value} {G : va_G} (ga : Nat → Nat) {cI cS : ClassId} {u : TM}  {p0 : Int32} {p1 : Int32} {r : Int32} (S : CallFix p m c cc nL s args bw RX5) (hK : va_K G vwCl (tysW cI cS) s) (hN : NW s) (hP : va_P G vwCl (wM cI ga u) H) (hf : fX5_byteOfRow u p0 p1 = some r) (hsz : ls.size = nL) (hst : (rest.map fun v => v.category).sum ≤ 8) (hR : rmX5_byteOfRow.frames + 1 ≤ R.frames ∧ 8 + (4 + 11) + rmX5_byteOfRow.locals ≤ R.locals) (hdg : decode cc pc = .ok (.invokevirtual 134, 3)) (hcs : cells + 0 ≤ R.cells ∧ slots + 0 ≤ R.slots) : va_Run p l e R s m args below meth c H locs cells slots 0 0 (F0 m pc ls (.int p1 :: .int p0 :: .ref (ga 0) :: rest)) rest (vp_Si (fun r' => r' = r) (#[.ref (ga 0), .int p0, .int p1] : Array Value)) (fun _ => False) :=
  va_runV (As := [.int p0, .int p1]) (rest := rest) S (kX5_byteOfRow l G cI cS ga u p0 p1 r hf) (cwV 2 S.2.2.2.2 (gdV q_515 q_516 q_517 q_392 q_463) rfl rfl rfl (by decide +kernel) hR) (pvR (q := (RX5, TX5, 12)) hK hN hP (ci := 5) (q0 := 0) rfl rfl) rfl rfl hsz rfl (lv_room hst) hdg hcs
theorem pf_X5_85 {p : Program} {l : Launch} {e : Env} {R : Room} {s : State} {m : MethodId} {args : Array Value} {below : List Frame} {meth : Method} {c : Code} {H : Heap} {locs : List Loc} {cells slots : Nat} {cc : ByteArray} {pc nL : Nat} {ls : Array Slot} {rest : List Value} {G : va_G} {Q : State → Prop} {tys : List (ClassId × FieldType)} {ws : va_W} {a : Nat} {A : Nat → Prop} {H0 : Heap} {x : Int32} (S : CallFix p m c cc nL s args bw RX5) (hK : va_K G vwCl tys s) (hN : NW s) (hP : va_P G vwCl ws H) (hD : va_D A ws) (hS : va_S A H0 H locs) (q0 : Nat) {fs : List Value} (he : ws[q0]? = some (a, .inr (5, fs))) (hl : 6 < fs.length) (hdg : decode cc pc = .ok (.putfield 85, 3)) (kk : ∀ (H1 : Heap) (locs1 : List Loc), va_P G vwCl (ws.set q0 (a, .inr (5, fs.set 6 (.int x)))) H1 → va_D A (ws.set q0 (a, .inr (5, fs.set 6 (.int x)))) → va_S A H0 H1 locs1 → W p l e R s m args below meth c H1 locs1 cells slots Q (F0 m (pc + 3) ls rest)) : W p l e R s m args below meth c H locs cells slots Q (F0 m pc ls (.int x :: .ref a :: rest)) :=
  va_put (ty := .int) (v := .int x) (C := RX5) (T := TX5) (N := 12) S.1 S.2.1 S.2.2.2.2 bi_U5 tyX5 tyX5_ok nmX5 S.2.2.2.1 hK hP hD hS q0 he rfl 6 (by decide) (S.2.2.2.2 _ q_465) (fun _ h9 => h9) rfl rfl rfl rfl hl hdg kk
def fX5_takesRow_s11 (u : TM) (x1 : Int32) (x2 : Int32) : Option ((TM × Int32 × Int32) ⊕ (TM)) := (if u.1.2.2.2.1 ≤ x2 then some (.inr u) else ((fX5_byteOfRow u x1 x2).bind fun z2 => ((wr u.2.2.2.1 60 x2 z2).bind fun z3 => some (.inl ((u.1, u.2.1, u.2.2.1, z3, u.2.2.2.2), x1, (x2 + 1))))))
def fX5_takesRow (u : TM) (p0 : Int32) : Option (TM) := ((fX5_lengthOf u p0).bind fun z4 => ((itr (fun a : TM × Int32 × Int32 => fX5_takesRow_s11 a.1 a.2.1 a.2.2) FU (((u.1.1, u.1.2.1, u.1.2.2.1, z4, u.1.2.2.2.2), u.2), p0, (0 : Int32))).bind fun b5 => some b5))
abbrev rmX5_takesRow : Room := { frames := 5, cells := 0, slots := 0, locals := 113 }
set_option maxRecDepth 100000 in
set_option maxHeartbeats 4000000 in
theorem kX5_takesRow (l : Launch) (G : va_G) (cI cS : ClassId) (ga : Nat → Nat) (sz : Nat) (u : TM) (p0 : Int32) (r : TM) (hf : fX5_takesRow u p0 = some r) : Met l yX5_takesRow (.code yX5_takesRow cX5_takesRow 3 none :: bw) rmX5_takesRow (va_Pc [.ref (ga 0), .int p0] (PreM G (tysW cI cS) (wM cI ga u) sz)) (va_Qv (fun u' => u' = r) (PoM G (tysW cI cS) (va_A (wM cI ga u) sz) (wM cI ga)) (va_A (wM cI ga u) sz)) 0 0 (va_A (wM cI ga u) sz) := by
  refine enterM (own := RX5) (by decide) rfl (Nat.le_of_ble_eq_true rfl) ?_
  intro p e s m args below meth c A Q hAe hQ S hr hlocks hP hK hN hD hA hS ls hl
  rw [hAe] at hQ
  have hx := S.1; have hb := S.2.1; have hml := S.2.2.1; have hown := S.2.2.2.1; have hq := S.2.2.2.2
  have hl : lv_has ls 3 [(0, .ref (ga 0)), (1, .int p0)] := hl
  have h := hf
  unfold fX5_takesRow at h
  have L11 : ∀ (n9 : Nat) (a9 : TM × Int32 × Int32) (b9 : TM), itr (fun a : TM × Int32 × Int32 => fX5_takesRow_s11 a.1 a.2.1 a.2.2) n9 a9 = some b9 → (fun b : TM => ∀ (H : Heap) (locs : List Loc), va_P G vwCl (wM cI ga b) H → va_D A (wM cI ga b) → va_S A s.heap H locs → ∀ ls : Array Slot, lv_has ls 3 [] → W p l e rmX5_takesRow s m args below meth c H locs 0 0 Q (F0 m 37 ls [])) b9 → (fun a : TM × Int32 × Int32 => ∀ (H : Heap) (locs : List Loc), va_P G vwCl (wM cI ga a.1) H → va_D A (wM cI ga a.1) → va_S A s.heap H locs → ∀ ls : Array Slot, lv_has ls 3 [(0, .ref (ga 0)), (1, .int a.2.1), (2, .int a.2.2)] → W p l e rmX5_takesRow s m args below meth c H locs 0 0 Q (F0 m 11 ls [])) a9 := by
    refine itr_ind (Inv := (fun a : TM × Int32 × Int32 => ∀ (H : Heap) (locs : List Loc), va_P G vwCl (wM cI ga a.1) H → va_D A (wM cI ga a.1) → va_S A s.heap H locs → ∀ ls : Array Slot, lv_has ls 3 [(0, .ref (ga 0)), (1, .int a.2.1), (2, .int a.2.2)] → W p l e rmX5_takesRow s m args below meth c H locs 0 0 Q (F0 m 11 ls []))) (Ex := (fun b : TM => ∀ (H : Heap) (locs : List Loc), va_P G vwCl (wM cI ga b) H → va_D A (wM cI ga b) → va_S A s.heap H locs → ∀ ls : Array Slot, lv_has ls 3 [] → W p l e rmX5_takesRow s m args below meth c H locs 0 0 Q (F0 m 37 ls []))) ?_
    rintro ⟨u, x1, x2⟩ z h hI hE
    have h : fX5_takesRow_s11 u x1 x2 = some z := h
    unfold fX5_takesRow_s11 at h
    show ∀ (H : Heap) (locs : List Loc), va_P G vwCl (wM cI ga u) H → va_D A (wM cI ga u) → va_S A s.heap H locs → ∀ ls : Array Slot, lv_has ls 3 [(0, .ref (ga 0)), (1, .int x1), (2, .int x2)] → W p l e rmX5_takesRow s m args below meth c H locs 0 0 Q (F0 m 11 ls [])
    intro H locs hP hD hS ls hl
    refine lv_iload_n hx hb dX5_takesRow_11 rfl (lv_at hl 2 rfl) ?_
    refine lv_aload_n hx hb dX5_takesRow_12 rfl (lv_at hl 0 rfl) ?_
    refine gf_X5_85 S hK hN hP 0 rfl (v := .int u.1.2.2.2.1) rfl dX5_takesRow_13 ?_
    refine lv_icmp_ge (tgt := 37) hx hb dX5_takesRow_16 (by decide) (fun c1 => ?_) (fun c1 => ?_)
    · have h := (if_pos c1).symm.trans h
      exact hE _ (Option.some.inj h) _ _ hP hD hS _ (lv_sub hl [] rfl)
    · have h := (if_neg c1).symm.trans h
      refine lv_aload_n hx hb dX5_takesRow_19 rfl (lv_at hl 0 rfl) ?_
      refine gf_X5_16 S hK hN hP 0 rfl (v := .ref (ga 3)) rfl dX5_takesRow_20 ?_
      refine lv_iload_n hx hb dX5_takesRow_23 rfl (lv_at hl 2 rfl) ?_
      refine lv_aload_n hx hb dX5_takesRow_24 rfl (lv_at hl 0 rfl) ?_
      refine lv_iload_n hx hb dX5_takesRow_25 rfl (lv_at hl 1 rfl) ?_
      refine lv_iload_n hx hb dX5_takesRow_26 rfl (lv_at hl 2 rfl) ?_
      obtain ⟨z2, e_z2, h⟩ := bnd h
      refine roI (cc_X5_134 ga S hK hN hP e_z2 hl.1 (Nat.le_of_ble_eq_true rfl) ⟨Nat.le_of_ble_eq_true rfl, Nat.le_of_ble_eq_true rfl⟩ dX5_takesRow_27 ⟨Nat.le_of_ble_eq_true rfl, Nat.le_of_ble_eq_true rfl⟩) ?_
      obtain ⟨z3, e_z3, h⟩ := bnd h
      refine iaS (f := u.2.2.2.1) hx hb hK hP hD hS 3 0 rfl rfl e_z3 dX5_takesRow_30 (fun H locs hP hD hS => ?_)
      have hP : va_P G vwCl (wM cI ga (u.1, u.2.1, u.2.2.1, z3, u.2.2.2.2)) H := hP
      have hD : va_D A (wM cI ga (u.1, u.2.1, u.2.2.1, z3, u.2.2.2.2)) := hD
      refine lv_iinc (v := (x2 + 1)) (lv' := [(2, .int (x2 + 1)), (0, .ref (ga 0)), (1, .int x1)]) hx hb dX5_takesRow_31 hl (k := 2) rfl rfl (by decide) rfl (fun ls hl => ?_)
      refine lv_goto (tgt := 11) hx hb dX5_takesRow_34 (by decide) ?_
      exact hI _ (Option.some.inj h) _ _ hP hD hS _ (lv_sub hl [1, 2, 0] rfl)
  refine lv_aload_n hx hb dX5_takesRow_0 rfl (lv_at hl 0 rfl) ?_
  refine lv_aload_n hx hb dX5_takesRow_1 rfl (lv_at hl 0 rfl) ?_
  refine lv_iload_n hx hb dX5_takesRow_2 rfl (lv_at hl 1 rfl) ?_
  obtain ⟨z4, e_z4, h⟩ := bnd h
  refine roI (cc_X5_128 ga S hK hN hP e_z4 hl.1 (Nat.le_of_ble_eq_true rfl) ⟨Nat.le_of_ble_eq_true rfl, Nat.le_of_ble_eq_true rfl⟩ dX5_takesRow_3 ⟨Nat.le_of_ble_eq_true rfl, Nat.le_of_ble_eq_true rfl⟩) ?_
  refine pf_X5_85 S hK hN hP hD hS 0 rfl (Nat.le_of_ble_eq_true rfl) dX5_takesRow_6 (fun H locs hP hD hS => ?_)
  have hP : va_P G vwCl (wM cI ga ((u.1.1, u.1.2.1, u.1.2.2.1, z4, u.1.2.2.2.2), u.2)) H := hP
  have hD : va_D A (wM cI ga ((u.1.1, u.1.2.1, u.1.2.2.1, z4, u.1.2.2.2.2), u.2)) := hD
  refine lv_iconst (v := 0) hx hb dX5_takesRow_9 (by decide) ?_
  refine lv_istore_n (lv' := [(2, .int (0 : Int32)), (0, .ref (ga 0)), (1, .int p0)]) hx hb dX5_takesRow_10 rfl hl (by decide) rfl (fun ls hl => ?_)
  obtain ⟨b5, e_b5, h⟩ := bnd h
  refine L11 _ _ _ e_b5 ?_ _ _ hP hD hS _ (lv_sub hl [1, 2, 0] rfl)
  intro H locs hP hD hS ls hl
  exact retMv hQ S hr hlocks hK hN hP hD hS h dX5_takesRow_37

theorem cc_X5_131 {p : Program} {l : Launch} {e : Env} {R : Room} {s : State} {m : MethodId} {args : Array Value} {below : List Frame} {meth : Method} {c : Code} {H : Heap} {locs : List Loc} {cells slots : Nat} {cc : ByteArray} {pc nL : Nat} {ls : Array Slot} {rest : List Value} {G : va_G} {A : Nat → Prop} (ga : Nat → Nat) {cI cS : ClassId} {u : TM}  {p0 : Int32} {r : TM} (S : CallFix p m c cc nL s args bw RX5) (hK : va_K G vwCl (tysW cI cS) s) (hN : NW s) (hP : va_P G vwCl (wM cI ga u) H) (hD : va_D A (wM cI ga u)) (hf : fX5_takesRow u p0 = some r) (hsz : ls.size = nL) (hst : (rest.map fun v => v.category).sum ≤ 8) (hR : rmX5_takesRow.frames + 1 ≤ R.frames ∧ 8 + (3 + 11) + rmX5_takesRow.locals ≤ R.locals) (hdg : decode cc pc = .ok (.invokevirtual 131, 3)) (hcs : cells + 0 ≤ R.cells ∧ slots + 0 ≤ R.slots) : va_Run p l e R s m args below meth c H locs cells slots 0 0 (F0 m pc ls (.int p0 :: .ref (ga 0) :: rest)) rest (va_Qv (fun u' => u' = r) (PoM G (tysW cI cS) (va_A (wM cI ga u) H.size) (wM cI ga)) (va_A (wM cI ga u) H.size) (#[.ref (ga 0), .int p0] : Array Value)) (va_A (wM cI ga u) H.size) :=
  va_runV (As := [.int p0]) (rest := rest) S (kX5_takesRow l G cI cS ga H.size u p0 r hf) (cwV 1 S.2.2.2.2 (gdV q_519 q_520 q_521 q_392 q_518) rfl rfl rfl (by decide +kernel) hR) (pvM (q := (RX5, TX5, 12)) hK hN hP hD (ci := 5) (q0 := 0) rfl rfl) rfl rfl hsz rfl (lv_room hst) hdg hcs
def fX5_returnsAll_j53 (u : TM) (x1 : Int32) (x2 : Int32) : Option ((TM × Int32 × Int32) ⊕ (TM × Int32)) := some (.inl (u, x1, (x2 + 1)))
def fX5_returnsAll_s4 (u : TM) (x1 : Int32) (x2 : Int32) : Option ((TM × Int32 × Int32) ⊕ (TM × Int32)) := ((rd u.2.1 10724 (0 : Int32)).bind fun z1 => (if ((100 : Int32) * z1) ≤ x2 then some (.inr (u, x1)) else ((fX5_kindAt u x2).bind fun z3 => (if z3 = (2 : Int32) then ((fX5_lengthOf u x2).bind fun z5 => ((fX5_way u x2 z5).bind fun z6 => (if z6 = (1 : Int32) then ((fX5_takesRow u x2).bind fun z8 => ((fX5_comesHome z8 x2).bind fun z9 => fX5_returnsAll_j53 z9 (x1 + 1) x2)) else fX5_returnsAll_j53 u x1 x2))) else fX5_returnsAll_j53 u x1 x2))))
def fX5_returnsAll (u : TM) : Option (Int32 × TM) := ((itr (fun a : TM × Int32 × Int32 => fX5_returnsAll_s4 a.1 a.2.1 a.2.2) FU (u, (0 : Int32), (0 : Int32))).bind fun b10 => some (b10.2, b10.1))
abbrev rmX5_returnsAll : Room := { frames := 7, cells := 0, slots := 0, locals := 159 }
set_option maxRecDepth 100000 in
set_option maxHeartbeats 4000000 in
theorem kX5_returnsAll (l : Launch) (G : va_G) (cI cS : ClassId) (ga : Nat → Nat) (sz : Nat) (u : TM) (r : Int32 × TM) (hf : fX5_returnsAll u = some r) : Met l yX5_returnsAll (.code yX5_returnsAll cX5_returnsAll 3 (some .int) :: bw) rmX5_returnsAll (va_Pc [.ref (ga 0)] (PreM G (tysW cI cS) (wM cI ga u) sz)) (va_Qi (fun r' u' => (r', u') = r) (PoM G (tysW cI cS) (va_A (wM cI ga u) sz) (wM cI ga)) (va_A (wM cI ga u) sz)) 0 0 (va_A (wM cI ga u) sz) := by
  refine enterM (own := RX5) (by decide) rfl (Nat.le_of_ble_eq_true rfl) ?_
  intro p e s m args below meth c A Q hAe hQ S hr hlocks hP hK hN hD hA hS ls hl
  rw [hAe] at hQ
  have hx := S.1; have hb := S.2.1; have hml := S.2.2.1; have hown := S.2.2.2.1; have hq := S.2.2.2.2
  have hl : lv_has ls 3 [(0, .ref (ga 0))] := hl
  have h := hf
  unfold fX5_returnsAll at h
  have L4 : ∀ (n9 : Nat) (a9 : TM × Int32 × Int32) (b9 : TM × Int32), itr (fun a : TM × Int32 × Int32 => fX5_returnsAll_s4 a.1 a.2.1 a.2.2) n9 a9 = some b9 → (fun b : TM × Int32 => ∀ (H : Heap) (locs : List Loc), va_P G vwCl (wM cI ga b.1) H → va_D A (wM cI ga b.1) → va_S A s.heap H locs → ∀ ls : Array Slot, lv_has ls 3 [(1, .int b.2)] → W p l e rmX5_returnsAll s m args below meth c H locs 0 0 Q (F0 m 59 ls [])) b9 → (fun a : TM × Int32 × Int32 => ∀ (H : Heap) (locs : List Loc), va_P G vwCl (wM cI ga a.1) H → va_D A (wM cI ga a.1) → va_S A s.heap H locs → ∀ ls : Array Slot, lv_has ls 3 [(0, .ref (ga 0)), (1, .int a.2.1), (2, .int a.2.2)] → W p l e rmX5_returnsAll s m args below meth c H locs 0 0 Q (F0 m 4 ls [])) a9 := by
    refine itr_ind (Inv := (fun a : TM × Int32 × Int32 => ∀ (H : Heap) (locs : List Loc), va_P G vwCl (wM cI ga a.1) H → va_D A (wM cI ga a.1) → va_S A s.heap H locs → ∀ ls : Array Slot, lv_has ls 3 [(0, .ref (ga 0)), (1, .int a.2.1), (2, .int a.2.2)] → W p l e rmX5_returnsAll s m args below meth c H locs 0 0 Q (F0 m 4 ls []))) (Ex := (fun b : TM × Int32 => ∀ (H : Heap) (locs : List Loc), va_P G vwCl (wM cI ga b.1) H → va_D A (wM cI ga b.1) → va_S A s.heap H locs → ∀ ls : Array Slot, lv_has ls 3 [(1, .int b.2)] → W p l e rmX5_returnsAll s m args below meth c H locs 0 0 Q (F0 m 59 ls []))) ?_
    rintro ⟨u, x1, x2⟩ z h hI hE
    have h : fX5_returnsAll_s4 u x1 x2 = some z := h
    unfold fX5_returnsAll_s4 at h
    show ∀ (H : Heap) (locs : List Loc), va_P G vwCl (wM cI ga u) H → va_D A (wM cI ga u) → va_S A s.heap H locs → ∀ ls : Array Slot, lv_has ls 3 [(0, .ref (ga 0)), (1, .int x1), (2, .int x2)] → W p l e rmX5_returnsAll s m args below meth c H locs 0 0 Q (F0 m 4 ls [])
    have J53 : ∀ (u : TM) (x1 : Int32) (x2 : Int32) , fX5_returnsAll_j53 u x1 x2 = some z → ∀ (H : Heap) (locs : List Loc), va_P G vwCl (wM cI ga u) H → va_D A (wM cI ga u) → va_S A s.heap H locs → ∀ ls : Array Slot, lv_has ls 3 [(0, .ref (ga 0)), (1, .int x1), (2, .int x2)] → W p l e rmX5_returnsAll s m args below meth c H locs 0 0 Q (F0 m 53 ls []) := by
      intro u x1 x2 h
      unfold fX5_returnsAll_j53 at h
      intro H locs hP hD hS ls hl
      refine lv_iinc (v := (x2 + 1)) (lv' := [(2, .int (x2 + 1)), (0, .ref (ga 0)), (1, .int x1)]) hx hb dX5_returnsAll_53 hl (k := 2) rfl rfl (by decide) rfl (fun ls hl => ?_)
      refine lv_goto (tgt := 4) hx hb dX5_returnsAll_56 (by decide) ?_
      exact hI _ (Option.some.inj h) _ _ hP hD hS _ (lv_sub hl [1, 2, 0] rfl)
    intro H locs hP hD hS ls hl
    refine lv_iload_n hx hb dX5_returnsAll_4 rfl (lv_at hl 2 rfl) ?_
    refine lv_bipush (v := 100) hx hb dX5_returnsAll_5 (by decide) ?_
    refine lv_aload_n hx hb dX5_returnsAll_7 rfl (lv_at hl 0 rfl) ?_
    refine gf_X5_7 S hK hN hP 0 rfl (v := .ref (ga 1)) rfl dX5_returnsAll_8 ?_
    refine lv_iconst (v := 0) hx hb dX5_returnsAll_11 (by decide) ?_
    obtain ⟨z1, e_z1, h⟩ := bnd h
    refine iaO (f := u.2.1) hx hb hK hP 1 0 rfl rfl e_z1 dX5_returnsAll_12 ?_
    refine lv_imul hx hb dX5_returnsAll_13 ?_
    refine lv_icmp_ge (tgt := 59) hx hb dX5_returnsAll_14 (by decide) (fun c2 => ?_) (fun c2 => ?_)
    · have h := (if_pos c2).symm.trans h
      exact hE _ (Option.some.inj h) _ _ hP hD hS _ (lv_sub hl [1] rfl)
    · have h := (if_neg c2).symm.trans h
      refine lv_aload_n hx hb dX5_returnsAll_17 rfl (lv_at hl 0 rfl) ?_
      refine lv_iload_n hx hb dX5_returnsAll_18 rfl (lv_at hl 2 rfl) ?_
      obtain ⟨z3, e_z3, h⟩ := bnd h
      refine roI (cc_X5_75 ga S hK hN hP e_z3 hl.1 (Nat.le_of_ble_eq_true rfl) ⟨Nat.le_of_ble_eq_true rfl, Nat.le_of_ble_eq_true rfl⟩ dX5_returnsAll_19 ⟨Nat.le_of_ble_eq_true rfl, Nat.le_of_ble_eq_true rfl⟩) ?_
      refine lv_iconst (v := 2) hx hb dX5_returnsAll_22 (by decide) ?_
      refine lv_icmp_ne (tgt := 53) hx hb dX5_returnsAll_23 (by decide) (fun c4 => ?_) (fun c4 => ?_)
      · have h := (if_neg c4).symm.trans h
        exact J53 u x1 x2 h _ _ hP hD hS _ (lv_sub hl [0, 1, 2] rfl)
      · have h := (if_pos c4).symm.trans h
        refine lv_aload_n hx hb dX5_returnsAll_26 rfl (lv_at hl 0 rfl) ?_
        refine lv_iload_n hx hb dX5_returnsAll_27 rfl (lv_at hl 2 rfl) ?_
        refine lv_aload_n hx hb dX5_returnsAll_28 rfl (lv_at hl 0 rfl) ?_
        refine lv_iload_n hx hb dX5_returnsAll_29 rfl (lv_at hl 2 rfl) ?_
        obtain ⟨z5, e_z5, h⟩ := bnd h
        refine roI (cc_X5_128 ga S hK hN hP e_z5 hl.1 (Nat.le_of_ble_eq_true rfl) ⟨Nat.le_of_ble_eq_true rfl, Nat.le_of_ble_eq_true rfl⟩ dX5_returnsAll_30 ⟨Nat.le_of_ble_eq_true rfl, Nat.le_of_ble_eq_true rfl⟩) ?_
        obtain ⟨z6, e_z6, h⟩ := bnd h
        refine roI (cc_X5_119 ga S hK hN hP e_z6 hl.1 (Nat.le_of_ble_eq_true rfl) ⟨Nat.le_of_ble_eq_true rfl, Nat.le_of_ble_eq_true rfl⟩ dX5_returnsAll_33 ⟨Nat.le_of_ble_eq_true rfl, Nat.le_of_ble_eq_true rfl⟩) ?_
        refine lv_iconst (v := 1) hx hb dX5_returnsAll_36 (by decide) ?_
        refine lv_icmp_ne (tgt := 53) hx hb dX5_returnsAll_37 (by decide) (fun c7 => ?_) (fun c7 => ?_)
        · have h := (if_neg c7).symm.trans h
          exact J53 u x1 x2 h _ _ hP hD hS _ (lv_sub hl [0, 1, 2] rfl)
        · have h := (if_pos c7).symm.trans h
          refine lv_aload_n hx hb dX5_returnsAll_40 rfl (lv_at hl 0 rfl) ?_
          refine lv_iload_n hx hb dX5_returnsAll_41 rfl (lv_at hl 2 rfl) ?_
          obtain ⟨z8, e_z8, h⟩ := bnd h
          refine muv (cc_X5_131 ga S hK hN hP hD e_z8 hl.1 (Nat.le_of_ble_eq_true rfl) ⟨Nat.le_of_ble_eq_true rfl, Nat.le_of_ble_eq_true rfl⟩ dX5_returnsAll_42 ⟨Nat.le_of_ble_eq_true rfl, Nat.le_of_ble_eq_true rfl⟩) hS hD (va_free hD hS hA [0, 1, 2, 3, 4] rfl) (fun H locs hP hD hS => ?_)
          have hP : va_P G vwCl (wM cI ga z8) H := hP
          have hD : va_D A (wM cI ga z8) := hD
          refine lv_aload_n hx hb dX5_returnsAll_45 rfl (lv_at hl 0 rfl) ?_
          refine lv_iload_n hx hb dX5_returnsAll_46 rfl (lv_at hl 2 rfl) ?_
          obtain ⟨z9, e_z9, h⟩ := bnd h
          refine muv (cc_X5_122 ga S hK hN hP hD e_z9 hl.1 (Nat.le_of_ble_eq_true rfl) ⟨Nat.le_of_ble_eq_true rfl, Nat.le_of_ble_eq_true rfl⟩ dX5_returnsAll_47 ⟨Nat.le_of_ble_eq_true rfl, Nat.le_of_ble_eq_true rfl⟩) hS hD (va_free hD hS hA [0, 1, 2, 3, 4] rfl) (fun H locs hP hD hS => ?_)
          have hP : va_P G vwCl (wM cI ga z9) H := hP
          have hD : va_D A (wM cI ga z9) := hD
          refine lv_iinc (v := (x1 + 1)) (lv' := [(1, .int (x1 + 1)), (0, .ref (ga 0)), (2, .int x2)]) hx hb dX5_returnsAll_50 hl (k := 1) rfl rfl (by decide) rfl (fun ls hl => ?_)
          exact J53 z9 (x1 + 1) x2 h _ _ hP hD hS _ (lv_sub hl [1, 0, 2] rfl)
  refine lv_iconst (v := 0) hx hb dX5_returnsAll_0 (by decide) ?_
  refine lv_istore_n (lv' := [(1, .int (0 : Int32)), (0, .ref (ga 0))]) hx hb dX5_returnsAll_1 rfl hl (by decide) rfl (fun ls hl => ?_)
  refine lv_iconst (v := 0) hx hb dX5_returnsAll_2 (by decide) ?_
  refine lv_istore_n (lv' := [(2, .int (0 : Int32)), (1, .int (0 : Int32)), (0, .ref (ga 0))]) hx hb dX5_returnsAll_3 rfl hl (by decide) rfl (fun ls hl => ?_)
  obtain ⟨b10, e_b10, h⟩ := bnd h
  refine L4 _ _ _ e_b10 ?_ _ _ hP hD hS _ (lv_sub hl [2, 1, 0] rfl)
  intro H locs hP hD hS ls hl
  refine lv_iload_n hx hb dX5_returnsAll_59 rfl (lv_at hl 0 rfl) ?_
  exact retMi hQ S hr hlocks hK hN hP hD hS h dX5_returnsAll_60

theorem gf_X5_13 {p : Program} {l : Launch} {e : Env} {R : Room} {s : State} {m : MethodId} {args : Array Value} {below : List Frame} {meth : Method} {c : Code} {H : Heap} {locs : List Loc} {cells slots : Nat} {cc : ByteArray} {pc nL : Nat} {ls : Array Slot} {rest : List Value} {G : va_G} {Q : State → Prop} {tys : List (ClassId × FieldType)} {ws : va_W} {a : Nat} (S : CallFix p m c cc nL s args bw RX5) (hK : va_K G vwCl tys s) (hN : NW s) (hP : va_P G vwCl ws H) (q0 : Nat) {fs : List Value} (he : ws[q0]? = some (a, .inr (5, fs))) {v : Value} (hv : fs[3]? = some v) (hdg : decode cc pc = .ok (.getfield 13, 3)) (kk : W p l e R s m args below meth c H locs cells slots Q (F0 m (pc + 3) ls (v :: rest))) : W p l e R s m args below meth c H locs cells slots Q (F0 m pc ls (.ref a :: rest)) :=
  va_get (C := RX5) (T := TX5) (N := 12) S.1 S.2.1 S.2.2.2.2 bi_U5 S.2.2.2.1 hK hP q0 he rfl 3 (by decide) (S.2.2.2.2 _ q_379) (fun _ h9 => h9) hv hdg kk
def fX5_takesBuffer_s9 (u : TM) (x1 : Int32) (x3 : Int32) : Option ((TM × Int32 × Int32) ⊕ (TM)) := (if u.1.2.2.2.1 ≤ x3 then some (.inr u) else ((rd u.2.2.1 60 (x1 + x3)).bind fun z2 => ((wr u.2.2.2.1 60 x3 z2).bind fun z3 => some (.inl ((u.1, u.2.1, u.2.2.1, z3, u.2.2.2.2), x1, (x3 + 1))))))
def fX5_takesBuffer (u : TM) (p0 : Int32) (p1 : Int32) : Option (TM) := ((itr (fun a : TM × Int32 × Int32 => fX5_takesBuffer_s9 a.1 a.2.1 a.2.2) FU (((u.1.1, u.1.2.1, u.1.2.2.1, (p1 - p0), u.1.2.2.2.2), u.2), p0, (0 : Int32))).bind fun b4 => some b4)
abbrev rmX5_takesBuffer : Room := { frames := 0, cells := 0, slots := 0, locals := 0 }
set_option maxRecDepth 100000 in
set_option maxHeartbeats 4000000 in
theorem kX5_takesBuffer (l : Launch) (G : va_G) (cI cS : ClassId) (ga : Nat → Nat) (sz : Nat) (u : TM) (p0 : Int32) (p1 : Int32) (r : TM) (hf : fX5_takesBuffer u p0 p1 = some r) : Met l yX5_takesBuffer (.code yX5_takesBuffer cX5_takesBuffer 4 none :: bw) rmX5_takesBuffer (va_Pc [.ref (ga 0), .int p0, .int p1] (PreM G (tysW cI cS) (wM cI ga u) sz)) (va_Qv (fun u' => u' = r) (PoM G (tysW cI cS) (va_A (wM cI ga u) sz) (wM cI ga)) (va_A (wM cI ga u) sz)) 0 0 (va_A (wM cI ga u) sz) := by
  refine enterM (own := RX5) (by decide) rfl (Nat.le_of_ble_eq_true rfl) ?_
  intro p e s m args below meth c A Q hAe hQ S hr hlocks hP hK hN hD hA hS ls hl
  rw [hAe] at hQ
  have hx := S.1; have hb := S.2.1; have hml := S.2.2.1; have hown := S.2.2.2.1; have hq := S.2.2.2.2
  have hl : lv_has ls 4 [(0, .ref (ga 0)), (1, .int p0), (2, .int p1)] := hl
  have h := hf
  unfold fX5_takesBuffer at h
  have L9 : ∀ (n9 : Nat) (a9 : TM × Int32 × Int32) (b9 : TM), itr (fun a : TM × Int32 × Int32 => fX5_takesBuffer_s9 a.1 a.2.1 a.2.2) n9 a9 = some b9 → (fun b : TM => ∀ (H : Heap) (locs : List Loc), va_P G vwCl (wM cI ga b) H → va_D A (wM cI ga b) → va_S A s.heap H locs → ∀ ls : Array Slot, lv_has ls 4 [] → W p l e rmX5_takesBuffer s m args below meth c H locs 0 0 Q (F0 m 37 ls [])) b9 → (fun a : TM × Int32 × Int32 => ∀ (H : Heap) (locs : List Loc), va_P G vwCl (wM cI ga a.1) H → va_D A (wM cI ga a.1) → va_S A s.heap H locs → ∀ ls : Array Slot, lv_has ls 4 [(0, .ref (ga 0)), (1, .int a.2.1), (3, .int a.2.2)] → W p l e rmX5_takesBuffer s m args below meth c H locs 0 0 Q (F0 m 9 ls [])) a9 := by
    refine itr_ind (Inv := (fun a : TM × Int32 × Int32 => ∀ (H : Heap) (locs : List Loc), va_P G vwCl (wM cI ga a.1) H → va_D A (wM cI ga a.1) → va_S A s.heap H locs → ∀ ls : Array Slot, lv_has ls 4 [(0, .ref (ga 0)), (1, .int a.2.1), (3, .int a.2.2)] → W p l e rmX5_takesBuffer s m args below meth c H locs 0 0 Q (F0 m 9 ls []))) (Ex := (fun b : TM => ∀ (H : Heap) (locs : List Loc), va_P G vwCl (wM cI ga b) H → va_D A (wM cI ga b) → va_S A s.heap H locs → ∀ ls : Array Slot, lv_has ls 4 [] → W p l e rmX5_takesBuffer s m args below meth c H locs 0 0 Q (F0 m 37 ls []))) ?_
    rintro ⟨u, x1, x3⟩ z h hI hE
    have h : fX5_takesBuffer_s9 u x1 x3 = some z := h
    unfold fX5_takesBuffer_s9 at h
    show ∀ (H : Heap) (locs : List Loc), va_P G vwCl (wM cI ga u) H → va_D A (wM cI ga u) → va_S A s.heap H locs → ∀ ls : Array Slot, lv_has ls 4 [(0, .ref (ga 0)), (1, .int x1), (3, .int x3)] → W p l e rmX5_takesBuffer s m args below meth c H locs 0 0 Q (F0 m 9 ls [])
    intro H locs hP hD hS ls hl
    refine lv_iload_n hx hb dX5_takesBuffer_9 rfl (lv_at hl 2 rfl) ?_
    refine lv_aload_n hx hb dX5_takesBuffer_10 rfl (lv_at hl 0 rfl) ?_
    refine gf_X5_85 S hK hN hP 0 rfl (v := .int u.1.2.2.2.1) rfl dX5_takesBuffer_11 ?_
    refine lv_icmp_ge (tgt := 37) hx hb dX5_takesBuffer_14 (by decide) (fun c1 => ?_) (fun c1 => ?_)
    · have h := (if_pos c1).symm.trans h
      exact hE _ (Option.some.inj h) _ _ hP hD hS _ (lv_sub hl [] rfl)
    · have h := (if_neg c1).symm.trans h
      refine lv_aload_n hx hb dX5_takesBuffer_17 rfl (lv_at hl 0 rfl) ?_
      refine gf_X5_16 S hK hN hP 0 rfl (v := .ref (ga 3)) rfl dX5_takesBuffer_18 ?_
      refine lv_iload_n hx hb dX5_takesBuffer_21 rfl (lv_at hl 2 rfl) ?_
      refine lv_aload_n hx hb dX5_takesBuffer_22 rfl (lv_at hl 0 rfl) ?_
      refine gf_X5_13 S hK hN hP 0 rfl (v := .ref (ga 2)) rfl dX5_takesBuffer_23 ?_
      refine lv_iload_n hx hb dX5_takesBuffer_26 rfl (lv_at hl 1 rfl) ?_
      refine lv_iload_n hx hb dX5_takesBuffer_27 rfl (lv_at hl 2 rfl) ?_
      refine lv_iadd hx hb dX5_takesBuffer_28 ?_
      obtain ⟨z2, e_z2, h⟩ := bnd h
      refine iaO (f := u.2.2.1) hx hb hK hP 2 0 rfl rfl e_z2 dX5_takesBuffer_29 ?_
      obtain ⟨z3, e_z3, h⟩ := bnd h
      refine iaS (f := u.2.2.2.1) hx hb hK hP hD hS 3 0 rfl rfl e_z3 dX5_takesBuffer_30 (fun H locs hP hD hS => ?_)
      have hP : va_P G vwCl (wM cI ga (u.1, u.2.1, u.2.2.1, z3, u.2.2.2.2)) H := hP
      have hD : va_D A (wM cI ga (u.1, u.2.1, u.2.2.1, z3, u.2.2.2.2)) := hD
      refine lv_iinc (v := (x3 + 1)) (lv' := [(3, .int (x3 + 1)), (0, .ref (ga 0)), (1, .int x1)]) hx hb dX5_takesBuffer_31 hl (k := 2) rfl rfl (by decide) rfl (fun ls hl => ?_)
      refine lv_goto (tgt := 9) hx hb dX5_takesBuffer_34 (by decide) ?_
      exact hI _ (Option.some.inj h) _ _ hP hD hS _ (lv_sub hl [1, 2, 0] rfl)
  refine lv_aload_n hx hb dX5_takesBuffer_0 rfl (lv_at hl 0 rfl) ?_
  refine lv_iload_n hx hb dX5_takesBuffer_1 rfl (lv_at hl 2 rfl) ?_
  refine lv_iload_n hx hb dX5_takesBuffer_2 rfl (lv_at hl 1 rfl) ?_
  refine lv_isub hx hb dX5_takesBuffer_3 ?_
  refine pf_X5_85 S hK hN hP hD hS 0 rfl (Nat.le_of_ble_eq_true rfl) dX5_takesBuffer_4 (fun H locs hP hD hS => ?_)
  have hP : va_P G vwCl (wM cI ga ((u.1.1, u.1.2.1, u.1.2.2.1, (p1 - p0), u.1.2.2.2.2), u.2)) H := hP
  have hD : va_D A (wM cI ga ((u.1.1, u.1.2.1, u.1.2.2.1, (p1 - p0), u.1.2.2.2.2), u.2)) := hD
  refine lv_iconst (v := 0) hx hb dX5_takesBuffer_7 (by decide) ?_
  refine lv_istore_n (lv' := [(3, .int (0 : Int32)), (0, .ref (ga 0)), (1, .int p0), (2, .int p1)]) hx hb dX5_takesBuffer_8 rfl hl (by decide) rfl (fun ls hl => ?_)
  obtain ⟨b4, e_b4, h⟩ := bnd h
  refine L9 _ _ _ e_b4 ?_ _ _ hP hD hS _ (lv_sub hl [1, 2, 0] rfl)
  intro H locs hP hD hS ls hl
  exact retMv hQ S hr hlocks hK hN hP hD hS h dX5_takesBuffer_37

def fX5_copies_s2 (u : TM) (x1 : Int32) (x2 : Int32) (x3 : Int32) : Option ((TM × Int32 × Int32 × Int32) ⊕ (TM)) := (if (1532 : Int32) ≤ x3 then some (.inr u) else ((rd u.2.1 10724 (((1532 : Int32) * x1) + x3)).bind fun z2 => ((wr u.2.1 10724 (((1532 : Int32) * x2) + x3) z2).bind fun z3 => some (.inl ((u.1, z3, u.2.2), x1, x2, (x3 + 1))))))
def fX5_copies (u : TM) (p0 : Int32) (p1 : Int32) : Option (TM) := ((itr (fun a : TM × Int32 × Int32 × Int32 => fX5_copies_s2 a.1 a.2.1 a.2.2.1 a.2.2.2) FU (u, p0, p1, (0 : Int32))).bind fun b4 => some b4)
abbrev rmX5_copies : Room := { frames := 0, cells := 0, slots := 0, locals := 0 }
set_option maxRecDepth 100000 in
set_option maxHeartbeats 4000000 in
theorem kX5_copies (l : Launch) (G : va_G) (cI cS : ClassId) (ga : Nat → Nat) (sz : Nat) (u : TM) (p0 : Int32) (p1 : Int32) (r : TM) (hf : fX5_copies u p0 p1 = some r) : Met l yX5_copies (.code yX5_copies cX5_copies 4 none :: bw) rmX5_copies (va_Pc [.ref (ga 0), .int p0, .int p1] (PreM G (tysW cI cS) (wM cI ga u) sz)) (va_Qv (fun u' => u' = r) (PoM G (tysW cI cS) (va_A (wM cI ga u) sz) (wM cI ga)) (va_A (wM cI ga u) sz)) 0 0 (va_A (wM cI ga u) sz) := by
  refine enterM (own := RX5) (by decide) rfl (Nat.le_of_ble_eq_true rfl) ?_
  intro p e s m args below meth c A Q hAe hQ S hr hlocks hP hK hN hD hA hS ls hl
  rw [hAe] at hQ
  have hx := S.1; have hb := S.2.1; have hml := S.2.2.1; have hown := S.2.2.2.1; have hq := S.2.2.2.2
  have hl : lv_has ls 4 [(0, .ref (ga 0)), (1, .int p0), (2, .int p1)] := hl
  have h := hf
  unfold fX5_copies at h
  have L2 : ∀ (n9 : Nat) (a9 : TM × Int32 × Int32 × Int32) (b9 : TM), itr (fun a : TM × Int32 × Int32 × Int32 => fX5_copies_s2 a.1 a.2.1 a.2.2.1 a.2.2.2) n9 a9 = some b9 → (fun b : TM => ∀ (H : Heap) (locs : List Loc), va_P G vwCl (wM cI ga b) H → va_D A (wM cI ga b) → va_S A s.heap H locs → ∀ ls : Array Slot, lv_has ls 4 [] → W p l e rmX5_copies s m args below meth c H locs 0 0 Q (F0 m 39 ls [])) b9 → (fun a : TM × Int32 × Int32 × Int32 => ∀ (H : Heap) (locs : List Loc), va_P G vwCl (wM cI ga a.1) H → va_D A (wM cI ga a.1) → va_S A s.heap H locs → ∀ ls : Array Slot, lv_has ls 4 [(0, .ref (ga 0)), (1, .int a.2.1), (2, .int a.2.2.1), (3, .int a.2.2.2)] → W p l e rmX5_copies s m args below meth c H locs 0 0 Q (F0 m 2 ls [])) a9 := by
    refine itr_ind (Inv := (fun a : TM × Int32 × Int32 × Int32 => ∀ (H : Heap) (locs : List Loc), va_P G vwCl (wM cI ga a.1) H → va_D A (wM cI ga a.1) → va_S A s.heap H locs → ∀ ls : Array Slot, lv_has ls 4 [(0, .ref (ga 0)), (1, .int a.2.1), (2, .int a.2.2.1), (3, .int a.2.2.2)] → W p l e rmX5_copies s m args below meth c H locs 0 0 Q (F0 m 2 ls []))) (Ex := (fun b : TM => ∀ (H : Heap) (locs : List Loc), va_P G vwCl (wM cI ga b) H → va_D A (wM cI ga b) → va_S A s.heap H locs → ∀ ls : Array Slot, lv_has ls 4 [] → W p l e rmX5_copies s m args below meth c H locs 0 0 Q (F0 m 39 ls []))) ?_
    rintro ⟨u, x1, x2, x3⟩ z h hI hE
    have h : fX5_copies_s2 u x1 x2 x3 = some z := h
    unfold fX5_copies_s2 at h
    show ∀ (H : Heap) (locs : List Loc), va_P G vwCl (wM cI ga u) H → va_D A (wM cI ga u) → va_S A s.heap H locs → ∀ ls : Array Slot, lv_has ls 4 [(0, .ref (ga 0)), (1, .int x1), (2, .int x2), (3, .int x3)] → W p l e rmX5_copies s m args below meth c H locs 0 0 Q (F0 m 2 ls [])
    intro H locs hP hD hS ls hl
    refine lv_iload_n hx hb dX5_copies_2 rfl (lv_at hl 3 rfl) ?_
    refine lv_sipush (v := 1532) hx hb dX5_copies_3 (by decide) ?_
    refine lv_icmp_ge (tgt := 39) hx hb dX5_copies_6 (by decide) (fun c1 => ?_) (fun c1 => ?_)
    · have h := (if_pos c1).symm.trans h
      exact hE _ (Option.some.inj h) _ _ hP hD hS _ (lv_sub hl [] rfl)
    · have h := (if_neg c1).symm.trans h
      refine lv_aload_n hx hb dX5_copies_9 rfl (lv_at hl 0 rfl) ?_
      refine gf_X5_7 S hK hN hP 0 rfl (v := .ref (ga 1)) rfl dX5_copies_10 ?_
      refine lv_sipush (v := 1532) hx hb dX5_copies_13 (by decide) ?_
      refine lv_iload_n hx hb dX5_copies_16 rfl (lv_at hl 2 rfl) ?_
      refine lv_imul hx hb dX5_copies_17 ?_
      refine lv_iload_n hx hb dX5_copies_18 rfl (lv_at hl 3 rfl) ?_
      refine lv_iadd hx hb dX5_copies_19 ?_
      refine lv_aload_n hx hb dX5_copies_20 rfl (lv_at hl 0 rfl) ?_
      refine gf_X5_7 S hK hN hP 0 rfl (v := .ref (ga 1)) rfl dX5_copies_21 ?_
      refine lv_sipush (v := 1532) hx hb dX5_copies_24 (by decide) ?_
      refine lv_iload_n hx hb dX5_copies_27 rfl (lv_at hl 1 rfl) ?_
      refine lv_imul hx hb dX5_copies_28 ?_
      refine lv_iload_n hx hb dX5_copies_29 rfl (lv_at hl 3 rfl) ?_
      refine lv_iadd hx hb dX5_copies_30 ?_
      obtain ⟨z2, e_z2, h⟩ := bnd h
      refine iaO (f := u.2.1) hx hb hK hP 1 0 rfl rfl e_z2 dX5_copies_31 ?_
      obtain ⟨z3, e_z3, h⟩ := bnd h
      refine iaS (f := u.2.1) hx hb hK hP hD hS 1 0 rfl rfl e_z3 dX5_copies_32 (fun H locs hP hD hS => ?_)
      have hP : va_P G vwCl (wM cI ga (u.1, z3, u.2.2)) H := hP
      have hD : va_D A (wM cI ga (u.1, z3, u.2.2)) := hD
      refine lv_iinc (v := (x3 + 1)) (lv' := [(3, .int (x3 + 1)), (0, .ref (ga 0)), (1, .int x1), (2, .int x2)]) hx hb dX5_copies_33 hl (k := 3) rfl rfl (by decide) rfl (fun ls hl => ?_)
      refine lv_goto (tgt := 2) hx hb dX5_copies_36 (by decide) ?_
      exact hI _ (Option.some.inj h) _ _ hP hD hS _ (lv_sub hl [1, 2, 3, 0] rfl)
  refine lv_iconst (v := 0) hx hb dX5_copies_0 (by decide) ?_
  refine lv_istore_n (lv' := [(3, .int (0 : Int32)), (0, .ref (ga 0)), (1, .int p0), (2, .int p1)]) hx hb dX5_copies_1 rfl hl (by decide) rfl (fun ls hl => ?_)
  obtain ⟨b4, e_b4, h⟩ := bnd h
  refine L2 _ _ _ e_b4 ?_ _ _ hP hD hS _ (lv_sub hl [1, 2, 3, 0] rfl)
  intro H locs hP hD hS ls hl
  exact retMv hQ S hr hlocks hK hN hP hD hS h dX5_copies_39

theorem cc_X5_140 {p : Program} {l : Launch} {e : Env} {R : Room} {s : State} {m : MethodId} {args : Array Value} {below : List Frame} {meth : Method} {c : Code} {H : Heap} {locs : List Loc} {cells slots : Nat} {cc : ByteArray} {pc nL : Nat} {ls : Array Slot} {rest : List Value} {G : va_G} {A : Nat → Prop} (ga : Nat → Nat) {cI cS : ClassId} {u : TM}  {p0 : Int32} {p1 : Int32} {r : TM} (S : CallFix p m c cc nL s args bw RX5) (hK : va_K G vwCl (tysW cI cS) s) (hN : NW s) (hP : va_P G vwCl (wM cI ga u) H) (hD : va_D A (wM cI ga u)) (hf : fX5_copies u p0 p1 = some r) (hsz : ls.size = nL) (hst : (rest.map fun v => v.category).sum ≤ 8) (hR : rmX5_copies.frames + 1 ≤ R.frames ∧ 8 + (4 + 11) + rmX5_copies.locals ≤ R.locals) (hdg : decode cc pc = .ok (.invokevirtual 140, 3)) (hcs : cells + 0 ≤ R.cells ∧ slots + 0 ≤ R.slots) : va_Run p l e R s m args below meth c H locs cells slots 0 0 (F0 m pc ls (.int p1 :: .int p0 :: .ref (ga 0) :: rest)) rest (va_Qv (fun u' => u' = r) (PoM G (tysW cI cS) (va_A (wM cI ga u) H.size) (wM cI ga)) (va_A (wM cI ga u) H.size) (#[.ref (ga 0), .int p0, .int p1] : Array Value)) (va_A (wM cI ga u) H.size) :=
  va_runV (As := [.int p0, .int p1]) (rest := rest) S (kX5_copies l G cI cS ga H.size u p0 p1 r hf) (cwV 2 S.2.2.2.2 (gdV q_527 q_528 q_529 q_392 q_524) rfl rfl rfl (by decide +kernel) hR) (pvM (q := (RX5, TX5, 12)) hK hN hP hD (ci := 5) (q0 := 0) rfl rfl) rfl rfl hsz rfl (lv_room hst) hdg hcs
theorem gf_X5_137 {p : Program} {l : Launch} {e : Env} {R : Room} {s : State} {m : MethodId} {args : Array Value} {below : List Frame} {meth : Method} {c : Code} {H : Heap} {locs : List Loc} {cells slots : Nat} {cc : ByteArray} {pc nL : Nat} {ls : Array Slot} {rest : List Value} {G : va_G} {Q : State → Prop} {tys : List (ClassId × FieldType)} {ws : va_W} {a : Nat} (S : CallFix p m c cc nL s args bw RX5) (hK : va_K G vwCl tys s) (hN : NW s) (hP : va_P G vwCl ws H) (q0 : Nat) {fs : List Value} (he : ws[q0]? = some (a, .inr (5, fs))) {v : Value} (hv : fs[2]? = some v) (hdg : decode cc pc = .ok (.getfield 137, 3)) (kk : W p l e R s m args below meth c H locs cells slots Q (F0 m (pc + 3) ls (v :: rest))) : W p l e R s m args below meth c H locs cells slots Q (F0 m pc ls (.ref a :: rest)) :=
  va_get (C := RX5) (T := TX5) (N := 12) S.1 S.2.1 S.2.2.2.2 bi_U5 S.2.2.2.1 hK hP q0 he rfl 2 (by decide) (S.2.2.2.2 _ q_526) (fun _ h9 => h9) hv hdg kk
theorem pf_X5_137 {p : Program} {l : Launch} {e : Env} {R : Room} {s : State} {m : MethodId} {args : Array Value} {below : List Frame} {meth : Method} {c : Code} {H : Heap} {locs : List Loc} {cells slots : Nat} {cc : ByteArray} {pc nL : Nat} {ls : Array Slot} {rest : List Value} {G : va_G} {Q : State → Prop} {tys : List (ClassId × FieldType)} {ws : va_W} {a : Nat} {A : Nat → Prop} {H0 : Heap} {x : Int32} (S : CallFix p m c cc nL s args bw RX5) (hK : va_K G vwCl tys s) (hN : NW s) (hP : va_P G vwCl ws H) (hD : va_D A ws) (hS : va_S A H0 H locs) (q0 : Nat) {fs : List Value} (he : ws[q0]? = some (a, .inr (5, fs))) (hl : 2 < fs.length) (hdg : decode cc pc = .ok (.putfield 137, 3)) (kk : ∀ (H1 : Heap) (locs1 : List Loc), va_P G vwCl (ws.set q0 (a, .inr (5, fs.set 2 (.int x)))) H1 → va_D A (ws.set q0 (a, .inr (5, fs.set 2 (.int x)))) → va_S A H0 H1 locs1 → W p l e R s m args below meth c H1 locs1 cells slots Q (F0 m (pc + 3) ls rest)) : W p l e R s m args below meth c H locs cells slots Q (F0 m pc ls (.int x :: .ref a :: rest)) :=
  va_put (ty := .int) (v := .int x) (C := RX5) (T := TX5) (N := 12) S.1 S.2.1 S.2.2.2.2 bi_U5 tyX5 tyX5_ok nmX5 S.2.2.2.1 hK hP hD hS q0 he rfl 2 (by decide) (S.2.2.2.2 _ q_526) (fun _ h9 => h9) rfl rfl rfl rfl hl hdg kk
def fX5_save_j50 (u : TM) (t0 : Int32) (t1 : Int32) : Option (TM) := ((fX5_copies ((u.1.1, (t1 + t0), u.1.2.2), u.2) (0 : Int32) (t1 + t0)).bind fun z1 => some z1)
def fX5_save_j31 (u : TM) : Option (TM) := (if (6 : Int32) ≤ u.1.2.1 then fX5_save_j50 u (0 : Int32) u.1.2.1 else fX5_save_j50 u (1 : Int32) u.1.2.1)
def fX5_save_s2 (u : TM) (x1 : Int32) : Option ((TM × Int32) ⊕ (TM)) := (if (6 : Int32) ≤ x1 then some (.inr u) else (if u.1.2.1 = (6 : Int32) then ((fX5_copies u (x1 + (1 : Int32)) x1).bind fun z5 => some (.inl (z5, (x1 + 1)))) else some (.inr u)))
def fX5_save (u : TM) : Option (TM) := ((itr (fun a : TM × Int32 => fX5_save_s2 a.1 a.2) FU (u, (1 : Int32))).bind fun b6 => fX5_save_j31 b6)
abbrev rmX5_save : Room := { frames := 1, cells := 0, slots := 0, locals := 23 }
set_option maxRecDepth 100000 in
set_option maxHeartbeats 4000000 in
theorem kX5_save (l : Launch) (G : va_G) (cI cS : ClassId) (ga : Nat → Nat) (sz : Nat) (u : TM) (r : TM) (hf : fX5_save u = some r) : Met l yX5_save (.code yX5_save cX5_save 2 none :: bw) rmX5_save (va_Pc [.ref (ga 0)] (PreM G (tysW cI cS) (wM cI ga u) sz)) (va_Qv (fun u' => u' = r) (PoM G (tysW cI cS) (va_A (wM cI ga u) sz) (wM cI ga)) (va_A (wM cI ga u) sz)) 0 0 (va_A (wM cI ga u) sz) := by
  refine enterM (own := RX5) (by decide) rfl (Nat.le_of_ble_eq_true rfl) ?_
  intro p e s m args below meth c A Q hAe hQ S hr hlocks hP hK hN hD hA hS ls hl
  rw [hAe] at hQ
  have hx := S.1; have hb := S.2.1; have hml := S.2.2.1; have hown := S.2.2.2.1; have hq := S.2.2.2.2
  have hl : lv_has ls 2 [(0, .ref (ga 0))] := hl
  have h := hf
  unfold fX5_save at h
  have J50 : ∀ (u : TM) (t0 : Int32) (t1 : Int32) , fX5_save_j50 u t0 t1 = some r → ∀ (H : Heap) (locs : List Loc), va_P G vwCl (wM cI ga u) H → va_D A (wM cI ga u) → va_S A s.heap H locs → ∀ ls : Array Slot, lv_has ls 2 [(0, .ref (ga 0))] → W p l e rmX5_save s m args below meth c H locs 0 0 Q (F0 m 50 ls [.int t0, .int t1, .ref (ga 0)]) := by
    intro u t0 t1 h
    unfold fX5_save_j50 at h
    intro H locs hP hD hS ls hl
    refine lv_iadd hx hb dX5_save_50 ?_
    refine pf_X5_137 S hK hN hP hD hS 0 rfl (Nat.le_of_ble_eq_true rfl) dX5_save_51 (fun H locs hP hD hS => ?_)
    have hP : va_P G vwCl (wM cI ga ((u.1.1, (t1 + t0), u.1.2.2), u.2)) H := hP
    have hD : va_D A (wM cI ga ((u.1.1, (t1 + t0), u.1.2.2), u.2)) := hD
    refine lv_aload_n hx hb dX5_save_54 rfl (lv_at hl 0 rfl) ?_
    refine lv_iconst (v := 0) hx hb dX5_save_55 (by decide) ?_
    refine lv_aload_n hx hb dX5_save_56 rfl (lv_at hl 0 rfl) ?_
    refine gf_X5_137 S hK hN hP 0 rfl (v := .int (t1 + t0)) rfl dX5_save_57 ?_
    obtain ⟨z1, e_z1, h⟩ := bnd h
    refine muv (cc_X5_140 ga S hK hN hP hD e_z1 hl.1 (Nat.le_of_ble_eq_true rfl) ⟨Nat.le_of_ble_eq_true rfl, Nat.le_of_ble_eq_true rfl⟩ dX5_save_60 ⟨Nat.le_of_ble_eq_true rfl, Nat.le_of_ble_eq_true rfl⟩) hS hD (va_free hD hS hA [0, 1, 2, 3, 4] rfl) (fun H locs hP hD hS => ?_)
    have hP : va_P G vwCl (wM cI ga z1) H := hP
    have hD : va_D A (wM cI ga z1) := hD
    exact retMv hQ S hr hlocks hK hN hP hD hS h dX5_save_63
  have J31 : ∀ (u : TM) , fX5_save_j31 u = some r → ∀ (H : Heap) (locs : List Loc), va_P G vwCl (wM cI ga u) H → va_D A (wM cI ga u) → va_S A s.heap H locs → ∀ ls : Array Slot, lv_has ls 2 [(0, .ref (ga 0))] → W p l e rmX5_save s m args below meth c H locs 0 0 Q (F0 m 31 ls []) := by
    intro u h
    unfold fX5_save_j31 at h
    intro H locs hP hD hS ls hl
    refine lv_aload_n hx hb dX5_save_31 rfl (lv_at hl 0 rfl) ?_
    refine lv_dup hx hb dX5_save_32 rfl ?_
    refine gf_X5_137 S hK hN hP 0 rfl (v := .int u.1.2.1) rfl dX5_save_33 ?_
    refine lv_aload_n hx hb dX5_save_36 rfl (lv_at hl 0 rfl) ?_
    refine gf_X5_137 S hK hN hP 0 rfl (v := .int u.1.2.1) rfl dX5_save_37 ?_
    refine lv_bipush (v := 6) hx hb dX5_save_40 (by decide) ?_
    refine lv_icmp_ge (tgt := 49) hx hb dX5_save_42 (by decide) (fun c2 => ?_) (fun c2 => ?_)
    · have h := (if_pos c2).symm.trans h
      refine lv_iconst (v := 0) hx hb dX5_save_49 (by decide) ?_
      exact J50 u (0 : Int32) u.1.2.1 h _ _ hP hD hS _ (lv_sub hl [0] rfl)
    · have h := (if_neg c2).symm.trans h
      refine lv_iconst (v := 1) hx hb dX5_save_45 (by decide) ?_
      refine lv_goto (tgt := 50) hx hb dX5_save_46 (by decide) ?_
      exact J50 u (1 : Int32) u.1.2.1 h _ _ hP hD hS _ (lv_sub hl [0] rfl)
  have L2 : ∀ (n9 : Nat) (a9 : TM × Int32) (b9 : TM), itr (fun a : TM × Int32 => fX5_save_s2 a.1 a.2) n9 a9 = some b9 → (fun b : TM => ∀ (H : Heap) (locs : List Loc), va_P G vwCl (wM cI ga b) H → va_D A (wM cI ga b) → va_S A s.heap H locs → ∀ ls : Array Slot, lv_has ls 2 [(0, .ref (ga 0))] → W p l e rmX5_save s m args below meth c H locs 0 0 Q (F0 m 31 ls [])) b9 → (fun a : TM × Int32 => ∀ (H : Heap) (locs : List Loc), va_P G vwCl (wM cI ga a.1) H → va_D A (wM cI ga a.1) → va_S A s.heap H locs → ∀ ls : Array Slot, lv_has ls 2 [(0, .ref (ga 0)), (1, .int a.2)] → W p l e rmX5_save s m args below meth c H locs 0 0 Q (F0 m 2 ls [])) a9 := by
    refine itr_ind (Inv := (fun a : TM × Int32 => ∀ (H : Heap) (locs : List Loc), va_P G vwCl (wM cI ga a.1) H → va_D A (wM cI ga a.1) → va_S A s.heap H locs → ∀ ls : Array Slot, lv_has ls 2 [(0, .ref (ga 0)), (1, .int a.2)] → W p l e rmX5_save s m args below meth c H locs 0 0 Q (F0 m 2 ls []))) (Ex := (fun b : TM => ∀ (H : Heap) (locs : List Loc), va_P G vwCl (wM cI ga b) H → va_D A (wM cI ga b) → va_S A s.heap H locs → ∀ ls : Array Slot, lv_has ls 2 [(0, .ref (ga 0))] → W p l e rmX5_save s m args below meth c H locs 0 0 Q (F0 m 31 ls []))) ?_
    rintro ⟨u, x1⟩ z h hI hE
    have h : fX5_save_s2 u x1 = some z := h
    unfold fX5_save_s2 at h
    show ∀ (H : Heap) (locs : List Loc), va_P G vwCl (wM cI ga u) H → va_D A (wM cI ga u) → va_S A s.heap H locs → ∀ ls : Array Slot, lv_has ls 2 [(0, .ref (ga 0)), (1, .int x1)] → W p l e rmX5_save s m args below meth c H locs 0 0 Q (F0 m 2 ls [])
    intro H locs hP hD hS ls hl
    refine lv_iload_n hx hb dX5_save_2 rfl (lv_at hl 1 rfl) ?_
    refine lv_bipush (v := 6) hx hb dX5_save_3 (by decide) ?_
    refine lv_icmp_ge (tgt := 31) hx hb dX5_save_5 (by decide) (fun c3 => ?_) (fun c3 => ?_)
    · have h := (if_pos c3).symm.trans h
      exact hE _ (Option.some.inj h) _ _ hP hD hS _ (lv_sub hl [0] rfl)
    · have h := (if_neg c3).symm.trans h
      refine lv_aload_n hx hb dX5_save_8 rfl (lv_at hl 0 rfl) ?_
      refine gf_X5_137 S hK hN hP 0 rfl (v := .int u.1.2.1) rfl dX5_save_9 ?_
      refine lv_bipush (v := 6) hx hb dX5_save_12 (by decide) ?_
      refine lv_icmp_ne (tgt := 31) hx hb dX5_save_14 (by decide) (fun c4 => ?_) (fun c4 => ?_)
      · have h := (if_neg c4).symm.trans h
        exact hE _ (Option.some.inj h) _ _ hP hD hS _ (lv_sub hl [0] rfl)
      · have h := (if_pos c4).symm.trans h
        refine lv_aload_n hx hb dX5_save_17 rfl (lv_at hl 0 rfl) ?_
        refine lv_iload_n hx hb dX5_save_18 rfl (lv_at hl 1 rfl) ?_
        refine lv_iconst (v := 1) hx hb dX5_save_19 (by decide) ?_
        refine lv_iadd hx hb dX5_save_20 ?_
        refine lv_iload_n hx hb dX5_save_21 rfl (lv_at hl 1 rfl) ?_
        obtain ⟨z5, e_z5, h⟩ := bnd h
        refine muv (cc_X5_140 ga S hK hN hP hD e_z5 hl.1 (Nat.le_of_ble_eq_true rfl) ⟨Nat.le_of_ble_eq_true rfl, Nat.le_of_ble_eq_true rfl⟩ dX5_save_22 ⟨Nat.le_of_ble_eq_true rfl, Nat.le_of_ble_eq_true rfl⟩) hS hD (va_free hD hS hA [0, 1, 2, 3, 4] rfl) (fun H locs hP hD hS => ?_)
        have hP : va_P G vwCl (wM cI ga z5) H := hP
        have hD : va_D A (wM cI ga z5) := hD
        refine lv_iinc (v := (x1 + 1)) (lv' := [(1, .int (x1 + 1)), (0, .ref (ga 0))]) hx hb dX5_save_25 hl (k := 1) rfl rfl (by decide) rfl (fun ls hl => ?_)
        refine lv_goto (tgt := 2) hx hb dX5_save_28 (by decide) ?_
        exact hI _ (Option.some.inj h) _ _ hP hD hS _ (lv_sub hl [1, 0] rfl)
  refine lv_iconst (v := 1) hx hb dX5_save_0 (by decide) ?_
  refine lv_istore_n (lv' := [(1, .int (1 : Int32)), (0, .ref (ga 0))]) hx hb dX5_save_1 rfl hl (by decide) rfl (fun ls hl => ?_)
  obtain ⟨b6, e_b6, h⟩ := bnd h
  refine L2 _ _ _ e_b6 ?_ _ _ hP hD hS _ (lv_sub hl [1, 0] rfl)
  intro H locs hP hD hS ls hl
  exact J31 b6 h _ _ hP hD hS _ (lv_sub hl [0] rfl)

theorem cc_X5_146 {p : Program} {l : Launch} {e : Env} {R : Room} {s : State} {m : MethodId} {args : Array Value} {below : List Frame} {meth : Method} {c : Code} {H : Heap} {locs : List Loc} {cells slots : Nat} {cc : ByteArray} {pc nL : Nat} {ls : Array Slot} {rest : List Value} {G : va_G} {A : Nat → Prop} (ga : Nat → Nat) {cI cS : ClassId} {u : TM}  {p0 : Int32} {r : Int32 × TM} (S : CallFix p m c cc nL s args bw RX5) (hK : va_K G vwCl (tysW cI cS) s) (hN : NW s) (hP : va_P G vwCl (wM cI ga u) H) (hD : va_D A (wM cI ga u)) (hf : fX5_holds u p0 = some r) (hsz : ls.size = nL) (hst : (rest.map fun v => v.category).sum ≤ 8) (hR : rmX5_holds.frames + 1 ≤ R.frames ∧ 8 + (2 + 11) + rmX5_holds.locals ≤ R.locals) (hdg : decode cc pc = .ok (.invokevirtual 146, 3)) (hcs : cells + 0 ≤ R.cells ∧ slots + 0 ≤ R.slots) : va_Run p l e R s m args below meth c H locs cells slots 0 0 (F0 m pc ls (.int p0 :: .ref (ga 0) :: rest)) rest (va_Qi (fun r' u' => (r', u') = r) (PoM G (tysW cI cS) (va_A (wM cI ga u) H.size) (wM cI ga)) (va_A (wM cI ga u) H.size) (#[.ref (ga 0), .int p0] : Array Value)) (va_A (wM cI ga u) H.size) :=
  va_runV (As := [.int p0]) (rest := rest) S (kX5_holds l G cI cS ga H.size u p0 r hf) (cwV 1 S.2.2.2.2 (gdV q_532 q_533 q_534 q_392 q_385) rfl rfl rfl (by decide +kernel) hR) (pvM (q := (RX5, TX5, 12)) hK hN hP hD (ci := 5) (q0 := 0) rfl rfl) rfl rfl hsz rfl (lv_room hst) hdg hcs
theorem gf_X5_143 {p : Program} {l : Launch} {e : Env} {R : Room} {s : State} {m : MethodId} {args : Array Value} {below : List Frame} {meth : Method} {c : Code} {H : Heap} {locs : List Loc} {cells slots : Nat} {cc : ByteArray} {pc nL : Nat} {ls : Array Slot} {rest : List Value} {G : va_G} {Q : State → Prop} {tys : List (ClassId × FieldType)} {ws : va_W} {a : Nat} (S : CallFix p m c cc nL s args bw RX5) (hK : va_K G vwCl tys s) (hN : NW s) (hP : va_P G vwCl ws H) (q0 : Nat) {fs : List Value} (he : ws[q0]? = some (a, .inr (5, fs))) {v : Value} (hv : fs[4]? = some v) (hdg : decode cc pc = .ok (.getfield 143, 3)) (kk : W p l e R s m args below meth c H locs cells slots Q (F0 m (pc + 3) ls (v :: rest))) : W p l e R s m args below meth c H locs cells slots Q (F0 m pc ls (.ref a :: rest)) :=
  va_get (C := RX5) (T := TX5) (N := 12) S.1 S.2.1 S.2.2.2.2 bi_U5 S.2.2.2.1 hK hP q0 he rfl 4 (by decide) (S.2.2.2.2 _ q_531) (fun _ h9 => h9) hv hdg kk
theorem pf_X5_143 {p : Program} {l : Launch} {e : Env} {R : Room} {s : State} {m : MethodId} {args : Array Value} {below : List Frame} {meth : Method} {c : Code} {H : Heap} {locs : List Loc} {cells slots : Nat} {cc : ByteArray} {pc nL : Nat} {ls : Array Slot} {rest : List Value} {G : va_G} {Q : State → Prop} {tys : List (ClassId × FieldType)} {ws : va_W} {a : Nat} {A : Nat → Prop} {H0 : Heap} {x : Int32} (S : CallFix p m c cc nL s args bw RX5) (hK : va_K G vwCl tys s) (hN : NW s) (hP : va_P G vwCl ws H) (hD : va_D A ws) (hS : va_S A H0 H locs) (q0 : Nat) {fs : List Value} (he : ws[q0]? = some (a, .inr (5, fs))) (hl : 4 < fs.length) (hdg : decode cc pc = .ok (.putfield 143, 3)) (kk : ∀ (H1 : Heap) (locs1 : List Loc), va_P G vwCl (ws.set q0 (a, .inr (5, fs.set 4 (.int x)))) H1 → va_D A (ws.set q0 (a, .inr (5, fs.set 4 (.int x)))) → va_S A H0 H1 locs1 → W p l e R s m args below meth c H1 locs1 cells slots Q (F0 m (pc + 3) ls rest)) : W p l e R s m args below meth c H locs cells slots Q (F0 m pc ls (.int x :: .ref a :: rest)) :=
  va_put (ty := .int) (v := .int x) (C := RX5) (T := TX5) (N := 12) S.1 S.2.1 S.2.2.2.2 bi_U5 tyX5 tyX5_ok nmX5 S.2.2.2.1 hK hP hD hS q0 he rfl 4 (by decide) (S.2.2.2.2 _ q_531) (fun _ h9 => h9) rfl rfl rfl rfl hl hdg kk
def fX5_append_j30 (u : TM) (x1 : Int32) (t0 : Int32) : Option (Int32 × TM) := ((fX5_holds u t0).bind fun z1 => (if z1.1 = 0 then some ((0 : Int32), z1.2) else ((wr z1.2.2.2.1 60 z1.2.1.2.2.1 x1).bind fun z3 => some ((z1.2.1.2.2.1 + (1 : Int32)), (z1.2.1.1, z1.2.1.2.1, (z1.2.1.2.2.1 + (1 : Int32)), z1.2.1.2.2.2), z1.2.2.1, z3, z1.2.2.2.2))))
def fX5_append (u : TM) (p0 : Int32) : Option (Int32 × TM) := ((fX5_in p0 (0 : Int32) (255 : Int32)).bind fun z4 => (if z4 = 0 then fX5_append_j30 u p0 (1 : Int32) else (if u.1.2.2.1 = (60 : Int32) then fX5_append_j30 u p0 (2 : Int32) else fX5_append_j30 u p0 (0 : Int32))))
abbrev rmX5_append : Room := { frames := 1, cells := 0, slots := 0, locals := 22 }
set_option maxRecDepth 100000 in
set_option maxHeartbeats 4000000 in
theorem kX5_append (l : Launch) (G : va_G) (cI cS : ClassId) (ga : Nat → Nat) (sz : Nat) (u : TM) (p0 : Int32) (r : Int32 × TM) (hf : fX5_append u p0 = some r) : Met l yX5_append (.code yX5_append cX5_append 2 (some .int) :: bw) rmX5_append (va_Pc [.ref (ga 0), .int p0] (PreM G (tysW cI cS) (wM cI ga u) sz)) (va_Qi (fun r' u' => (r', u') = r) (PoM G (tysW cI cS) (va_A (wM cI ga u) sz) (wM cI ga)) (va_A (wM cI ga u) sz)) 0 0 (va_A (wM cI ga u) sz) := by
  refine enterM (own := RX5) (by decide) rfl (Nat.le_of_ble_eq_true rfl) ?_
  intro p e s m args below meth c A Q hAe hQ S hr hlocks hP hK hN hD hA hS ls hl
  rw [hAe] at hQ
  have hx := S.1; have hb := S.2.1; have hml := S.2.2.1; have hown := S.2.2.2.1; have hq := S.2.2.2.2
  have hl : lv_has ls 2 [(0, .ref (ga 0)), (1, .int p0)] := hl
  have h := hf
  unfold fX5_append at h
  have J30 : ∀ (u : TM) (x1 : Int32) (t0 : Int32) , fX5_append_j30 u x1 t0 = some r → ∀ (H : Heap) (locs : List Loc), va_P G vwCl (wM cI ga u) H → va_D A (wM cI ga u) → va_S A s.heap H locs → ∀ ls : Array Slot, lv_has ls 2 [(0, .ref (ga 0)), (1, .int x1)] → W p l e rmX5_append s m args below meth c H locs 0 0 Q (F0 m 30 ls [.int t0, .ref (ga 0)]) := by
    intro u x1 t0 h
    unfold fX5_append_j30 at h
    intro H locs hP hD hS ls hl
    obtain ⟨z1, e_z1, h⟩ := bnd h
    refine mui (cc_X5_146 ga S hK hN hP hD e_z1 hl.1 (Nat.le_of_ble_eq_true rfl) ⟨Nat.le_of_ble_eq_true rfl, Nat.le_of_ble_eq_true rfl⟩ dX5_append_30 ⟨Nat.le_of_ble_eq_true rfl, Nat.le_of_ble_eq_true rfl⟩) hS hD (va_free hD hS hA [0, 1, 2, 3, 4] rfl) (fun H locs hP hD hS => ?_)
    have hP : va_P G vwCl (wM cI ga z1.2) H := hP
    have hD : va_D A (wM cI ga z1.2) := hD
    refine lv_if_ne (tgt := 38) hx hb dX5_append_33 (by decide) (fun c2 => ?_) (fun c2 => ?_)
    · have h := (if_neg c2).symm.trans h
      refine lv_aload_n hx hb dX5_append_38 rfl (lv_at hl 0 rfl) ?_
      refine gf_X5_13 S hK hN hP 0 rfl (v := .ref (ga 2)) rfl dX5_append_39 ?_
      refine lv_aload_n hx hb dX5_append_42 rfl (lv_at hl 0 rfl) ?_
      refine gf_X5_143 S hK hN hP 0 rfl (v := .int z1.2.1.2.2.1) rfl dX5_append_43 ?_
      refine lv_iload_n hx hb dX5_append_46 rfl (lv_at hl 1 rfl) ?_
      obtain ⟨z3, e_z3, h⟩ := bnd h
      refine iaS (f := z1.2.2.2.1) hx hb hK hP hD hS 2 0 rfl rfl e_z3 dX5_append_47 (fun H locs hP hD hS => ?_)
      have hP : va_P G vwCl (wM cI ga (z1.2.1, z1.2.2.1, z3, z1.2.2.2.2)) H := hP
      have hD : va_D A (wM cI ga (z1.2.1, z1.2.2.1, z3, z1.2.2.2.2)) := hD
      refine lv_aload_n hx hb dX5_append_48 rfl (lv_at hl 0 rfl) ?_
      refine lv_dup hx hb dX5_append_49 rfl ?_
      refine gf_X5_143 S hK hN hP 0 rfl (v := .int z1.2.1.2.2.1) rfl dX5_append_50 ?_
      refine lv_iconst (v := 1) hx hb dX5_append_53 (by decide) ?_
      refine lv_iadd hx hb dX5_append_54 ?_
      refine pf_X5_143 S hK hN hP hD hS 0 rfl (Nat.le_of_ble_eq_true rfl) dX5_append_55 (fun H locs hP hD hS => ?_)
      have hP : va_P G vwCl (wM cI ga ((z1.2.1.1, z1.2.1.2.1, (z1.2.1.2.2.1 + (1 : Int32)), z1.2.1.2.2.2), z1.2.2.1, z3, z1.2.2.2.2)) H := hP
      have hD : va_D A (wM cI ga ((z1.2.1.1, z1.2.1.2.1, (z1.2.1.2.2.1 + (1 : Int32)), z1.2.1.2.2.2), z1.2.2.1, z3, z1.2.2.2.2)) := hD
      refine lv_aload_n hx hb dX5_append_58 rfl (lv_at hl 0 rfl) ?_
      refine gf_X5_143 S hK hN hP 0 rfl (v := .int (z1.2.1.2.2.1 + (1 : Int32))) rfl dX5_append_59 ?_
      exact retMi hQ S hr hlocks hK hN hP hD hS h dX5_append_62
    · have h := (if_pos c2).symm.trans h
      refine lv_iconst (v := 0) hx hb dX5_append_36 (by decide) ?_
      exact retMi hQ S hr hlocks hK hN hP hD hS h dX5_append_37
  refine lv_aload_n hx hb dX5_append_0 rfl (lv_at hl 0 rfl) ?_
  refine lv_iload_n hx hb dX5_append_1 rfl (lv_at hl 1 rfl) ?_
  refine lv_iconst (v := 0) hx hb dX5_append_2 (by decide) ?_
  refine lv_sipush (v := 255) hx hb dX5_append_3 (by decide) ?_
  obtain ⟨z4, e_z4, h⟩ := bnd h
  refine roI (cc_X5_78 S hK hN va_P0 e_z4 hl.1 (Nat.le_of_ble_eq_true rfl) ⟨Nat.le_of_ble_eq_true rfl, Nat.le_of_ble_eq_true rfl⟩ dX5_append_6 ⟨Nat.le_of_ble_eq_true rfl, Nat.le_of_ble_eq_true rfl⟩) ?_
  refine lv_if_ne (tgt := 16) hx hb dX5_append_9 (by decide) (fun c5 => ?_) (fun c5 => ?_)
  · have h := (if_neg c5).symm.trans h
    refine lv_aload_n hx hb dX5_append_16 rfl (lv_at hl 0 rfl) ?_
    refine gf_X5_143 S hK hN hP 0 rfl (v := .int u.1.2.2.1) rfl dX5_append_17 ?_
    refine lv_bipush (v := 60) hx hb dX5_append_20 (by decide) ?_
    refine lv_icmp_ne (tgt := 29) hx hb dX5_append_22 (by decide) (fun c6 => ?_) (fun c6 => ?_)
    · have h := (if_neg c6).symm.trans h
      refine lv_iconst (v := 0) hx hb dX5_append_29 (by decide) ?_
      exact J30 u p0 (0 : Int32) h _ _ hP hD hS _ (lv_sub hl [0, 1] rfl)
    · have h := (if_pos c6).symm.trans h
      refine lv_iconst (v := 2) hx hb dX5_append_25 (by decide) ?_
      refine lv_goto (tgt := 30) hx hb dX5_append_26 (by decide) ?_
      exact J30 u p0 (2 : Int32) h _ _ hP hD hS _ (lv_sub hl [0, 1] rfl)
  · have h := (if_pos c5).symm.trans h
    refine lv_iconst (v := 1) hx hb dX5_append_12 (by decide) ?_
    refine lv_goto (tgt := 30) hx hb dX5_append_13 (by decide) ?_
    exact J30 u p0 (1 : Int32) h _ _ hP hD hS _ (lv_sub hl [0, 1] rfl)

def fX5_fill_s52 (u : TM) (x1 : Int32) (x2 : Int32) (x3 : Int32) : Option ((TM × Int32 × Int32 × Int32) ⊕ (TM)) := (if x1 ≤ x3 then some (.inr u) else ((wr u.2.2.1 60 u.1.2.2.1 x2).bind fun z2 => some (.inl (((u.1.1, u.1.2.1, (u.1.2.2.1 + (1 : Int32)), u.1.2.2.2), u.2.1, z2, u.2.2.2), x1, x2, (x3 + 1)))))
def fX5_fill_j42 (u : TM) (x1 : Int32) (x2 : Int32) (t0 : Int32) : Option (Int32 × TM) := ((fX5_holds u t0).bind fun z3 => (if z3.1 = 0 then some ((0 : Int32), z3.2) else ((itr (fun a : TM × Int32 × Int32 × Int32 => fX5_fill_s52 a.1 a.2.1 a.2.2.1 a.2.2.2) FU (z3.2, x1, x2, (0 : Int32))).bind fun b5 => some (b5.1.2.2.1, b5))))
def fX5_fill_j22 (u : TM) (x1 : Int32) (x2 : Int32) : Option (Int32 × TM) := fX5_fill_j42 u x1 x2 (1 : Int32)
def fX5_fill (u : TM) (p0 : Int32) (p1 : Int32) : Option (Int32 × TM) := ((fX5_in p0 (1 : Int32) (60 : Int32)).bind fun z6 => (if z6 = 0 then fX5_fill_j22 u p0 p1 else ((fX5_in p1 (0 : Int32) (255 : Int32)).bind fun z8 => (if z8 = 0 then fX5_fill_j22 u p0 p1 else (if (u.1.2.2.1 + p0) ≤ (60 : Int32) then fX5_fill_j42 u p0 p1 (0 : Int32) else fX5_fill_j42 u p0 p1 (2 : Int32))))))
abbrev rmX5_fill : Room := { frames := 1, cells := 0, slots := 0, locals := 22 }
set_option maxRecDepth 100000 in
set_option maxHeartbeats 4000000 in
theorem kX5_fill (l : Launch) (G : va_G) (cI cS : ClassId) (ga : Nat → Nat) (sz : Nat) (u : TM) (p0 : Int32) (p1 : Int32) (r : Int32 × TM) (hf : fX5_fill u p0 p1 = some r) : Met l yX5_fill (.code yX5_fill cX5_fill 4 (some .int) :: bw) rmX5_fill (va_Pc [.ref (ga 0), .int p0, .int p1] (PreM G (tysW cI cS) (wM cI ga u) sz)) (va_Qi (fun r' u' => (r', u') = r) (PoM G (tysW cI cS) (va_A (wM cI ga u) sz) (wM cI ga)) (va_A (wM cI ga u) sz)) 0 0 (va_A (wM cI ga u) sz) := by
  refine enterM (own := RX5) (by decide) rfl (Nat.le_of_ble_eq_true rfl) ?_
  intro p e s m args below meth c A Q hAe hQ S hr hlocks hP hK hN hD hA hS ls hl
  rw [hAe] at hQ
  have hx := S.1; have hb := S.2.1; have hml := S.2.2.1; have hown := S.2.2.2.1; have hq := S.2.2.2.2
  have hl : lv_has ls 4 [(0, .ref (ga 0)), (1, .int p0), (2, .int p1)] := hl
  have h := hf
  unfold fX5_fill at h
  have L52 : ∀ (n9 : Nat) (a9 : TM × Int32 × Int32 × Int32) (b9 : TM), itr (fun a : TM × Int32 × Int32 × Int32 => fX5_fill_s52 a.1 a.2.1 a.2.2.1 a.2.2.2) n9 a9 = some b9 → (fun b : TM => ∀ (H : Heap) (locs : List Loc), va_P G vwCl (wM cI ga b) H → va_D A (wM cI ga b) → va_S A s.heap H locs → ∀ ls : Array Slot, lv_has ls 4 [(0, .ref (ga 0))] → W p l e rmX5_fill s m args below meth c H locs 0 0 Q (F0 m 83 ls [])) b9 → (fun a : TM × Int32 × Int32 × Int32 => ∀ (H : Heap) (locs : List Loc), va_P G vwCl (wM cI ga a.1) H → va_D A (wM cI ga a.1) → va_S A s.heap H locs → ∀ ls : Array Slot, lv_has ls 4 [(0, .ref (ga 0)), (1, .int a.2.1), (2, .int a.2.2.1), (3, .int a.2.2.2)] → W p l e rmX5_fill s m args below meth c H locs 0 0 Q (F0 m 52 ls [])) a9 := by
    refine itr_ind (Inv := (fun a : TM × Int32 × Int32 × Int32 => ∀ (H : Heap) (locs : List Loc), va_P G vwCl (wM cI ga a.1) H → va_D A (wM cI ga a.1) → va_S A s.heap H locs → ∀ ls : Array Slot, lv_has ls 4 [(0, .ref (ga 0)), (1, .int a.2.1), (2, .int a.2.2.1), (3, .int a.2.2.2)] → W p l e rmX5_fill s m args below meth c H locs 0 0 Q (F0 m 52 ls []))) (Ex := (fun b : TM => ∀ (H : Heap) (locs : List Loc), va_P G vwCl (wM cI ga b) H → va_D A (wM cI ga b) → va_S A s.heap H locs → ∀ ls : Array Slot, lv_has ls 4 [(0, .ref (ga 0))] → W p l e rmX5_fill s m args below meth c H locs 0 0 Q (F0 m 83 ls []))) ?_
    rintro ⟨u, x1, x2, x3⟩ z h hI hE
    have h : fX5_fill_s52 u x1 x2 x3 = some z := h
    unfold fX5_fill_s52 at h
    show ∀ (H : Heap) (locs : List Loc), va_P G vwCl (wM cI ga u) H → va_D A (wM cI ga u) → va_S A s.heap H locs → ∀ ls : Array Slot, lv_has ls 4 [(0, .ref (ga 0)), (1, .int x1), (2, .int x2), (3, .int x3)] → W p l e rmX5_fill s m args below meth c H locs 0 0 Q (F0 m 52 ls [])
    intro H locs hP hD hS ls hl
    refine lv_iload_n hx hb dX5_fill_52 rfl (lv_at hl 3 rfl) ?_
    refine lv_iload_n hx hb dX5_fill_53 rfl (lv_at hl 1 rfl) ?_
    refine lv_icmp_ge (tgt := 83) hx hb dX5_fill_54 (by decide) (fun c1 => ?_) (fun c1 => ?_)
    · have h := (if_pos c1).symm.trans h
      exact hE _ (Option.some.inj h) _ _ hP hD hS _ (lv_sub hl [0] rfl)
    · have h := (if_neg c1).symm.trans h
      refine lv_aload_n hx hb dX5_fill_57 rfl (lv_at hl 0 rfl) ?_
      refine gf_X5_13 S hK hN hP 0 rfl (v := .ref (ga 2)) rfl dX5_fill_58 ?_
      refine lv_aload_n hx hb dX5_fill_61 rfl (lv_at hl 0 rfl) ?_
      refine gf_X5_143 S hK hN hP 0 rfl (v := .int u.1.2.2.1) rfl dX5_fill_62 ?_
      refine lv_iload_n hx hb dX5_fill_65 rfl (lv_at hl 2 rfl) ?_
      obtain ⟨z2, e_z2, h⟩ := bnd h
      refine iaS (f := u.2.2.1) hx hb hK hP hD hS 2 0 rfl rfl e_z2 dX5_fill_66 (fun H locs hP hD hS => ?_)
      have hP : va_P G vwCl (wM cI ga (u.1, u.2.1, z2, u.2.2.2)) H := hP
      have hD : va_D A (wM cI ga (u.1, u.2.1, z2, u.2.2.2)) := hD
      refine lv_aload_n hx hb dX5_fill_67 rfl (lv_at hl 0 rfl) ?_
      refine lv_dup hx hb dX5_fill_68 rfl ?_
      refine gf_X5_143 S hK hN hP 0 rfl (v := .int u.1.2.2.1) rfl dX5_fill_69 ?_
      refine lv_iconst (v := 1) hx hb dX5_fill_72 (by decide) ?_
      refine lv_iadd hx hb dX5_fill_73 ?_
      refine pf_X5_143 S hK hN hP hD hS 0 rfl (Nat.le_of_ble_eq_true rfl) dX5_fill_74 (fun H locs hP hD hS => ?_)
      have hP : va_P G vwCl (wM cI ga ((u.1.1, u.1.2.1, (u.1.2.2.1 + (1 : Int32)), u.1.2.2.2), u.2.1, z2, u.2.2.2)) H := hP
      have hD : va_D A (wM cI ga ((u.1.1, u.1.2.1, (u.1.2.2.1 + (1 : Int32)), u.1.2.2.2), u.2.1, z2, u.2.2.2)) := hD
      refine lv_iinc (v := (x3 + 1)) (lv' := [(3, .int (x3 + 1)), (0, .ref (ga 0)), (1, .int x1), (2, .int x2)]) hx hb dX5_fill_77 hl (k := 3) rfl rfl (by decide) rfl (fun ls hl => ?_)
      refine lv_goto (tgt := 52) hx hb dX5_fill_80 (by decide) ?_
      exact hI _ (Option.some.inj h) _ _ hP hD hS _ (lv_sub hl [1, 2, 3, 0] rfl)
  have J42 : ∀ (u : TM) (x1 : Int32) (x2 : Int32) (t0 : Int32) , fX5_fill_j42 u x1 x2 t0 = some r → ∀ (H : Heap) (locs : List Loc), va_P G vwCl (wM cI ga u) H → va_D A (wM cI ga u) → va_S A s.heap H locs → ∀ ls : Array Slot, lv_has ls 4 [(0, .ref (ga 0)), (1, .int x1), (2, .int x2)] → W p l e rmX5_fill s m args below meth c H locs 0 0 Q (F0 m 42 ls [.int t0, .ref (ga 0)]) := by
    intro u x1 x2 t0 h
    unfold fX5_fill_j42 at h
    intro H locs hP hD hS ls hl
    obtain ⟨z3, e_z3, h⟩ := bnd h
    refine mui (cc_X5_146 ga S hK hN hP hD e_z3 hl.1 (Nat.le_of_ble_eq_true rfl) ⟨Nat.le_of_ble_eq_true rfl, Nat.le_of_ble_eq_true rfl⟩ dX5_fill_42 ⟨Nat.le_of_ble_eq_true rfl, Nat.le_of_ble_eq_true rfl⟩) hS hD (va_free hD hS hA [0, 1, 2, 3, 4] rfl) (fun H locs hP hD hS => ?_)
    have hP : va_P G vwCl (wM cI ga z3.2) H := hP
    have hD : va_D A (wM cI ga z3.2) := hD
    refine lv_if_ne (tgt := 50) hx hb dX5_fill_45 (by decide) (fun c4 => ?_) (fun c4 => ?_)
    · have h := (if_neg c4).symm.trans h
      refine lv_iconst (v := 0) hx hb dX5_fill_50 (by decide) ?_
      refine lv_istore_n (lv' := [(3, .int (0 : Int32)), (0, .ref (ga 0)), (1, .int x1), (2, .int x2)]) hx hb dX5_fill_51 rfl hl (by decide) rfl (fun ls hl => ?_)
      obtain ⟨b5, e_b5, h⟩ := bnd h
      refine L52 _ _ _ e_b5 ?_ _ _ hP hD hS _ (lv_sub hl [1, 2, 3, 0] rfl)
      intro H locs hP hD hS ls hl
      refine lv_aload_n hx hb dX5_fill_83 rfl (lv_at hl 0 rfl) ?_
      refine gf_X5_143 S hK hN hP 0 rfl (v := .int b5.1.2.2.1) rfl dX5_fill_84 ?_
      exact retMi hQ S hr hlocks hK hN hP hD hS h dX5_fill_87
    · have h := (if_pos c4).symm.trans h
      refine lv_iconst (v := 0) hx hb dX5_fill_48 (by decide) ?_
      exact retMi hQ S hr hlocks hK hN hP hD hS h dX5_fill_49
  have J22 : ∀ (u : TM) (x1 : Int32) (x2 : Int32) , fX5_fill_j22 u x1 x2 = some r → ∀ (H : Heap) (locs : List Loc), va_P G vwCl (wM cI ga u) H → va_D A (wM cI ga u) → va_S A s.heap H locs → ∀ ls : Array Slot, lv_has ls 4 [(0, .ref (ga 0)), (1, .int x1), (2, .int x2)] → W p l e rmX5_fill s m args below meth c H locs 0 0 Q (F0 m 22 ls [.ref (ga 0)]) := by
    intro u x1 x2 h
    unfold fX5_fill_j22 at h
    intro H locs hP hD hS ls hl
    refine lv_iconst (v := 1) hx hb dX5_fill_22 (by decide) ?_
    refine lv_goto (tgt := 42) hx hb dX5_fill_23 (by decide) ?_
    exact J42 u x1 x2 (1 : Int32) h _ _ hP hD hS _ (lv_sub hl [0, 1, 2] rfl)
  refine lv_aload_n hx hb dX5_fill_0 rfl (lv_at hl 0 rfl) ?_
  refine lv_iload_n hx hb dX5_fill_1 rfl (lv_at hl 1 rfl) ?_
  refine lv_iconst (v := 1) hx hb dX5_fill_2 (by decide) ?_
  refine lv_bipush (v := 60) hx hb dX5_fill_3 (by decide) ?_
  obtain ⟨z6, e_z6, h⟩ := bnd h
  refine roI (cc_X5_78 S hK hN va_P0 e_z6 hl.1 (Nat.le_of_ble_eq_true rfl) ⟨Nat.le_of_ble_eq_true rfl, Nat.le_of_ble_eq_true rfl⟩ dX5_fill_5 ⟨Nat.le_of_ble_eq_true rfl, Nat.le_of_ble_eq_true rfl⟩) ?_
  refine lv_if_eq (tgt := 22) hx hb dX5_fill_8 (by decide) (fun c7 => ?_) (fun c7 => ?_)
  · have h := (if_pos c7).symm.trans h
    exact J22 u p0 p1 h _ _ hP hD hS _ (lv_sub hl [0, 1, 2] rfl)
  · have h := (if_neg c7).symm.trans h
    refine lv_iload_n hx hb dX5_fill_11 rfl (lv_at hl 2 rfl) ?_
    refine lv_iconst (v := 0) hx hb dX5_fill_12 (by decide) ?_
    refine lv_sipush (v := 255) hx hb dX5_fill_13 (by decide) ?_
    obtain ⟨z8, e_z8, h⟩ := bnd h
    refine roI (cc_X5_78 S hK hN va_P0 e_z8 hl.1 (Nat.le_of_ble_eq_true rfl) ⟨Nat.le_of_ble_eq_true rfl, Nat.le_of_ble_eq_true rfl⟩ dX5_fill_16 ⟨Nat.le_of_ble_eq_true rfl, Nat.le_of_ble_eq_true rfl⟩) ?_
    refine lv_if_ne (tgt := 26) hx hb dX5_fill_19 (by decide) (fun c9 => ?_) (fun c9 => ?_)
    · have h := (if_neg c9).symm.trans h
      refine lv_aload_n hx hb dX5_fill_26 rfl (lv_at hl 0 rfl) ?_
      refine gf_X5_143 S hK hN hP 0 rfl (v := .int u.1.2.2.1) rfl dX5_fill_27 ?_
      refine lv_iload_n hx hb dX5_fill_30 rfl (lv_at hl 1 rfl) ?_
      refine lv_iadd hx hb dX5_fill_31 ?_
      refine lv_bipush (v := 60) hx hb dX5_fill_32 (by decide) ?_
      refine lv_icmp_le (tgt := 41) hx hb dX5_fill_34 (by decide) (fun c10 => ?_) (fun c10 => ?_)
      · have h := (if_pos c10).symm.trans h
        refine lv_iconst (v := 0) hx hb dX5_fill_41 (by decide) ?_
        exact J42 u p0 p1 (0 : Int32) h _ _ hP hD hS _ (lv_sub hl [0, 1, 2] rfl)
      · have h := (if_neg c10).symm.trans h
        refine lv_iconst (v := 2) hx hb dX5_fill_37 (by decide) ?_
        refine lv_goto (tgt := 42) hx hb dX5_fill_38 (by decide) ?_
        exact J42 u p0 p1 (2 : Int32) h _ _ hP hD hS _ (lv_sub hl [0, 1, 2] rfl)
    · have h := (if_pos c9).symm.trans h
      exact J22 u p0 p1 h _ _ hP hD hS _ (lv_sub hl [0, 1, 2] rfl)

def fX5_clearBuffer (u : TM) : Option (Int32 × TM) := some (u.1.2.2.1, ((0 : Int32), u.1.2.1, (0 : Int32), u.1.2.2.2), u.2)
abbrev rmX5_clearBuffer : Room := { frames := 0, cells := 0, slots := 0, locals := 0 }
set_option maxRecDepth 100000 in
set_option maxHeartbeats 4000000 in
theorem kX5_clearBuffer (l : Launch) (G : va_G) (cI cS : ClassId) (ga : Nat → Nat) (sz : Nat) (u : TM) (r : Int32 × TM) (hf : fX5_clearBuffer u = some r) : Met l yX5_clearBuffer (.code yX5_clearBuffer cX5_clearBuffer 2 (some .int) :: bw) rmX5_clearBuffer (va_Pc [.ref (ga 0)] (PreM G (tysW cI cS) (wM cI ga u) sz)) (va_Qi (fun r' u' => (r', u') = r) (PoM G (tysW cI cS) (va_A (wM cI ga u) sz) (wM cI ga)) (va_A (wM cI ga u) sz)) 0 0 (va_A (wM cI ga u) sz) := by
  refine enterM (own := RX5) (by decide) rfl (Nat.le_of_ble_eq_true rfl) ?_
  intro p e s m args below meth c A Q hAe hQ S hr hlocks hP hK hN hD hA hS ls hl
  rw [hAe] at hQ
  have hx := S.1; have hb := S.2.1; have hml := S.2.2.1; have hown := S.2.2.2.1; have hq := S.2.2.2.2
  have hl : lv_has ls 2 [(0, .ref (ga 0))] := hl
  have h := hf
  unfold fX5_clearBuffer at h
  refine lv_aload_n hx hb dX5_clearBuffer_0 rfl (lv_at hl 0 rfl) ?_
  refine lv_iconst (v := 0) hx hb dX5_clearBuffer_1 (by decide) ?_
  refine pf_X5_22 S hK hN hP hD hS 0 rfl (Nat.le_of_ble_eq_true rfl) dX5_clearBuffer_2 (fun H locs hP hD hS => ?_)
  have hP : va_P G vwCl (wM cI ga (((0 : Int32), u.1.2), u.2)) H := hP
  have hD : va_D A (wM cI ga (((0 : Int32), u.1.2), u.2)) := hD
  refine lv_aload_n hx hb dX5_clearBuffer_5 rfl (lv_at hl 0 rfl) ?_
  refine gf_X5_143 S hK hN hP 0 rfl (v := .int u.1.2.2.1) rfl dX5_clearBuffer_6 ?_
  refine lv_istore_n (lv' := [(1, .int u.1.2.2.1), (0, .ref (ga 0))]) hx hb dX5_clearBuffer_9 rfl hl (by decide) rfl (fun ls hl => ?_)
  refine lv_aload_n hx hb dX5_clearBuffer_10 rfl (lv_at hl 1 rfl) ?_
  refine lv_iconst (v := 0) hx hb dX5_clearBuffer_11 (by decide) ?_
  refine pf_X5_143 S hK hN hP hD hS 0 rfl (Nat.le_of_ble_eq_true rfl) dX5_clearBuffer_12 (fun H locs hP hD hS => ?_)
  have hP : va_P G vwCl (wM cI ga (((0 : Int32), u.1.2.1, (0 : Int32), u.1.2.2.2), u.2)) H := hP
  have hD : va_D A (wM cI ga (((0 : Int32), u.1.2.1, (0 : Int32), u.1.2.2.2), u.2)) := hD
  refine lv_iload_n hx hb dX5_clearBuffer_15 rfl (lv_at hl 0 rfl) ?_
  exact retMi hQ S hr hlocks hK hN hP hD hS h dX5_clearBuffer_16

theorem cc_X5_150 {p : Program} {l : Launch} {e : Env} {R : Room} {s : State} {m : MethodId} {args : Array Value} {below : List Frame} {meth : Method} {c : Code} {H : Heap} {locs : List Loc} {cells slots : Nat} {cc : ByteArray} {pc nL : Nat} {ls : Array Slot} {rest : List Value} {G : va_G} {A : Nat → Prop} (ga : Nat → Nat) {cI cS : ClassId} {u : TM}  {r : TM} (S : CallFix p m c cc nL s args bw RX5) (hK : va_K G vwCl (tysW cI cS) s) (hN : NW s) (hP : va_P G vwCl (wM cI ga u) H) (hD : va_D A (wM cI ga u)) (hf : fX5_save u = some r) (hsz : ls.size = nL) (hst : (rest.map fun v => v.category).sum ≤ 8) (hR : rmX5_save.frames + 1 ≤ R.frames ∧ 8 + (2 + 11) + rmX5_save.locals ≤ R.locals) (hdg : decode cc pc = .ok (.invokevirtual 150, 3)) (hcs : cells + 0 ≤ R.cells ∧ slots + 0 ≤ R.slots) : va_Run p l e R s m args below meth c H locs cells slots 0 0 (F0 m pc ls (.ref (ga 0) :: rest)) rest (va_Qv (fun u' => u' = r) (PoM G (tysW cI cS) (va_A (wM cI ga u) H.size) (wM cI ga)) (va_A (wM cI ga u) H.size) (#[.ref (ga 0)] : Array Value)) (va_A (wM cI ga u) H.size) :=
  va_runV (As := []) (rest := rest) S (kX5_save l G cI cS ga H.size u r hf) (cwV 0 S.2.2.2.2 (gdV q_537 q_538 q_539 q_392 q_525) rfl rfl rfl (by decide +kernel) hR) (pvM (q := (RX5, TX5, 12)) hK hN hP hD (ci := 5) (q0 := 0) rfl rfl) rfl rfl hsz rfl (lv_room hst) hdg hcs
theorem cc_X5_153 {p : Program} {l : Launch} {e : Env} {R : Room} {s : State} {m : MethodId} {args : Array Value} {below : List Frame} {meth : Method} {c : Code} {H : Heap} {locs : List Loc} {cells slots : Nat} {cc : ByteArray} {pc nL : Nat} {ls : Array Slot} {rest : List Value} {G : va_G} {A : Nat → Prop} (ga : Nat → Nat) {cI cS : ClassId} {u : TM}  {p0 : Int32} {p1 : Int32} {r : TM} (S : CallFix p m c cc nL s args bw RX5) (hK : va_K G vwCl (tysW cI cS) s) (hN : NW s) (hP : va_P G vwCl (wM cI ga u) H) (hD : va_D A (wM cI ga u)) (hf : fX5_takesBuffer u p0 p1 = some r) (hsz : ls.size = nL) (hst : (rest.map fun v => v.category).sum ≤ 8) (hR : rmX5_takesBuffer.frames + 1 ≤ R.frames ∧ 8 + (4 + 11) + rmX5_takesBuffer.locals ≤ R.locals) (hdg : decode cc pc = .ok (.invokevirtual 153, 3)) (hcs : cells + 0 ≤ R.cells ∧ slots + 0 ≤ R.slots) : va_Run p l e R s m args below meth c H locs cells slots 0 0 (F0 m pc ls (.int p1 :: .int p0 :: .ref (ga 0) :: rest)) rest (va_Qv (fun u' => u' = r) (PoM G (tysW cI cS) (va_A (wM cI ga u) H.size) (wM cI ga)) (va_A (wM cI ga u) H.size) (#[.ref (ga 0), .int p0, .int p1] : Array Value)) (va_A (wM cI ga u) H.size) :=
  va_runV (As := [.int p0, .int p1]) (rest := rest) S (kX5_takesBuffer l G cI cS ga H.size u p0 p1 r hf) (cwV 2 S.2.2.2.2 (gdV q_540 q_541 q_542 q_392 q_523) rfl rfl rfl (by decide +kernel) hR) (pvM (q := (RX5, TX5, 12)) hK hN hP hD (ci := 5) (q0 := 0) rfl rfl) rfl rfl hsz rfl (lv_room hst) hdg hcs
theorem cc_X5_156 {p : Program} {l : Launch} {e : Env} {R : Room} {s : State} {m : MethodId} {args : Array Value} {below : List Frame} {meth : Method} {c : Code} {H : Heap} {locs : List Loc} {cells slots : Nat} {cc : ByteArray} {pc nL : Nat} {ls : Array Slot} {rest : List Value} {G : va_G} {A : Nat → Prop} (ga : Nat → Nat) {cI cS : ClassId} {u : TM}  {r : Int32 × TM} (S : CallFix p m c cc nL s args bw RX5) (hK : va_K G vwCl (tysW cI cS) s) (hN : NW s) (hP : va_P G vwCl (wM cI ga u) H) (hD : va_D A (wM cI ga u)) (hf : fX5_inserts u = some r) (hsz : ls.size = nL) (hst : (rest.map fun v => v.category).sum ≤ 8) (hR : rmX5_inserts.frames + 1 ≤ R.frames ∧ 8 + (3 + 11) + rmX5_inserts.locals ≤ R.locals) (hdg : decode cc pc = .ok (.invokevirtual 156, 3)) (hcs : cells + 0 ≤ R.cells ∧ slots + 0 ≤ R.slots) : va_Run p l e R s m args below meth c H locs cells slots 0 0 (F0 m pc ls (.ref (ga 0) :: rest)) rest (va_Qi (fun r' u' => (r', u') = r) (PoM G (tysW cI cS) (va_A (wM cI ga u) H.size) (wM cI ga)) (va_A (wM cI ga u) H.size) (#[.ref (ga 0)] : Array Value)) (va_A (wM cI ga u) H.size) :=
  va_runV (As := []) (rest := rest) S (kX5_inserts l G cI cS ga H.size u r hf) (cwV 0 S.2.2.2.2 (gdV q_543 q_544 q_545 q_392 q_485) rfl rfl rfl (by decide +kernel) hR) (pvM (q := (RX5, TX5, 12)) hK hN hP hD (ci := 5) (q0 := 0) rfl rfl) rfl rfl hsz rfl (lv_room hst) hdg hcs
def fX5_insert_j23 (u : TM) (t0 : Int32) : Option (Int32 × TM) := ((fX5_holds u t0).bind fun z1 => (if z1.1 = 0 then some ((0 : Int32), z1.2) else ((fX5_save z1.2).bind fun z3 => ((fX5_takesBuffer z3 (0 : Int32) z3.1.2.2.1).bind fun z4 => ((fX5_inserts ((z4.1.1, z4.1.2.1, (0 : Int32), z4.1.2.2.2), z4.2)).bind fun z5 => some (z5.1, z5.2))))))
def fX5_insert (u : TM) : Option (Int32 × TM) := ((fX5_homeSize u.1.2.2.1).bind fun z6 => ((fX5_pageFor u z6 ((-1) : Int32) ((-1) : Int32)).bind fun z7 => (if z7 = ((-1) : Int32) then fX5_insert_j23 u (1 : Int32) else fX5_insert_j23 u (0 : Int32))))
abbrev rmX5_insert : Room := { frames := 7, cells := 0, slots := 0, locals := 158 }
set_option maxRecDepth 100000 in
set_option maxHeartbeats 4000000 in
theorem kX5_insert (l : Launch) (G : va_G) (cI cS : ClassId) (ga : Nat → Nat) (sz : Nat) (u : TM) (r : Int32 × TM) (hf : fX5_insert u = some r) : Met l yX5_insert (.code yX5_insert cX5_insert 1 (some .int) :: bw) rmX5_insert (va_Pc [.ref (ga 0)] (PreM G (tysW cI cS) (wM cI ga u) sz)) (va_Qi (fun r' u' => (r', u') = r) (PoM G (tysW cI cS) (va_A (wM cI ga u) sz) (wM cI ga)) (va_A (wM cI ga u) sz)) 0 0 (va_A (wM cI ga u) sz) := by
  refine enterM (own := RX5) (by decide) rfl (Nat.le_of_ble_eq_true rfl) ?_
  intro p e s m args below meth c A Q hAe hQ S hr hlocks hP hK hN hD hA hS ls hl
  rw [hAe] at hQ
  have hx := S.1; have hb := S.2.1; have hml := S.2.2.1; have hown := S.2.2.2.1; have hq := S.2.2.2.2
  have hl : lv_has ls 1 [(0, .ref (ga 0))] := hl
  have h := hf
  unfold fX5_insert at h
  have J23 : ∀ (u : TM) (t0 : Int32) , fX5_insert_j23 u t0 = some r → ∀ (H : Heap) (locs : List Loc), va_P G vwCl (wM cI ga u) H → va_D A (wM cI ga u) → va_S A s.heap H locs → ∀ ls : Array Slot, lv_has ls 1 [(0, .ref (ga 0))] → W p l e rmX5_insert s m args below meth c H locs 0 0 Q (F0 m 23 ls [.int t0, .ref (ga 0)]) := by
    intro u t0 h
    unfold fX5_insert_j23 at h
    intro H locs hP hD hS ls hl
    obtain ⟨z1, e_z1, h⟩ := bnd h
    refine mui (cc_X5_146 ga S hK hN hP hD e_z1 hl.1 (Nat.le_of_ble_eq_true rfl) ⟨Nat.le_of_ble_eq_true rfl, Nat.le_of_ble_eq_true rfl⟩ dX5_insert_23 ⟨Nat.le_of_ble_eq_true rfl, Nat.le_of_ble_eq_true rfl⟩) hS hD (va_free hD hS hA [0, 1, 2, 3, 4] rfl) (fun H locs hP hD hS => ?_)
    have hP : va_P G vwCl (wM cI ga z1.2) H := hP
    have hD : va_D A (wM cI ga z1.2) := hD
    refine lv_if_ne (tgt := 31) hx hb dX5_insert_26 (by decide) (fun c2 => ?_) (fun c2 => ?_)
    · have h := (if_neg c2).symm.trans h
      refine lv_aload_n hx hb dX5_insert_31 rfl (lv_at hl 0 rfl) ?_
      obtain ⟨z3, e_z3, h⟩ := bnd h
      refine muv (cc_X5_150 ga S hK hN hP hD e_z3 hl.1 (Nat.le_of_ble_eq_true rfl) ⟨Nat.le_of_ble_eq_true rfl, Nat.le_of_ble_eq_true rfl⟩ dX5_insert_32 ⟨Nat.le_of_ble_eq_true rfl, Nat.le_of_ble_eq_true rfl⟩) hS hD (va_free hD hS hA [0, 1, 2, 3, 4] rfl) (fun H locs hP hD hS => ?_)
      have hP : va_P G vwCl (wM cI ga z3) H := hP
      have hD : va_D A (wM cI ga z3) := hD
      refine lv_aload_n hx hb dX5_insert_35 rfl (lv_at hl 0 rfl) ?_
      refine lv_iconst (v := 0) hx hb dX5_insert_36 (by decide) ?_
      refine lv_aload_n hx hb dX5_insert_37 rfl (lv_at hl 0 rfl) ?_
      refine gf_X5_143 S hK hN hP 0 rfl (v := .int z3.1.2.2.1) rfl dX5_insert_38 ?_
      obtain ⟨z4, e_z4, h⟩ := bnd h
      refine muv (cc_X5_153 ga S hK hN hP hD e_z4 hl.1 (Nat.le_of_ble_eq_true rfl) ⟨Nat.le_of_ble_eq_true rfl, Nat.le_of_ble_eq_true rfl⟩ dX5_insert_41 ⟨Nat.le_of_ble_eq_true rfl, Nat.le_of_ble_eq_true rfl⟩) hS hD (va_free hD hS hA [0, 1, 2, 3, 4] rfl) (fun H locs hP hD hS => ?_)
      have hP : va_P G vwCl (wM cI ga z4) H := hP
      have hD : va_D A (wM cI ga z4) := hD
      refine lv_aload_n hx hb dX5_insert_44 rfl (lv_at hl 0 rfl) ?_
      refine lv_iconst (v := 0) hx hb dX5_insert_45 (by decide) ?_
      refine pf_X5_143 S hK hN hP hD hS 0 rfl (Nat.le_of_ble_eq_true rfl) dX5_insert_46 (fun H locs hP hD hS => ?_)
      have hP : va_P G vwCl (wM cI ga ((z4.1.1, z4.1.2.1, (0 : Int32), z4.1.2.2.2), z4.2)) H := hP
      have hD : va_D A (wM cI ga ((z4.1.1, z4.1.2.1, (0 : Int32), z4.1.2.2.2), z4.2)) := hD
      refine lv_aload_n hx hb dX5_insert_49 rfl (lv_at hl 0 rfl) ?_
      obtain ⟨z5, e_z5, h⟩ := bnd h
      refine mui (cc_X5_156 ga S hK hN hP hD e_z5 hl.1 (Nat.le_of_ble_eq_true rfl) ⟨Nat.le_of_ble_eq_true rfl, Nat.le_of_ble_eq_true rfl⟩ dX5_insert_50 ⟨Nat.le_of_ble_eq_true rfl, Nat.le_of_ble_eq_true rfl⟩) hS hD (va_free hD hS hA [0, 1, 2, 3, 4] rfl) (fun H locs hP hD hS => ?_)
      have hP : va_P G vwCl (wM cI ga z5.2) H := hP
      have hD : va_D A (wM cI ga z5.2) := hD
      exact retMi hQ S hr hlocks hK hN hP hD hS h dX5_insert_53
    · have h := (if_pos c2).symm.trans h
      refine lv_iconst (v := 0) hx hb dX5_insert_29 (by decide) ?_
      exact retMi hQ S hr hlocks hK hN hP hD hS h dX5_insert_30
  refine lv_aload_n hx hb dX5_insert_0 rfl (lv_at hl 0 rfl) ?_
  refine lv_aload_n hx hb dX5_insert_1 rfl (lv_at hl 0 rfl) ?_
  refine lv_aload_n hx hb dX5_insert_2 rfl (lv_at hl 0 rfl) ?_
  refine gf_X5_143 S hK hN hP 0 rfl (v := .int u.1.2.2.1) rfl dX5_insert_3 ?_
  obtain ⟨z6, e_z6, h⟩ := bnd h
  refine roI (cc_X5_91 S hK hN va_P0 e_z6 hl.1 (Nat.le_of_ble_eq_true rfl) ⟨Nat.le_of_ble_eq_true rfl, Nat.le_of_ble_eq_true rfl⟩ dX5_insert_6 ⟨Nat.le_of_ble_eq_true rfl, Nat.le_of_ble_eq_true rfl⟩) ?_
  refine lv_iconst (v := (-1)) hx hb dX5_insert_9 (by decide) ?_
  refine lv_iconst (v := (-1)) hx hb dX5_insert_10 (by decide) ?_
  obtain ⟨z7, e_z7, h⟩ := bnd h
  refine roI (cc_X5_94 ga S hK hN hP e_z7 hl.1 (Nat.le_of_ble_eq_true rfl) ⟨Nat.le_of_ble_eq_true rfl, Nat.le_of_ble_eq_true rfl⟩ dX5_insert_11 ⟨Nat.le_of_ble_eq_true rfl, Nat.le_of_ble_eq_true rfl⟩) ?_
  refine lv_iconst (v := (-1)) hx hb dX5_insert_14 (by decide) ?_
  refine lv_icmp_ne (tgt := 22) hx hb dX5_insert_15 (by decide) (fun c8 => ?_) (fun c8 => ?_)
  · have h := (if_neg c8).symm.trans h
    refine lv_iconst (v := 0) hx hb dX5_insert_22 (by decide) ?_
    exact J23 u (0 : Int32) h _ _ hP hD hS _ (lv_sub hl [0] rfl)
  · have h := (if_pos c8).symm.trans h
    refine lv_iconst (v := 1) hx hb dX5_insert_18 (by decide) ?_
    refine lv_goto (tgt := 23) hx hb dX5_insert_19 (by decide) ?_
    exact J23 u (1 : Int32) h _ _ hP hD hS _ (lv_sub hl [0] rfl)

theorem cc_X5_160 {p : Program} {l : Launch} {e : Env} {R : Room} {s : State} {m : MethodId} {args : Array Value} {below : List Frame} {meth : Method} {c : Code} {H : Heap} {locs : List Loc} {cells slots : Nat} {cc : ByteArray} {pc nL : Nat} {ls : Array Slot} {rest : List Value} {G : va_G} (ga : Nat → Nat) {cI cS : ClassId} {u : TM}  {p0 : Int32} {r : Int32} (S : CallFix p m c cc nL s args bw RX5) (hK : va_K G vwCl (tysW cI cS) s) (hN : NW s) (hP : va_P G vwCl (wM cI ga u) H) (hf : fX5_isIdentifier u p0 = some r) (hsz : ls.size = nL) (hst : (rest.map fun v => v.category).sum ≤ 8) (hR : rmX5_isIdentifier.frames + 1 ≤ R.frames ∧ 8 + (2 + 11) + rmX5_isIdentifier.locals ≤ R.locals) (hdg : decode cc pc = .ok (.invokevirtual 160, 3)) (hcs : cells + 0 ≤ R.cells ∧ slots + 0 ≤ R.slots) : va_Run p l e R s m args below meth c H locs cells slots 0 0 (F0 m pc ls (.int p0 :: .ref (ga 0) :: rest)) rest (vp_Si (fun r' => r' = r) (#[.ref (ga 0), .int p0] : Array Value)) (fun _ => False) :=
  va_runV (As := [.int p0]) (rest := rest) S (kX5_isIdentifier l G cI cS ga u p0 r hf) (cwV 1 S.2.2.2.2 (gdV q_547 q_548 q_549 q_392 q_451) rfl rfl rfl (by decide +kernel) hR) (pvR (q := (RX5, TX5, 12)) hK hN hP (ci := 5) (q0 := 0) rfl rfl) rfl rfl hsz rfl (lv_room hst) hdg hcs
theorem cc_X5_163 {p : Program} {l : Launch} {e : Env} {R : Room} {s : State} {m : MethodId} {args : Array Value} {below : List Frame} {meth : Method} {c : Code} {H : Heap} {locs : List Loc} {cells slots : Nat} {cc : ByteArray} {pc nL : Nat} {ls : Array Slot} {rest : List Value} {G : va_G} {A : Nat → Prop} (ga : Nat → Nat) {cI cS : ClassId} {u : TM}  {p0 : Int32} {r : Int32 × TM} (S : CallFix p m c cc nL s args bw RX5) (hK : va_K G vwCl (tysW cI cS) s) (hN : NW s) (hP : va_P G vwCl (wM cI ga u) H) (hD : va_D A (wM cI ga u)) (hf : fX5_updates u p0 = some r) (hsz : ls.size = nL) (hst : (rest.map fun v => v.category).sum ≤ 8) (hR : rmX5_updates.frames + 1 ≤ R.frames ∧ 8 + (4 + 11) + rmX5_updates.locals ≤ R.locals) (hdg : decode cc pc = .ok (.invokevirtual 163, 3)) (hcs : cells + 0 ≤ R.cells ∧ slots + 0 ≤ R.slots) : va_Run p l e R s m args below meth c H locs cells slots 0 0 (F0 m pc ls (.int p0 :: .ref (ga 0) :: rest)) rest (va_Qi (fun r' u' => (r', u') = r) (PoM G (tysW cI cS) (va_A (wM cI ga u) H.size) (wM cI ga)) (va_A (wM cI ga u) H.size) (#[.ref (ga 0), .int p0] : Array Value)) (va_A (wM cI ga u) H.size) :=
  va_runV (As := [.int p0]) (rest := rest) S (kX5_updates l G cI cS ga H.size u p0 r hf) (cwV 1 S.2.2.2.2 (gdV q_550 q_551 q_552 q_392 q_510) rfl rfl rfl (by decide +kernel) hR) (pvM (q := (RX5, TX5, 12)) hK hN hP hD (ci := 5) (q0 := 0) rfl rfl) rfl rfl hsz rfl (lv_room hst) hdg hcs
def fX5_update_j33 (u : TM) (x1 : Int32) (t0 : Int32) : Option (Int32 × TM) := ((fX5_holds u t0).bind fun z1 => (if z1.1 = 0 then some ((0 : Int32), z1.2) else ((fX5_save z1.2).bind fun z3 => ((fX5_takesBuffer z3 (0 : Int32) z3.1.2.2.1).bind fun z4 => ((fX5_updates ((z4.1.1, z4.1.2.1, (0 : Int32), z4.1.2.2.2), z4.2) x1).bind fun z5 => some (z5.1, z5.2))))))
def fX5_update (u : TM) (p0 : Int32) : Option (Int32 × TM) := ((fX5_isIdentifier u p0).bind fun z6 => (if z6 = 0 then fX5_update_j33 u p0 (1 : Int32) else ((fX5_way u p0 u.1.2.2.1).bind fun z8 => (if z8 = ((-1) : Int32) then fX5_update_j33 u p0 (2 : Int32) else fX5_update_j33 u p0 (0 : Int32)))))
abbrev rmX5_update : Room := { frames := 8, cells := 0, slots := 0, locals := 183 }
set_option maxRecDepth 100000 in
set_option maxHeartbeats 4000000 in
theorem kX5_update (l : Launch) (G : va_G) (cI cS : ClassId) (ga : Nat → Nat) (sz : Nat) (u : TM) (p0 : Int32) (r : Int32 × TM) (hf : fX5_update u p0 = some r) : Met l yX5_update (.code yX5_update cX5_update 3 (some .int) :: bw) rmX5_update (va_Pc [.ref (ga 0), .int p0] (PreM G (tysW cI cS) (wM cI ga u) sz)) (va_Qi (fun r' u' => (r', u') = r) (PoM G (tysW cI cS) (va_A (wM cI ga u) sz) (wM cI ga)) (va_A (wM cI ga u) sz)) 0 0 (va_A (wM cI ga u) sz) := by
  refine enterM (own := RX5) (by decide) rfl (Nat.le_of_ble_eq_true rfl) ?_
  intro p e s m args below meth c A Q hAe hQ S hr hlocks hP hK hN hD hA hS ls hl
  rw [hAe] at hQ
  have hx := S.1; have hb := S.2.1; have hml := S.2.2.1; have hown := S.2.2.2.1; have hq := S.2.2.2.2
  have hl : lv_has ls 3 [(0, .ref (ga 0)), (1, .int p0)] := hl
  have h := hf
  unfold fX5_update at h
  have J33 : ∀ (u : TM) (x1 : Int32) (t0 : Int32) , fX5_update_j33 u x1 t0 = some r → ∀ (H : Heap) (locs : List Loc), va_P G vwCl (wM cI ga u) H → va_D A (wM cI ga u) → va_S A s.heap H locs → ∀ ls : Array Slot, lv_has ls 3 [(0, .ref (ga 0)), (1, .int x1)] → W p l e rmX5_update s m args below meth c H locs 0 0 Q (F0 m 33 ls [.int t0, .ref (ga 0)]) := by
    intro u x1 t0 h
    unfold fX5_update_j33 at h
    intro H locs hP hD hS ls hl
    obtain ⟨z1, e_z1, h⟩ := bnd h
    refine mui (cc_X5_146 ga S hK hN hP hD e_z1 hl.1 (Nat.le_of_ble_eq_true rfl) ⟨Nat.le_of_ble_eq_true rfl, Nat.le_of_ble_eq_true rfl⟩ dX5_update_33 ⟨Nat.le_of_ble_eq_true rfl, Nat.le_of_ble_eq_true rfl⟩) hS hD (va_free hD hS hA [0, 1, 2, 3, 4] rfl) (fun H locs hP hD hS => ?_)
    have hP : va_P G vwCl (wM cI ga z1.2) H := hP
    have hD : va_D A (wM cI ga z1.2) := hD
    refine lv_if_ne (tgt := 41) hx hb dX5_update_36 (by decide) (fun c2 => ?_) (fun c2 => ?_)
    · have h := (if_neg c2).symm.trans h
      refine lv_aload_n hx hb dX5_update_41 rfl (lv_at hl 0 rfl) ?_
      obtain ⟨z3, e_z3, h⟩ := bnd h
      refine muv (cc_X5_150 ga S hK hN hP hD e_z3 hl.1 (Nat.le_of_ble_eq_true rfl) ⟨Nat.le_of_ble_eq_true rfl, Nat.le_of_ble_eq_true rfl⟩ dX5_update_42 ⟨Nat.le_of_ble_eq_true rfl, Nat.le_of_ble_eq_true rfl⟩) hS hD (va_free hD hS hA [0, 1, 2, 3, 4] rfl) (fun H locs hP hD hS => ?_)
      have hP : va_P G vwCl (wM cI ga z3) H := hP
      have hD : va_D A (wM cI ga z3) := hD
      refine lv_aload_n hx hb dX5_update_45 rfl (lv_at hl 0 rfl) ?_
      refine lv_iconst (v := 0) hx hb dX5_update_46 (by decide) ?_
      refine lv_aload_n hx hb dX5_update_47 rfl (lv_at hl 0 rfl) ?_
      refine gf_X5_143 S hK hN hP 0 rfl (v := .int z3.1.2.2.1) rfl dX5_update_48 ?_
      obtain ⟨z4, e_z4, h⟩ := bnd h
      refine muv (cc_X5_153 ga S hK hN hP hD e_z4 hl.1 (Nat.le_of_ble_eq_true rfl) ⟨Nat.le_of_ble_eq_true rfl, Nat.le_of_ble_eq_true rfl⟩ dX5_update_51 ⟨Nat.le_of_ble_eq_true rfl, Nat.le_of_ble_eq_true rfl⟩) hS hD (va_free hD hS hA [0, 1, 2, 3, 4] rfl) (fun H locs hP hD hS => ?_)
      have hP : va_P G vwCl (wM cI ga z4) H := hP
      have hD : va_D A (wM cI ga z4) := hD
      refine lv_aload_n hx hb dX5_update_54 rfl (lv_at hl 0 rfl) ?_
      refine lv_iconst (v := 0) hx hb dX5_update_55 (by decide) ?_
      refine pf_X5_143 S hK hN hP hD hS 0 rfl (Nat.le_of_ble_eq_true rfl) dX5_update_56 (fun H locs hP hD hS => ?_)
      have hP : va_P G vwCl (wM cI ga ((z4.1.1, z4.1.2.1, (0 : Int32), z4.1.2.2.2), z4.2)) H := hP
      have hD : va_D A (wM cI ga ((z4.1.1, z4.1.2.1, (0 : Int32), z4.1.2.2.2), z4.2)) := hD
      refine lv_aload_n hx hb dX5_update_59 rfl (lv_at hl 0 rfl) ?_
      refine lv_iload_n hx hb dX5_update_60 rfl (lv_at hl 1 rfl) ?_
      obtain ⟨z5, e_z5, h⟩ := bnd h
      refine mui (cc_X5_163 ga S hK hN hP hD e_z5 hl.1 (Nat.le_of_ble_eq_true rfl) ⟨Nat.le_of_ble_eq_true rfl, Nat.le_of_ble_eq_true rfl⟩ dX5_update_61 ⟨Nat.le_of_ble_eq_true rfl, Nat.le_of_ble_eq_true rfl⟩) hS hD (va_free hD hS hA [0, 1, 2, 3, 4] rfl) (fun H locs hP hD hS => ?_)
      have hP : va_P G vwCl (wM cI ga z5.2) H := hP
      have hD : va_D A (wM cI ga z5.2) := hD
      exact retMi hQ S hr hlocks hK hN hP hD hS h dX5_update_64
    · have h := (if_pos c2).symm.trans h
      refine lv_iconst (v := 0) hx hb dX5_update_39 (by decide) ?_
      exact retMi hQ S hr hlocks hK hN hP hD hS h dX5_update_40
  refine lv_aload_n hx hb dX5_update_0 rfl (lv_at hl 0 rfl) ?_
  refine lv_iload_n hx hb dX5_update_1 rfl (lv_at hl 1 rfl) ?_
  obtain ⟨z6, e_z6, h⟩ := bnd h
  refine roI (cc_X5_160 ga S hK hN hP e_z6 hl.1 (Nat.le_of_ble_eq_true rfl) ⟨Nat.le_of_ble_eq_true rfl, Nat.le_of_ble_eq_true rfl⟩ dX5_update_2 ⟨Nat.le_of_ble_eq_true rfl, Nat.le_of_ble_eq_true rfl⟩) ?_
  refine lv_istore_n (lv' := [(2, .int z6), (0, .ref (ga 0)), (1, .int p0)]) hx hb dX5_update_5 rfl hl (by decide) rfl (fun ls hl => ?_)
  refine lv_aload_n hx hb dX5_update_6 rfl (lv_at hl 1 rfl) ?_
  refine lv_iload_n hx hb dX5_update_7 rfl (lv_at hl 0 rfl) ?_
  refine lv_if_ne (tgt := 15) hx hb dX5_update_8 (by decide) (fun c7 => ?_) (fun c7 => ?_)
  · have h := (if_neg c7).symm.trans h
    refine lv_aload_n hx hb dX5_update_15 rfl (lv_at hl 1 rfl) ?_
    refine lv_iload_n hx hb dX5_update_16 rfl (lv_at hl 2 rfl) ?_
    refine lv_aload_n hx hb dX5_update_17 rfl (lv_at hl 1 rfl) ?_
    refine gf_X5_143 S hK hN hP 0 rfl (v := .int u.1.2.2.1) rfl dX5_update_18 ?_
    obtain ⟨z8, e_z8, h⟩ := bnd h
    refine roI (cc_X5_119 ga S hK hN hP e_z8 hl.1 (Nat.le_of_ble_eq_true rfl) ⟨Nat.le_of_ble_eq_true rfl, Nat.le_of_ble_eq_true rfl⟩ dX5_update_21 ⟨Nat.le_of_ble_eq_true rfl, Nat.le_of_ble_eq_true rfl⟩) ?_
    refine lv_iconst (v := (-1)) hx hb dX5_update_24 (by decide) ?_
    refine lv_icmp_ne (tgt := 32) hx hb dX5_update_25 (by decide) (fun c9 => ?_) (fun c9 => ?_)
    · have h := (if_neg c9).symm.trans h
      refine lv_iconst (v := 0) hx hb dX5_update_32 (by decide) ?_
      exact J33 u p0 (0 : Int32) h _ _ hP hD hS _ (lv_sub hl [1, 2] rfl)
    · have h := (if_pos c9).symm.trans h
      refine lv_iconst (v := 2) hx hb dX5_update_28 (by decide) ?_
      refine lv_goto (tgt := 33) hx hb dX5_update_29 (by decide) ?_
      exact J33 u p0 (2 : Int32) h _ _ hP hD hS _ (lv_sub hl [1, 2] rfl)
  · have h := (if_pos c7).symm.trans h
    refine lv_iconst (v := 1) hx hb dX5_update_11 (by decide) ?_
    refine lv_goto (tgt := 33) hx hb dX5_update_12 (by decide) ?_
    exact J33 u p0 (1 : Int32) h _ _ hP hD hS _ (lv_sub hl [1, 2] rfl)

theorem cc_X5_166 {p : Program} {l : Launch} {e : Env} {R : Room} {s : State} {m : MethodId} {args : Array Value} {below : List Frame} {meth : Method} {c : Code} {H : Heap} {locs : List Loc} {cells slots : Nat} {cc : ByteArray} {pc nL : Nat} {ls : Array Slot} {rest : List Value} {G : va_G} {A : Nat → Prop} (ga : Nat → Nat) {cI cS : ClassId} {u : TM}  {p0 : Int32} {r : Int32 × TM} (S : CallFix p m c cc nL s args bw RX5) (hK : va_K G vwCl (tysW cI cS) s) (hN : NW s) (hP : va_P G vwCl (wM cI ga u) H) (hD : va_D A (wM cI ga u)) (hf : fX5_deletes u p0 = some r) (hsz : ls.size = nL) (hst : (rest.map fun v => v.category).sum ≤ 8) (hR : rmX5_deletes.frames + 1 ≤ R.frames ∧ 8 + (4 + 11) + rmX5_deletes.locals ≤ R.locals) (hdg : decode cc pc = .ok (.invokevirtual 166, 3)) (hcs : cells + 0 ≤ R.cells ∧ slots + 0 ≤ R.slots) : va_Run p l e R s m args below meth c H locs cells slots 0 0 (F0 m pc ls (.int p0 :: .ref (ga 0) :: rest)) rest (va_Qi (fun r' u' => (r', u') = r) (PoM G (tysW cI cS) (va_A (wM cI ga u) H.size) (wM cI ga)) (va_A (wM cI ga u) H.size) (#[.ref (ga 0), .int p0] : Array Value)) (va_A (wM cI ga u) H.size) :=
  va_runV (As := [.int p0]) (rest := rest) S (kX5_deletes l G cI cS ga H.size u p0 r hf) (cwV 1 S.2.2.2.2 (gdV q_554 q_555 q_556 q_392 q_514) rfl rfl rfl (by decide +kernel) hR) (pvM (q := (RX5, TX5, 12)) hK hN hP hD (ci := 5) (q0 := 0) rfl rfl) rfl rfl hsz rfl (lv_room hst) hdg hcs
def fX5_delete_j14 (u : TM) (x1 : Int32) (t0 : Int32) : Option (Int32 × TM) := ((fX5_holds u t0).bind fun z1 => (if z1.1 = 0 then some ((0 : Int32), z1.2) else ((fX5_save z1.2).bind fun z3 => ((fX5_deletes z3 x1).bind fun z4 => some (z4.1, z4.2)))))
def fX5_delete (u : TM) (p0 : Int32) : Option (Int32 × TM) := ((fX5_isIdentifier u p0).bind fun z5 => (if z5 = 0 then fX5_delete_j14 u p0 (1 : Int32) else fX5_delete_j14 u p0 (0 : Int32)))
abbrev rmX5_delete : Room := { frames := 6, cells := 0, slots := 0, locals := 136 }
set_option maxRecDepth 100000 in
set_option maxHeartbeats 4000000 in
theorem kX5_delete (l : Launch) (G : va_G) (cI cS : ClassId) (ga : Nat → Nat) (sz : Nat) (u : TM) (p0 : Int32) (r : Int32 × TM) (hf : fX5_delete u p0 = some r) : Met l yX5_delete (.code yX5_delete cX5_delete 2 (some .int) :: bw) rmX5_delete (va_Pc [.ref (ga 0), .int p0] (PreM G (tysW cI cS) (wM cI ga u) sz)) (va_Qi (fun r' u' => (r', u') = r) (PoM G (tysW cI cS) (va_A (wM cI ga u) sz) (wM cI ga)) (va_A (wM cI ga u) sz)) 0 0 (va_A (wM cI ga u) sz) := by
  refine enterM (own := RX5) (by decide) rfl (Nat.le_of_ble_eq_true rfl) ?_
  intro p e s m args below meth c A Q hAe hQ S hr hlocks hP hK hN hD hA hS ls hl
  rw [hAe] at hQ
  have hx := S.1; have hb := S.2.1; have hml := S.2.2.1; have hown := S.2.2.2.1; have hq := S.2.2.2.2
  have hl : lv_has ls 2 [(0, .ref (ga 0)), (1, .int p0)] := hl
  have h := hf
  unfold fX5_delete at h
  have J14 : ∀ (u : TM) (x1 : Int32) (t0 : Int32) , fX5_delete_j14 u x1 t0 = some r → ∀ (H : Heap) (locs : List Loc), va_P G vwCl (wM cI ga u) H → va_D A (wM cI ga u) → va_S A s.heap H locs → ∀ ls : Array Slot, lv_has ls 2 [(0, .ref (ga 0)), (1, .int x1)] → W p l e rmX5_delete s m args below meth c H locs 0 0 Q (F0 m 14 ls [.int t0, .ref (ga 0)]) := by
    intro u x1 t0 h
    unfold fX5_delete_j14 at h
    intro H locs hP hD hS ls hl
    obtain ⟨z1, e_z1, h⟩ := bnd h
    refine mui (cc_X5_146 ga S hK hN hP hD e_z1 hl.1 (Nat.le_of_ble_eq_true rfl) ⟨Nat.le_of_ble_eq_true rfl, Nat.le_of_ble_eq_true rfl⟩ dX5_delete_14 ⟨Nat.le_of_ble_eq_true rfl, Nat.le_of_ble_eq_true rfl⟩) hS hD (va_free hD hS hA [0, 1, 2, 3, 4] rfl) (fun H locs hP hD hS => ?_)
    have hP : va_P G vwCl (wM cI ga z1.2) H := hP
    have hD : va_D A (wM cI ga z1.2) := hD
    refine lv_if_ne (tgt := 22) hx hb dX5_delete_17 (by decide) (fun c2 => ?_) (fun c2 => ?_)
    · have h := (if_neg c2).symm.trans h
      refine lv_aload_n hx hb dX5_delete_22 rfl (lv_at hl 0 rfl) ?_
      obtain ⟨z3, e_z3, h⟩ := bnd h
      refine muv (cc_X5_150 ga S hK hN hP hD e_z3 hl.1 (Nat.le_of_ble_eq_true rfl) ⟨Nat.le_of_ble_eq_true rfl, Nat.le_of_ble_eq_true rfl⟩ dX5_delete_23 ⟨Nat.le_of_ble_eq_true rfl, Nat.le_of_ble_eq_true rfl⟩) hS hD (va_free hD hS hA [0, 1, 2, 3, 4] rfl) (fun H locs hP hD hS => ?_)
      have hP : va_P G vwCl (wM cI ga z3) H := hP
      have hD : va_D A (wM cI ga z3) := hD
      refine lv_aload_n hx hb dX5_delete_26 rfl (lv_at hl 0 rfl) ?_
      refine lv_iload_n hx hb dX5_delete_27 rfl (lv_at hl 1 rfl) ?_
      obtain ⟨z4, e_z4, h⟩ := bnd h
      refine mui (cc_X5_166 ga S hK hN hP hD e_z4 hl.1 (Nat.le_of_ble_eq_true rfl) ⟨Nat.le_of_ble_eq_true rfl, Nat.le_of_ble_eq_true rfl⟩ dX5_delete_28 ⟨Nat.le_of_ble_eq_true rfl, Nat.le_of_ble_eq_true rfl⟩) hS hD (va_free hD hS hA [0, 1, 2, 3, 4] rfl) (fun H locs hP hD hS => ?_)
      have hP : va_P G vwCl (wM cI ga z4.2) H := hP
      have hD : va_D A (wM cI ga z4.2) := hD
      exact retMi hQ S hr hlocks hK hN hP hD hS h dX5_delete_31
    · have h := (if_pos c2).symm.trans h
      refine lv_iconst (v := 0) hx hb dX5_delete_20 (by decide) ?_
      exact retMi hQ S hr hlocks hK hN hP hD hS h dX5_delete_21
  refine lv_aload_n hx hb dX5_delete_0 rfl (lv_at hl 0 rfl) ?_
  refine lv_aload_n hx hb dX5_delete_1 rfl (lv_at hl 0 rfl) ?_
  refine lv_iload_n hx hb dX5_delete_2 rfl (lv_at hl 1 rfl) ?_
  obtain ⟨z5, e_z5, h⟩ := bnd h
  refine roI (cc_X5_160 ga S hK hN hP e_z5 hl.1 (Nat.le_of_ble_eq_true rfl) ⟨Nat.le_of_ble_eq_true rfl, Nat.le_of_ble_eq_true rfl⟩ dX5_delete_3 ⟨Nat.le_of_ble_eq_true rfl, Nat.le_of_ble_eq_true rfl⟩) ?_
  refine lv_if_eq (tgt := 13) hx hb dX5_delete_6 (by decide) (fun c6 => ?_) (fun c6 => ?_)
  · have h := (if_pos c6).symm.trans h
    refine lv_iconst (v := 1) hx hb dX5_delete_13 (by decide) ?_
    exact J14 u p0 (1 : Int32) h _ _ hP hD hS _ (lv_sub hl [0, 1] rfl)
  · have h := (if_neg c6).symm.trans h
    refine lv_iconst (v := 0) hx hb dX5_delete_9 (by decide) ?_
    refine lv_goto (tgt := 14) hx hb dX5_delete_10 (by decide) ?_
    exact J14 u p0 (0 : Int32) h _ _ hP hD hS _ (lv_sub hl [0, 1] rfl)

theorem cc_X5_169 {p : Program} {l : Launch} {e : Env} {R : Room} {s : State} {m : MethodId} {args : Array Value} {below : List Frame} {meth : Method} {c : Code} {H : Heap} {locs : List Loc} {cells slots : Nat} {cc : ByteArray} {pc nL : Nat} {ls : Array Slot} {rest : List Value} {G : va_G} {A : Nat → Prop} (ga : Nat → Nat) {cI cS : ClassId} {u : TM}  {r : Int32 × TM} (S : CallFix p m c cc nL s args bw RX5) (hK : va_K G vwCl (tysW cI cS) s) (hN : NW s) (hP : va_P G vwCl (wM cI ga u) H) (hD : va_D A (wM cI ga u)) (hf : fX5_returnsAll u = some r) (hsz : ls.size = nL) (hst : (rest.map fun v => v.category).sum ≤ 8) (hR : rmX5_returnsAll.frames + 1 ≤ R.frames ∧ 8 + (3 + 11) + rmX5_returnsAll.locals ≤ R.locals) (hdg : decode cc pc = .ok (.invokevirtual 169, 3)) (hcs : cells + 0 ≤ R.cells ∧ slots + 0 ≤ R.slots) : va_Run p l e R s m args below meth c H locs cells slots 0 0 (F0 m pc ls (.ref (ga 0) :: rest)) rest (va_Qi (fun r' u' => (r', u') = r) (PoM G (tysW cI cS) (va_A (wM cI ga u) H.size) (wM cI ga)) (va_A (wM cI ga u) H.size) (#[.ref (ga 0)] : Array Value)) (va_A (wM cI ga u) H.size) :=
  va_runV (As := []) (rest := rest) S (kX5_returnsAll l G cI cS ga H.size u r hf) (cwV 0 S.2.2.2.2 (gdV q_558 q_559 q_560 q_392 q_522) rfl rfl rfl (by decide +kernel) hR) (pvM (q := (RX5, TX5, 12)) hK hN hP hD (ci := 5) (q0 := 0) rfl rfl) rfl rfl hsz rfl (lv_room hst) hdg hcs
def fX5_bringHome (u : TM) : Option (Int32 × TM) := ((fX5_save (((0 : Int32), u.1.2), u.2)).bind fun z1 => ((fX5_returnsAll z1).bind fun z2 => some (z2.1, z2.2)))
abbrev rmX5_bringHome : Room := { frames := 8, cells := 0, slots := 0, locals := 181 }
set_option maxRecDepth 100000 in
set_option maxHeartbeats 4000000 in
theorem kX5_bringHome (l : Launch) (G : va_G) (cI cS : ClassId) (ga : Nat → Nat) (sz : Nat) (u : TM) (r : Int32 × TM) (hf : fX5_bringHome u = some r) : Met l yX5_bringHome (.code yX5_bringHome cX5_bringHome 1 (some .int) :: bw) rmX5_bringHome (va_Pc [.ref (ga 0)] (PreM G (tysW cI cS) (wM cI ga u) sz)) (va_Qi (fun r' u' => (r', u') = r) (PoM G (tysW cI cS) (va_A (wM cI ga u) sz) (wM cI ga)) (va_A (wM cI ga u) sz)) 0 0 (va_A (wM cI ga u) sz) := by
  refine enterM (own := RX5) (by decide) rfl (Nat.le_of_ble_eq_true rfl) ?_
  intro p e s m args below meth c A Q hAe hQ S hr hlocks hP hK hN hD hA hS ls hl
  rw [hAe] at hQ
  have hx := S.1; have hb := S.2.1; have hml := S.2.2.1; have hown := S.2.2.2.1; have hq := S.2.2.2.2
  have hl : lv_has ls 1 [(0, .ref (ga 0))] := hl
  have h := hf
  unfold fX5_bringHome at h
  refine lv_aload_n hx hb dX5_bringHome_0 rfl (lv_at hl 0 rfl) ?_
  refine lv_iconst (v := 0) hx hb dX5_bringHome_1 (by decide) ?_
  refine pf_X5_22 S hK hN hP hD hS 0 rfl (Nat.le_of_ble_eq_true rfl) dX5_bringHome_2 (fun H locs hP hD hS => ?_)
  have hP : va_P G vwCl (wM cI ga (((0 : Int32), u.1.2), u.2)) H := hP
  have hD : va_D A (wM cI ga (((0 : Int32), u.1.2), u.2)) := hD
  refine lv_aload_n hx hb dX5_bringHome_5 rfl (lv_at hl 0 rfl) ?_
  obtain ⟨z1, e_z1, h⟩ := bnd h
  refine muv (cc_X5_150 ga S hK hN hP hD e_z1 hl.1 (Nat.le_of_ble_eq_true rfl) ⟨Nat.le_of_ble_eq_true rfl, Nat.le_of_ble_eq_true rfl⟩ dX5_bringHome_6 ⟨Nat.le_of_ble_eq_true rfl, Nat.le_of_ble_eq_true rfl⟩) hS hD (va_free hD hS hA [0, 1, 2, 3, 4] rfl) (fun H locs hP hD hS => ?_)
  have hP : va_P G vwCl (wM cI ga z1) H := hP
  have hD : va_D A (wM cI ga z1) := hD
  refine lv_aload_n hx hb dX5_bringHome_9 rfl (lv_at hl 0 rfl) ?_
  obtain ⟨z2, e_z2, h⟩ := bnd h
  refine mui (cc_X5_169 ga S hK hN hP hD e_z2 hl.1 (Nat.le_of_ble_eq_true rfl) ⟨Nat.le_of_ble_eq_true rfl, Nat.le_of_ble_eq_true rfl⟩ dX5_bringHome_10 ⟨Nat.le_of_ble_eq_true rfl, Nat.le_of_ble_eq_true rfl⟩) hS hD (va_free hD hS hA [0, 1, 2, 3, 4] rfl) (fun H locs hP hD hS => ?_)
  have hP : va_P G vwCl (wM cI ga z2.2) H := hP
  have hD : va_D A (wM cI ga z2.2) := hD
  exact retMi hQ S hr hlocks hK hN hP hD hS h dX5_bringHome_13

def fX5_isPage (u : TM) (p0 : Int32) : Option (Int32) := ((rd u.2.1 10724 (0 : Int32)).bind fun z1 => ((fX5_in p0 (0 : Int32) (z1 - (1 : Int32))).bind fun z2 => ((zO z2).bind fun z3 => some z3)))
abbrev rmX5_isPage : Room := { frames := 1, cells := 0, slots := 0, locals := 22 }
set_option maxRecDepth 100000 in
set_option maxHeartbeats 4000000 in
theorem kX5_isPage (l : Launch) (G : va_G) (cI cS : ClassId) (ga : Nat → Nat) (u : TM) (p0 : Int32) (r : Int32) (hf : fX5_isPage u p0 = some r) : Met l yX5_isPage (.code yX5_isPage cX5_isPage 2 (some .boolean) :: bw) rmX5_isPage (va_Pc [.ref (ga 0), .int p0] (PreR G (tysW cI cS) (wM cI ga u))) (vp_Si (fun r' => r' = r)) 0 0 (fun _ => False) := by
  refine enterR (own := RX5) (by decide) rfl rfl (Nat.le_of_ble_eq_true rfl) ?_
  intro p e s m args below meth c Q hQ S hr hlocks hP hK hN ls hl
  have hx := S.1; have hb := S.2.1; have hml := S.2.2.1; have hown := S.2.2.2.1; have hq := S.2.2.2.2
  have hl : lv_has ls 2 [(0, .ref (ga 0)), (1, .int p0)] := hl
  have h := hf
  unfold fX5_isPage at h
  refine lv_iload_n hx hb dX5_isPage_0 rfl (lv_at hl 1 rfl) ?_
  refine lv_iconst (v := 0) hx hb dX5_isPage_1 (by decide) ?_
  refine lv_aload_n hx hb dX5_isPage_2 rfl (lv_at hl 0 rfl) ?_
  refine gf_X5_7 S hK hN hP 0 rfl (v := .ref (ga 1)) rfl dX5_isPage_3 ?_
  refine lv_iconst (v := 0) hx hb dX5_isPage_6 (by decide) ?_
  obtain ⟨z1, e_z1, h⟩ := bnd h
  refine iaO (f := u.2.1) hx hb hK hP 1 0 rfl rfl e_z1 dX5_isPage_7 ?_
  refine lv_iconst (v := 1) hx hb dX5_isPage_8 (by decide) ?_
  refine lv_isub hx hb dX5_isPage_9 ?_
  obtain ⟨z2, e_z2, h⟩ := bnd h
  refine roI (cc_X5_78 S hK hN va_P0 e_z2 hl.1 (Nat.le_of_ble_eq_true rfl) ⟨Nat.le_of_ble_eq_true rfl, Nat.le_of_ble_eq_true rfl⟩ dX5_isPage_10 ⟨Nat.le_of_ble_eq_true rfl, Nat.le_of_ble_eq_true rfl⟩) ?_
  obtain ⟨z3, e_z3, h⟩ := bnd h
  obtain ⟨q_z3, k_z3⟩ := zO_in e_z3
  rw [← q_z3] at h
  exact retRz hQ S hr hlocks (by rcases k_z3 with q | q <;> rw [q] <;> rfl) h dX5_isPage_13

theorem cc_X5_172 {p : Program} {l : Launch} {e : Env} {R : Room} {s : State} {m : MethodId} {args : Array Value} {below : List Frame} {meth : Method} {c : Code} {H : Heap} {locs : List Loc} {cells slots : Nat} {cc : ByteArray} {pc nL : Nat} {ls : Array Slot} {rest : List Value} {G : va_G} (ga : Nat → Nat) {cI cS : ClassId} {u : TM}  {p0 : Int32} {r : Int32} (S : CallFix p m c cc nL s args bw RX5) (hK : va_K G vwCl (tysW cI cS) s) (hN : NW s) (hP : va_P G vwCl (wM cI ga u) H) (hf : fX5_isPage u p0 = some r) (hsz : ls.size = nL) (hst : (rest.map fun v => v.category).sum ≤ 8) (hR : rmX5_isPage.frames + 1 ≤ R.frames ∧ 8 + (2 + 11) + rmX5_isPage.locals ≤ R.locals) (hdg : decode cc pc = .ok (.invokevirtual 172, 3)) (hcs : cells + 0 ≤ R.cells ∧ slots + 0 ≤ R.slots) : va_Run p l e R s m args below meth c H locs cells slots 0 0 (F0 m pc ls (.int p0 :: .ref (ga 0) :: rest)) rest (vp_Si (fun r' => r' = r) (#[.ref (ga 0), .int p0] : Array Value)) (fun _ => False) :=
  va_runV (As := [.int p0]) (rest := rest) S (kX5_isPage l G cI cS ga u p0 r hf) (cwV 1 S.2.2.2.2 (gdV q_563 q_564 q_565 q_392 q_562) rfl rfl rfl (by decide +kernel) hR) (pvR (q := (RX5, TX5, 12)) hK hN hP (ci := 5) (q0 := 0) rfl rfl) rfl rfl hsz rfl (lv_room hst) hdg hcs
def fX5_compact_j14 (u : TM) (x1 : Int32) (t0 : Int32) : Option (Int32 × TM) := ((fX5_holds u t0).bind fun z1 => (if z1.1 = 0 then some ((0 : Int32), z1.2) else ((fX5_save z1.2).bind fun z3 => ((fX5_compacts z3 x1).bind fun z4 => some (z4.1, z4.2)))))
def fX5_compact (u : TM) (p0 : Int32) : Option (Int32 × TM) := ((fX5_isPage u p0).bind fun z5 => (if z5 = 0 then fX5_compact_j14 u p0 (1 : Int32) else fX5_compact_j14 u p0 (0 : Int32)))
abbrev rmX5_compact : Room := { frames := 3, cells := 0, slots := 0, locals := 71 }
set_option maxRecDepth 100000 in
set_option maxHeartbeats 4000000 in
theorem kX5_compact (l : Launch) (G : va_G) (cI cS : ClassId) (ga : Nat → Nat) (sz : Nat) (u : TM) (p0 : Int32) (r : Int32 × TM) (hf : fX5_compact u p0 = some r) : Met l yX5_compact (.code yX5_compact cX5_compact 2 (some .int) :: bw) rmX5_compact (va_Pc [.ref (ga 0), .int p0] (PreM G (tysW cI cS) (wM cI ga u) sz)) (va_Qi (fun r' u' => (r', u') = r) (PoM G (tysW cI cS) (va_A (wM cI ga u) sz) (wM cI ga)) (va_A (wM cI ga u) sz)) 0 0 (va_A (wM cI ga u) sz) := by
  refine enterM (own := RX5) (by decide) rfl (Nat.le_of_ble_eq_true rfl) ?_
  intro p e s m args below meth c A Q hAe hQ S hr hlocks hP hK hN hD hA hS ls hl
  rw [hAe] at hQ
  have hx := S.1; have hb := S.2.1; have hml := S.2.2.1; have hown := S.2.2.2.1; have hq := S.2.2.2.2
  have hl : lv_has ls 2 [(0, .ref (ga 0)), (1, .int p0)] := hl
  have h := hf
  unfold fX5_compact at h
  have J14 : ∀ (u : TM) (x1 : Int32) (t0 : Int32) , fX5_compact_j14 u x1 t0 = some r → ∀ (H : Heap) (locs : List Loc), va_P G vwCl (wM cI ga u) H → va_D A (wM cI ga u) → va_S A s.heap H locs → ∀ ls : Array Slot, lv_has ls 2 [(0, .ref (ga 0)), (1, .int x1)] → W p l e rmX5_compact s m args below meth c H locs 0 0 Q (F0 m 14 ls [.int t0, .ref (ga 0)]) := by
    intro u x1 t0 h
    unfold fX5_compact_j14 at h
    intro H locs hP hD hS ls hl
    obtain ⟨z1, e_z1, h⟩ := bnd h
    refine mui (cc_X5_146 ga S hK hN hP hD e_z1 hl.1 (Nat.le_of_ble_eq_true rfl) ⟨Nat.le_of_ble_eq_true rfl, Nat.le_of_ble_eq_true rfl⟩ dX5_compact_14 ⟨Nat.le_of_ble_eq_true rfl, Nat.le_of_ble_eq_true rfl⟩) hS hD (va_free hD hS hA [0, 1, 2, 3, 4] rfl) (fun H locs hP hD hS => ?_)
    have hP : va_P G vwCl (wM cI ga z1.2) H := hP
    have hD : va_D A (wM cI ga z1.2) := hD
    refine lv_if_ne (tgt := 22) hx hb dX5_compact_17 (by decide) (fun c2 => ?_) (fun c2 => ?_)
    · have h := (if_neg c2).symm.trans h
      refine lv_aload_n hx hb dX5_compact_22 rfl (lv_at hl 0 rfl) ?_
      obtain ⟨z3, e_z3, h⟩ := bnd h
      refine muv (cc_X5_150 ga S hK hN hP hD e_z3 hl.1 (Nat.le_of_ble_eq_true rfl) ⟨Nat.le_of_ble_eq_true rfl, Nat.le_of_ble_eq_true rfl⟩ dX5_compact_23 ⟨Nat.le_of_ble_eq_true rfl, Nat.le_of_ble_eq_true rfl⟩) hS hD (va_free hD hS hA [0, 1, 2, 3, 4] rfl) (fun H locs hP hD hS => ?_)
      have hP : va_P G vwCl (wM cI ga z3) H := hP
      have hD : va_D A (wM cI ga z3) := hD
      refine lv_aload_n hx hb dX5_compact_26 rfl (lv_at hl 0 rfl) ?_
      refine lv_iload_n hx hb dX5_compact_27 rfl (lv_at hl 1 rfl) ?_
      obtain ⟨z4, e_z4, h⟩ := bnd h
      refine mui (cc_X5_65 ga S hK hN hP hD e_z4 hl.1 (Nat.le_of_ble_eq_true rfl) ⟨Nat.le_of_ble_eq_true rfl, Nat.le_of_ble_eq_true rfl⟩ dX5_compact_28 ⟨Nat.le_of_ble_eq_true rfl, Nat.le_of_ble_eq_true rfl⟩) hS hD (va_free hD hS hA [0, 1, 2, 3, 4] rfl) (fun H locs hP hD hS => ?_)
      have hP : va_P G vwCl (wM cI ga z4.2) H := hP
      have hD : va_D A (wM cI ga z4.2) := hD
      exact retMi hQ S hr hlocks hK hN hP hD hS h dX5_compact_31
    · have h := (if_pos c2).symm.trans h
      refine lv_iconst (v := 0) hx hb dX5_compact_20 (by decide) ?_
      exact retMi hQ S hr hlocks hK hN hP hD hS h dX5_compact_21
  refine lv_aload_n hx hb dX5_compact_0 rfl (lv_at hl 0 rfl) ?_
  refine lv_aload_n hx hb dX5_compact_1 rfl (lv_at hl 0 rfl) ?_
  refine lv_iload_n hx hb dX5_compact_2 rfl (lv_at hl 1 rfl) ?_
  obtain ⟨z5, e_z5, h⟩ := bnd h
  refine roI (cc_X5_172 ga S hK hN hP e_z5 hl.1 (Nat.le_of_ble_eq_true rfl) ⟨Nat.le_of_ble_eq_true rfl, Nat.le_of_ble_eq_true rfl⟩ dX5_compact_3 ⟨Nat.le_of_ble_eq_true rfl, Nat.le_of_ble_eq_true rfl⟩) ?_
  refine lv_if_eq (tgt := 13) hx hb dX5_compact_6 (by decide) (fun c6 => ?_) (fun c6 => ?_)
  · have h := (if_pos c6).symm.trans h
    refine lv_iconst (v := 1) hx hb dX5_compact_13 (by decide) ?_
    exact J14 u p0 (1 : Int32) h _ _ hP hD hS _ (lv_sub hl [0, 1] rfl)
  · have h := (if_neg c6).symm.trans h
    refine lv_iconst (v := 0) hx hb dX5_compact_9 (by decide) ?_
    refine lv_goto (tgt := 14) hx hb dX5_compact_10 (by decide) ?_
    exact J14 u p0 (0 : Int32) h _ _ hP hD hS _ (lv_sub hl [0, 1] rfl)

def fX5_counted_j45 (u : TM) (x1 : Int32) (x2 : Int32) (x4 : Int32) (t0 : Int32) (t1 : Int32) : Option ((Int32 × Int32 × Int32 × Int32) ⊕ (Int32)) := some (.inl (x1, x2, (t1 + t0), (x4 + 1)))
def fX5_counted_j40 (u : TM) (x1 : Int32) (x2 : Int32) (x4 : Int32) (t0 : Int32) : Option ((Int32 × Int32 × Int32 × Int32) ⊕ (Int32)) := fX5_counted_j45 u x1 x2 x4 (1 : Int32) t0
def fX5_counted_s5 (u : TM) (x1 : Int32) (x2 : Int32) (x3 : Int32) (x4 : Int32) : Option ((Int32 × Int32 × Int32 × Int32) ⊕ (Int32)) := ((rd u.2.1 10724 (0 : Int32)).bind fun z1 => (if ((100 : Int32) * z1) ≤ x4 then some (.inr x3) else ((fX5_kindAt u x4).bind fun z3 => (if z3 = x1 then fX5_counted_j40 u x1 x2 x4 x3 else ((fX5_kindAt u x4).bind fun z5 => (if z5 = x2 then fX5_counted_j40 u x1 x2 x4 x3 else fX5_counted_j45 u x1 x2 x4 (0 : Int32) x3))))))
def fX5_counted (u : TM) (p0 : Int32) (p1 : Int32) : Option (Int32) := ((itr (fun a : Int32 × Int32 × Int32 × Int32 => fX5_counted_s5 u a.1 a.2.1 a.2.2.1 a.2.2.2) FU (p0, p1, (0 : Int32), (0 : Int32))).bind fun b7 => some b7)
abbrev rmX5_counted : Room := { frames := 3, cells := 0, slots := 0, locals := 68 }
set_option maxRecDepth 100000 in
set_option maxHeartbeats 4000000 in
theorem kX5_counted (l : Launch) (G : va_G) (cI cS : ClassId) (ga : Nat → Nat) (u : TM) (p0 : Int32) (p1 : Int32) (r : Int32) (hf : fX5_counted u p0 p1 = some r) : Met l yX5_counted (.code yX5_counted cX5_counted 5 (some .int) :: bw) rmX5_counted (va_Pc [.ref (ga 0), .int p0, .int p1] (PreR G (tysW cI cS) (wM cI ga u))) (vp_Si (fun r' => r' = r)) 0 0 (fun _ => False) := by
  refine enterR (own := RX5) (by decide) rfl rfl (Nat.le_of_ble_eq_true rfl) ?_
  intro p e s m args below meth c Q hQ S hr hlocks hP hK hN ls hl
  have hx := S.1; have hb := S.2.1; have hml := S.2.2.1; have hown := S.2.2.2.1; have hq := S.2.2.2.2
  have hl : lv_has ls 5 [(0, .ref (ga 0)), (1, .int p0), (2, .int p1)] := hl
  have h := hf
  unfold fX5_counted at h
  have L5 : ∀ (n9 : Nat) (a9 : Int32 × Int32 × Int32 × Int32) (b9 : Int32), itr (fun a : Int32 × Int32 × Int32 × Int32 => fX5_counted_s5 u a.1 a.2.1 a.2.2.1 a.2.2.2) n9 a9 = some b9 → (fun b : Int32 => ∀ ls : Array Slot, lv_has ls 5 [(3, .int b)] → W p l e rmX5_counted s m args below meth c s.heap [] 0 0 Q (F0 m 53 ls [])) b9 → (fun a : Int32 × Int32 × Int32 × Int32 => ∀ ls : Array Slot, lv_has ls 5 [(0, .ref (ga 0)), (1, .int a.1), (2, .int a.2.1), (3, .int a.2.2.1), (4, .int a.2.2.2)] → W p l e rmX5_counted s m args below meth c s.heap [] 0 0 Q (F0 m 5 ls [])) a9 := by
    refine itr_ind (Inv := (fun a : Int32 × Int32 × Int32 × Int32 => ∀ ls : Array Slot, lv_has ls 5 [(0, .ref (ga 0)), (1, .int a.1), (2, .int a.2.1), (3, .int a.2.2.1), (4, .int a.2.2.2)] → W p l e rmX5_counted s m args below meth c s.heap [] 0 0 Q (F0 m 5 ls []))) (Ex := (fun b : Int32 => ∀ ls : Array Slot, lv_has ls 5 [(3, .int b)] → W p l e rmX5_counted s m args below meth c s.heap [] 0 0 Q (F0 m 53 ls []))) ?_
    rintro ⟨x1, x2, x3, x4⟩ z h hI hE
    have h : fX5_counted_s5 u x1 x2 x3 x4 = some z := h
    unfold fX5_counted_s5 at h
    show ∀ ls : Array Slot, lv_has ls 5 [(0, .ref (ga 0)), (1, .int x1), (2, .int x2), (3, .int x3), (4, .int x4)] → W p l e rmX5_counted s m args below meth c s.heap [] 0 0 Q (F0 m 5 ls [])
    have J45 : ∀ (x1 : Int32) (x2 : Int32) (x4 : Int32) (t0 : Int32) (t1 : Int32) , fX5_counted_j45 u x1 x2 x4 t0 t1 = some z → ∀ ls : Array Slot, lv_has ls 5 [(0, .ref (ga 0)), (1, .int x1), (2, .int x2), (4, .int x4)] → W p l e rmX5_counted s m args below meth c s.heap [] 0 0 Q (F0 m 45 ls [.int t0, .int t1]) := by
      intro x1 x2 x4 t0 t1 h
      unfold fX5_counted_j45 at h
      intro ls hl
      refine lv_iadd hx hb dX5_counted_45 ?_
      refine lv_istore_n (lv' := [(3, .int (t1 + t0)), (0, .ref (ga 0)), (1, .int x1), (2, .int x2), (4, .int x4)]) hx hb dX5_counted_46 rfl hl (by decide) rfl (fun ls hl => ?_)
      refine lv_iinc (v := (x4 + 1)) (lv' := [(4, .int (x4 + 1)), (3, .int (t1 + t0)), (0, .ref (ga 0)), (1, .int x1), (2, .int x2)]) hx hb dX5_counted_47 hl (k := 4) rfl rfl (by decide) rfl (fun ls hl => ?_)
      refine lv_goto (tgt := 5) hx hb dX5_counted_50 (by decide) ?_
      exact hI _ (Option.some.inj h) _ (lv_sub hl [2, 3, 4, 1, 0] rfl)
    have J40 : ∀ (x1 : Int32) (x2 : Int32) (x4 : Int32) (t0 : Int32) , fX5_counted_j40 u x1 x2 x4 t0 = some z → ∀ ls : Array Slot, lv_has ls 5 [(0, .ref (ga 0)), (1, .int x1), (2, .int x2), (4, .int x4)] → W p l e rmX5_counted s m args below meth c s.heap [] 0 0 Q (F0 m 40 ls [.int t0]) := by
      intro x1 x2 x4 t0 h
      unfold fX5_counted_j40 at h
      intro ls hl
      refine lv_iconst (v := 1) hx hb dX5_counted_40 (by decide) ?_
      refine lv_goto (tgt := 45) hx hb dX5_counted_41 (by decide) ?_
      exact J45 x1 x2 x4 (1 : Int32) t0 h _ (lv_sub hl [0, 1, 2, 3] rfl)
    intro ls hl
    refine lv_iload hx hb dX5_counted_5 (lv_at hl 4 rfl) ?_
    refine lv_bipush (v := 100) hx hb dX5_counted_7 (by decide) ?_
    refine lv_aload_n hx hb dX5_counted_9 rfl (lv_at hl 0 rfl) ?_
    refine gf_X5_7 S hK hN hP 0 rfl (v := .ref (ga 1)) rfl dX5_counted_10 ?_
    refine lv_iconst (v := 0) hx hb dX5_counted_13 (by decide) ?_
    obtain ⟨z1, e_z1, h⟩ := bnd h
    refine iaO (f := u.2.1) hx hb hK hP 1 0 rfl rfl e_z1 dX5_counted_14 ?_
    refine lv_imul hx hb dX5_counted_15 ?_
    refine lv_icmp_ge (tgt := 53) hx hb dX5_counted_16 (by decide) (fun c2 => ?_) (fun c2 => ?_)
    · have h := (if_pos c2).symm.trans h
      exact hE _ (Option.some.inj h) _ (lv_sub hl [3] rfl)
    · have h := (if_neg c2).symm.trans h
      refine lv_iload_n hx hb dX5_counted_19 rfl (lv_at hl 3 rfl) ?_
      refine lv_aload_n hx hb dX5_counted_20 rfl (lv_at hl 0 rfl) ?_
      refine lv_iload hx hb dX5_counted_21 (lv_at hl 4 rfl) ?_
      obtain ⟨z3, e_z3, h⟩ := bnd h
      refine roI (cc_X5_75 ga S hK hN hP e_z3 hl.1 (Nat.le_of_ble_eq_true rfl) ⟨Nat.le_of_ble_eq_true rfl, Nat.le_of_ble_eq_true rfl⟩ dX5_counted_23 ⟨Nat.le_of_ble_eq_true rfl, Nat.le_of_ble_eq_true rfl⟩) ?_
      refine lv_iload_n hx hb dX5_counted_26 rfl (lv_at hl 1 rfl) ?_
      refine lv_icmp_eq (tgt := 40) hx hb dX5_counted_27 (by decide) (fun c4 => ?_) (fun c4 => ?_)
      · have h := (if_pos c4).symm.trans h
        exact J40 x1 x2 x4 x3 h _ (lv_sub hl [0, 1, 2, 4] rfl)
      · have h := (if_neg c4).symm.trans h
        refine lv_aload_n hx hb dX5_counted_30 rfl (lv_at hl 0 rfl) ?_
        refine lv_iload hx hb dX5_counted_31 (lv_at hl 4 rfl) ?_
        obtain ⟨z5, e_z5, h⟩ := bnd h
        refine roI (cc_X5_75 ga S hK hN hP e_z5 hl.1 (Nat.le_of_ble_eq_true rfl) ⟨Nat.le_of_ble_eq_true rfl, Nat.le_of_ble_eq_true rfl⟩ dX5_counted_33 ⟨Nat.le_of_ble_eq_true rfl, Nat.le_of_ble_eq_true rfl⟩) ?_
        refine lv_iload_n hx hb dX5_counted_36 rfl (lv_at hl 2 rfl) ?_
        refine lv_icmp_ne (tgt := 44) hx hb dX5_counted_37 (by decide) (fun c6 => ?_) (fun c6 => ?_)
        · have h := (if_neg c6).symm.trans h
          refine lv_iconst (v := 0) hx hb dX5_counted_44 (by decide) ?_
          exact J45 x1 x2 x4 (0 : Int32) x3 h _ (lv_sub hl [0, 1, 2, 4] rfl)
        · have h := (if_pos c6).symm.trans h
          exact J40 x1 x2 x4 x3 h _ (lv_sub hl [0, 1, 2, 4] rfl)
  refine lv_iconst (v := 0) hx hb dX5_counted_0 (by decide) ?_
  refine lv_istore_n (lv' := [(3, .int (0 : Int32)), (0, .ref (ga 0)), (1, .int p0), (2, .int p1)]) hx hb dX5_counted_1 rfl hl (by decide) rfl (fun ls hl => ?_)
  refine lv_iconst (v := 0) hx hb dX5_counted_2 (by decide) ?_
  refine lv_istore (lv' := [(4, .int (0 : Int32)), (3, .int (0 : Int32)), (0, .ref (ga 0)), (1, .int p0), (2, .int p1)]) hx hb dX5_counted_3 hl (by decide) rfl (fun ls hl => ?_)
  obtain ⟨b7, e_b7, h⟩ := bnd h
  refine L5 _ _ _ e_b7 ?_ _ (lv_sub hl [2, 3, 4, 1, 0] rfl)
  intro ls hl
  refine lv_iload_n hx hb dX5_counted_53 rfl (lv_at hl 0 rfl) ?_
  exact retR hQ S hr hlocks h dX5_counted_54

theorem cc_X5_175 {p : Program} {l : Launch} {e : Env} {R : Room} {s : State} {m : MethodId} {args : Array Value} {below : List Frame} {meth : Method} {c : Code} {H : Heap} {locs : List Loc} {cells slots : Nat} {cc : ByteArray} {pc nL : Nat} {ls : Array Slot} {rest : List Value} {G : va_G} (ga : Nat → Nat) {cI cS : ClassId} {u : TM}  {p0 : Int32} {p1 : Int32} {r : Int32} (S : CallFix p m c cc nL s args bw RX5) (hK : va_K G vwCl (tysW cI cS) s) (hN : NW s) (hP : va_P G vwCl (wM cI ga u) H) (hf : fX5_counted u p0 p1 = some r) (hsz : ls.size = nL) (hst : (rest.map fun v => v.category).sum ≤ 8) (hR : rmX5_counted.frames + 1 ≤ R.frames ∧ 8 + (5 + 11) + rmX5_counted.locals ≤ R.locals) (hdg : decode cc pc = .ok (.invokevirtual 175, 3)) (hcs : cells + 0 ≤ R.cells ∧ slots + 0 ≤ R.slots) : va_Run p l e R s m args below meth c H locs cells slots 0 0 (F0 m pc ls (.int p1 :: .int p0 :: .ref (ga 0) :: rest)) rest (vp_Si (fun r' => r' = r) (#[.ref (ga 0), .int p0, .int p1] : Array Value)) (fun _ => False) :=
  va_runV (As := [.int p0, .int p1]) (rest := rest) S (kX5_counted l G cI cS ga u p0 p1 r hf) (cwV 2 S.2.2.2.2 (gdV q_569 q_570 q_571 q_392 q_567) rfl rfl rfl (by decide +kernel) hR) (pvR (q := (RX5, TX5, 12)) hK hN hP (ci := 5) (q0 := 0) rfl rfl) rfl rfl hsz rfl (lv_room hst) hdg hcs
def fX5_rows (u : TM) : Option (Int32 × TM) := ((fX5_counted (((0 : Int32), u.1.2), u.2) (1 : Int32) (2 : Int32)).bind fun z1 => some (z1, ((0 : Int32), u.1.2), u.2))
abbrev rmX5_rows : Room := { frames := 4, cells := 0, slots := 0, locals := 92 }
set_option maxRecDepth 100000 in
set_option maxHeartbeats 4000000 in
theorem kX5_rows (l : Launch) (G : va_G) (cI cS : ClassId) (ga : Nat → Nat) (sz : Nat) (u : TM) (r : Int32 × TM) (hf : fX5_rows u = some r) : Met l yX5_rows (.code yX5_rows cX5_rows 1 (some .int) :: bw) rmX5_rows (va_Pc [.ref (ga 0)] (PreM G (tysW cI cS) (wM cI ga u) sz)) (va_Qi (fun r' u' => (r', u') = r) (PoM G (tysW cI cS) (va_A (wM cI ga u) sz) (wM cI ga)) (va_A (wM cI ga u) sz)) 0 0 (va_A (wM cI ga u) sz) := by
  refine enterM (own := RX5) (by decide) rfl (Nat.le_of_ble_eq_true rfl) ?_
  intro p e s m args below meth c A Q hAe hQ S hr hlocks hP hK hN hD hA hS ls hl
  rw [hAe] at hQ
  have hx := S.1; have hb := S.2.1; have hml := S.2.2.1; have hown := S.2.2.2.1; have hq := S.2.2.2.2
  have hl : lv_has ls 1 [(0, .ref (ga 0))] := hl
  have h := hf
  unfold fX5_rows at h
  refine lv_aload_n hx hb dX5_rows_0 rfl (lv_at hl 0 rfl) ?_
  refine lv_iconst (v := 0) hx hb dX5_rows_1 (by decide) ?_
  refine pf_X5_22 S hK hN hP hD hS 0 rfl (Nat.le_of_ble_eq_true rfl) dX5_rows_2 (fun H locs hP hD hS => ?_)
  have hP : va_P G vwCl (wM cI ga (((0 : Int32), u.1.2), u.2)) H := hP
  have hD : va_D A (wM cI ga (((0 : Int32), u.1.2), u.2)) := hD
  refine lv_aload_n hx hb dX5_rows_5 rfl (lv_at hl 0 rfl) ?_
  refine lv_iconst (v := 1) hx hb dX5_rows_6 (by decide) ?_
  refine lv_iconst (v := 2) hx hb dX5_rows_7 (by decide) ?_
  obtain ⟨z1, e_z1, h⟩ := bnd h
  refine roI (cc_X5_175 ga S hK hN hP e_z1 hl.1 (Nat.le_of_ble_eq_true rfl) ⟨Nat.le_of_ble_eq_true rfl, Nat.le_of_ble_eq_true rfl⟩ dX5_rows_8 ⟨Nat.le_of_ble_eq_true rfl, Nat.le_of_ble_eq_true rfl⟩) ?_
  exact retMi hQ S hr hlocks hK hN hP hD hS h dX5_rows_11

def fX5_isRow (u : TM) (p0 : Int32) : Option (Int32 × TM) := ((fX5_isIdentifier (((0 : Int32), u.1.2), u.2) p0).bind fun z1 => ((zO z1).bind fun z2 => some (z2, ((0 : Int32), u.1.2), u.2)))
abbrev rmX5_isRow : Room := { frames := 4, cells := 0, slots := 0, locals := 89 }
set_option maxRecDepth 100000 in
set_option maxHeartbeats 4000000 in
theorem kX5_isRow (l : Launch) (G : va_G) (cI cS : ClassId) (ga : Nat → Nat) (sz : Nat) (u : TM) (p0 : Int32) (r : Int32 × TM) (hf : fX5_isRow u p0 = some r) : Met l yX5_isRow (.code yX5_isRow cX5_isRow 2 (some .boolean) :: bw) rmX5_isRow (va_Pc [.ref (ga 0), .int p0] (PreM G (tysW cI cS) (wM cI ga u) sz)) (va_Qi (fun r' u' => (r', u') = r) (PoM G (tysW cI cS) (va_A (wM cI ga u) sz) (wM cI ga)) (va_A (wM cI ga u) sz)) 0 0 (va_A (wM cI ga u) sz) := by
  refine enterM (own := RX5) (by decide) rfl (Nat.le_of_ble_eq_true rfl) ?_
  intro p e s m args below meth c A Q hAe hQ S hr hlocks hP hK hN hD hA hS ls hl
  rw [hAe] at hQ
  have hx := S.1; have hb := S.2.1; have hml := S.2.2.1; have hown := S.2.2.2.1; have hq := S.2.2.2.2
  have hl : lv_has ls 2 [(0, .ref (ga 0)), (1, .int p0)] := hl
  have h := hf
  unfold fX5_isRow at h
  refine lv_aload_n hx hb dX5_isRow_0 rfl (lv_at hl 0 rfl) ?_
  refine lv_iconst (v := 0) hx hb dX5_isRow_1 (by decide) ?_
  refine pf_X5_22 S hK hN hP hD hS 0 rfl (Nat.le_of_ble_eq_true rfl) dX5_isRow_2 (fun H locs hP hD hS => ?_)
  have hP : va_P G vwCl (wM cI ga (((0 : Int32), u.1.2), u.2)) H := hP
  have hD : va_D A (wM cI ga (((0 : Int32), u.1.2), u.2)) := hD
  refine lv_aload_n hx hb dX5_isRow_5 rfl (lv_at hl 0 rfl) ?_
  refine lv_iload_n hx hb dX5_isRow_6 rfl (lv_at hl 1 rfl) ?_
  obtain ⟨z1, e_z1, h⟩ := bnd h
  refine roI (cc_X5_160 ga S hK hN hP e_z1 hl.1 (Nat.le_of_ble_eq_true rfl) ⟨Nat.le_of_ble_eq_true rfl, Nat.le_of_ble_eq_true rfl⟩ dX5_isRow_7 ⟨Nat.le_of_ble_eq_true rfl, Nat.le_of_ble_eq_true rfl⟩) ?_
  obtain ⟨z2, e_z2, h⟩ := bnd h
  obtain ⟨q_z2, k_z2⟩ := zO_in e_z2
  rw [← q_z2] at h
  exact retMz hQ S hr hlocks (by rcases k_z2 with q | q <;> rw [q] <;> rfl) hK hN hP hD hS h dX5_isRow_10

def fX5_length_j14 (u : TM) (x1 : Int32) (t0 : Int32) : Option (Int32 × TM) := ((fX5_holds u t0).bind fun z1 => (if z1.1 = 0 then some ((0 : Int32), z1.2) else ((fX5_lengthOf z1.2 x1).bind fun z3 => some (z3, z1.2))))
def fX5_length (u : TM) (p0 : Int32) : Option (Int32 × TM) := ((fX5_isIdentifier u p0).bind fun z4 => (if z4 = 0 then fX5_length_j14 u p0 (1 : Int32) else fX5_length_j14 u p0 (0 : Int32)))
abbrev rmX5_length : Room := { frames := 5, cells := 0, slots := 0, locals := 113 }
set_option maxRecDepth 100000 in
set_option maxHeartbeats 4000000 in
theorem kX5_length (l : Launch) (G : va_G) (cI cS : ClassId) (ga : Nat → Nat) (sz : Nat) (u : TM) (p0 : Int32) (r : Int32 × TM) (hf : fX5_length u p0 = some r) : Met l yX5_length (.code yX5_length cX5_length 2 (some .int) :: bw) rmX5_length (va_Pc [.ref (ga 0), .int p0] (PreM G (tysW cI cS) (wM cI ga u) sz)) (va_Qi (fun r' u' => (r', u') = r) (PoM G (tysW cI cS) (va_A (wM cI ga u) sz) (wM cI ga)) (va_A (wM cI ga u) sz)) 0 0 (va_A (wM cI ga u) sz) := by
  refine enterM (own := RX5) (by decide) rfl (Nat.le_of_ble_eq_true rfl) ?_
  intro p e s m args below meth c A Q hAe hQ S hr hlocks hP hK hN hD hA hS ls hl
  rw [hAe] at hQ
  have hx := S.1; have hb := S.2.1; have hml := S.2.2.1; have hown := S.2.2.2.1; have hq := S.2.2.2.2
  have hl : lv_has ls 2 [(0, .ref (ga 0)), (1, .int p0)] := hl
  have h := hf
  unfold fX5_length at h
  have J14 : ∀ (u : TM) (x1 : Int32) (t0 : Int32) , fX5_length_j14 u x1 t0 = some r → ∀ (H : Heap) (locs : List Loc), va_P G vwCl (wM cI ga u) H → va_D A (wM cI ga u) → va_S A s.heap H locs → ∀ ls : Array Slot, lv_has ls 2 [(0, .ref (ga 0)), (1, .int x1)] → W p l e rmX5_length s m args below meth c H locs 0 0 Q (F0 m 14 ls [.int t0, .ref (ga 0)]) := by
    intro u x1 t0 h
    unfold fX5_length_j14 at h
    intro H locs hP hD hS ls hl
    obtain ⟨z1, e_z1, h⟩ := bnd h
    refine mui (cc_X5_146 ga S hK hN hP hD e_z1 hl.1 (Nat.le_of_ble_eq_true rfl) ⟨Nat.le_of_ble_eq_true rfl, Nat.le_of_ble_eq_true rfl⟩ dX5_length_14 ⟨Nat.le_of_ble_eq_true rfl, Nat.le_of_ble_eq_true rfl⟩) hS hD (va_free hD hS hA [0, 1, 2, 3, 4] rfl) (fun H locs hP hD hS => ?_)
    have hP : va_P G vwCl (wM cI ga z1.2) H := hP
    have hD : va_D A (wM cI ga z1.2) := hD
    refine lv_if_eq (tgt := 28) hx hb dX5_length_17 (by decide) (fun c2 => ?_) (fun c2 => ?_)
    · have h := (if_pos c2).symm.trans h
      refine lv_iconst (v := 0) hx hb dX5_length_28 (by decide) ?_
      exact retMi hQ S hr hlocks hK hN hP hD hS h dX5_length_29
    · have h := (if_neg c2).symm.trans h
      refine lv_aload_n hx hb dX5_length_20 rfl (lv_at hl 0 rfl) ?_
      refine lv_iload_n hx hb dX5_length_21 rfl (lv_at hl 1 rfl) ?_
      obtain ⟨z3, e_z3, h⟩ := bnd h
      refine roI (cc_X5_128 ga S hK hN hP e_z3 hl.1 (Nat.le_of_ble_eq_true rfl) ⟨Nat.le_of_ble_eq_true rfl, Nat.le_of_ble_eq_true rfl⟩ dX5_length_22 ⟨Nat.le_of_ble_eq_true rfl, Nat.le_of_ble_eq_true rfl⟩) ?_
      refine lv_goto (tgt := 29) hx hb dX5_length_25 (by decide) ?_
      exact retMi hQ S hr hlocks hK hN hP hD hS h dX5_length_29
  refine lv_aload_n hx hb dX5_length_0 rfl (lv_at hl 0 rfl) ?_
  refine lv_aload_n hx hb dX5_length_1 rfl (lv_at hl 0 rfl) ?_
  refine lv_iload_n hx hb dX5_length_2 rfl (lv_at hl 1 rfl) ?_
  obtain ⟨z4, e_z4, h⟩ := bnd h
  refine roI (cc_X5_160 ga S hK hN hP e_z4 hl.1 (Nat.le_of_ble_eq_true rfl) ⟨Nat.le_of_ble_eq_true rfl, Nat.le_of_ble_eq_true rfl⟩ dX5_length_3 ⟨Nat.le_of_ble_eq_true rfl, Nat.le_of_ble_eq_true rfl⟩) ?_
  refine lv_if_eq (tgt := 13) hx hb dX5_length_6 (by decide) (fun c5 => ?_) (fun c5 => ?_)
  · have h := (if_pos c5).symm.trans h
    refine lv_iconst (v := 1) hx hb dX5_length_13 (by decide) ?_
    exact J14 u p0 (1 : Int32) h _ _ hP hD hS _ (lv_sub hl [0, 1] rfl)
  · have h := (if_neg c5).symm.trans h
    refine lv_iconst (v := 0) hx hb dX5_length_9 (by decide) ?_
    refine lv_goto (tgt := 14) hx hb dX5_length_10 (by decide) ?_
    exact J14 u p0 (0 : Int32) h _ _ hP hD hS _ (lv_sub hl [0, 1] rfl)

def fX5_byteOf_j31 (u : TM) (x1 : Int32) (x2 : Int32) (t0 : Int32) : Option (Int32 × TM) := ((fX5_holds u t0).bind fun z1 => (if z1.1 = 0 then some ((0 : Int32), z1.2) else ((fX5_byteOfRow z1.2 x1 x2).bind fun z3 => some (z3, z1.2))))
def fX5_byteOf_j30 (u : TM) (x1 : Int32) (x2 : Int32) : Option (Int32 × TM) := fX5_byteOf_j31 u x1 x2 (1 : Int32)
def fX5_byteOf (u : TM) (p0 : Int32) (p1 : Int32) : Option (Int32 × TM) := ((fX5_isIdentifier u p0).bind fun z4 => (if z4 = 0 then fX5_byteOf_j30 u p0 p1 else ((fX5_lengthOf u p0).bind fun z6 => ((fX5_in p1 (0 : Int32) (z6 - (1 : Int32))).bind fun z7 => (if z7 = 0 then fX5_byteOf_j30 u p0 p1 else fX5_byteOf_j31 u p0 p1 (0 : Int32))))))
abbrev rmX5_byteOf : Room := { frames := 5, cells := 0, slots := 0, locals := 113 }
set_option maxRecDepth 100000 in
set_option maxHeartbeats 4000000 in
theorem kX5_byteOf (l : Launch) (G : va_G) (cI cS : ClassId) (ga : Nat → Nat) (sz : Nat) (u : TM) (p0 : Int32) (p1 : Int32) (r : Int32 × TM) (hf : fX5_byteOf u p0 p1 = some r) : Met l yX5_byteOf (.code yX5_byteOf cX5_byteOf 4 (some .int) :: bw) rmX5_byteOf (va_Pc [.ref (ga 0), .int p0, .int p1] (PreM G (tysW cI cS) (wM cI ga u) sz)) (va_Qi (fun r' u' => (r', u') = r) (PoM G (tysW cI cS) (va_A (wM cI ga u) sz) (wM cI ga)) (va_A (wM cI ga u) sz)) 0 0 (va_A (wM cI ga u) sz) := by
  refine enterM (own := RX5) (by decide) rfl (Nat.le_of_ble_eq_true rfl) ?_
  intro p e s m args below meth c A Q hAe hQ S hr hlocks hP hK hN hD hA hS ls hl
  rw [hAe] at hQ
  have hx := S.1; have hb := S.2.1; have hml := S.2.2.1; have hown := S.2.2.2.1; have hq := S.2.2.2.2
  have hl : lv_has ls 4 [(0, .ref (ga 0)), (1, .int p0), (2, .int p1)] := hl
  have h := hf
  unfold fX5_byteOf at h
  have J31 : ∀ (u : TM) (x1 : Int32) (x2 : Int32) (t0 : Int32) , fX5_byteOf_j31 u x1 x2 t0 = some r → ∀ (H : Heap) (locs : List Loc), va_P G vwCl (wM cI ga u) H → va_D A (wM cI ga u) → va_S A s.heap H locs → ∀ ls : Array Slot, lv_has ls 4 [(0, .ref (ga 0)), (1, .int x1), (2, .int x2)] → W p l e rmX5_byteOf s m args below meth c H locs 0 0 Q (F0 m 31 ls [.int t0, .ref (ga 0)]) := by
    intro u x1 x2 t0 h
    unfold fX5_byteOf_j31 at h
    intro H locs hP hD hS ls hl
    obtain ⟨z1, e_z1, h⟩ := bnd h
    refine mui (cc_X5_146 ga S hK hN hP hD e_z1 hl.1 (Nat.le_of_ble_eq_true rfl) ⟨Nat.le_of_ble_eq_true rfl, Nat.le_of_ble_eq_true rfl⟩ dX5_byteOf_31 ⟨Nat.le_of_ble_eq_true rfl, Nat.le_of_ble_eq_true rfl⟩) hS hD (va_free hD hS hA [0, 1, 2, 3, 4] rfl) (fun H locs hP hD hS => ?_)
    have hP : va_P G vwCl (wM cI ga z1.2) H := hP
    have hD : va_D A (wM cI ga z1.2) := hD
    refine lv_if_eq (tgt := 46) hx hb dX5_byteOf_34 (by decide) (fun c2 => ?_) (fun c2 => ?_)
    · have h := (if_pos c2).symm.trans h
      refine lv_iconst (v := 0) hx hb dX5_byteOf_46 (by decide) ?_
      exact retMi hQ S hr hlocks hK hN hP hD hS h dX5_byteOf_47
    · have h := (if_neg c2).symm.trans h
      refine lv_aload_n hx hb dX5_byteOf_37 rfl (lv_at hl 0 rfl) ?_
      refine lv_iload_n hx hb dX5_byteOf_38 rfl (lv_at hl 1 rfl) ?_
      refine lv_iload_n hx hb dX5_byteOf_39 rfl (lv_at hl 2 rfl) ?_
      obtain ⟨z3, e_z3, h⟩ := bnd h
      refine roI (cc_X5_134 ga S hK hN hP e_z3 hl.1 (Nat.le_of_ble_eq_true rfl) ⟨Nat.le_of_ble_eq_true rfl, Nat.le_of_ble_eq_true rfl⟩ dX5_byteOf_40 ⟨Nat.le_of_ble_eq_true rfl, Nat.le_of_ble_eq_true rfl⟩) ?_
      refine lv_goto (tgt := 47) hx hb dX5_byteOf_43 (by decide) ?_
      exact retMi hQ S hr hlocks hK hN hP hD hS h dX5_byteOf_47
  have J30 : ∀ (u : TM) (x1 : Int32) (x2 : Int32) , fX5_byteOf_j30 u x1 x2 = some r → ∀ (H : Heap) (locs : List Loc), va_P G vwCl (wM cI ga u) H → va_D A (wM cI ga u) → va_S A s.heap H locs → ∀ ls : Array Slot, lv_has ls 4 [(0, .ref (ga 0)), (1, .int x1), (2, .int x2)] → W p l e rmX5_byteOf s m args below meth c H locs 0 0 Q (F0 m 30 ls [.ref (ga 0)]) := by
    intro u x1 x2 h
    unfold fX5_byteOf_j30 at h
    intro H locs hP hD hS ls hl
    refine lv_iconst (v := 1) hx hb dX5_byteOf_30 (by decide) ?_
    exact J31 u x1 x2 (1 : Int32) h _ _ hP hD hS _ (lv_sub hl [0, 1, 2] rfl)
  refine lv_aload_n hx hb dX5_byteOf_0 rfl (lv_at hl 0 rfl) ?_
  refine lv_iload_n hx hb dX5_byteOf_1 rfl (lv_at hl 1 rfl) ?_
  obtain ⟨z4, e_z4, h⟩ := bnd h
  refine roI (cc_X5_160 ga S hK hN hP e_z4 hl.1 (Nat.le_of_ble_eq_true rfl) ⟨Nat.le_of_ble_eq_true rfl, Nat.le_of_ble_eq_true rfl⟩ dX5_byteOf_2 ⟨Nat.le_of_ble_eq_true rfl, Nat.le_of_ble_eq_true rfl⟩) ?_
  refine lv_istore_n (lv' := [(3, .int z4), (0, .ref (ga 0)), (1, .int p0), (2, .int p1)]) hx hb dX5_byteOf_5 rfl hl (by decide) rfl (fun ls hl => ?_)
  refine lv_aload_n hx hb dX5_byteOf_6 rfl (lv_at hl 1 rfl) ?_
  refine lv_iload_n hx hb dX5_byteOf_7 rfl (lv_at hl 0 rfl) ?_
  refine lv_if_eq (tgt := 30) hx hb dX5_byteOf_8 (by decide) (fun c5 => ?_) (fun c5 => ?_)
  · have h := (if_pos c5).symm.trans h
    exact J30 u p0 p1 h _ _ hP hD hS _ (lv_sub hl [1, 2, 3] rfl)
  · have h := (if_neg c5).symm.trans h
    refine lv_iload_n hx hb dX5_byteOf_11 rfl (lv_at hl 3 rfl) ?_
    refine lv_iconst (v := 0) hx hb dX5_byteOf_12 (by decide) ?_
    refine lv_aload_n hx hb dX5_byteOf_13 rfl (lv_at hl 1 rfl) ?_
    refine lv_iload_n hx hb dX5_byteOf_14 rfl (lv_at hl 2 rfl) ?_
    obtain ⟨z6, e_z6, h⟩ := bnd h
    refine roI (cc_X5_128 ga S hK hN hP e_z6 hl.1 (Nat.le_of_ble_eq_true rfl) ⟨Nat.le_of_ble_eq_true rfl, Nat.le_of_ble_eq_true rfl⟩ dX5_byteOf_15 ⟨Nat.le_of_ble_eq_true rfl, Nat.le_of_ble_eq_true rfl⟩) ?_
    refine lv_iconst (v := 1) hx hb dX5_byteOf_18 (by decide) ?_
    refine lv_isub hx hb dX5_byteOf_19 ?_
    obtain ⟨z7, e_z7, h⟩ := bnd h
    refine roI (cc_X5_78 S hK hN va_P0 e_z7 hl.1 (Nat.le_of_ble_eq_true rfl) ⟨Nat.le_of_ble_eq_true rfl, Nat.le_of_ble_eq_true rfl⟩ dX5_byteOf_20 ⟨Nat.le_of_ble_eq_true rfl, Nat.le_of_ble_eq_true rfl⟩) ?_
    refine lv_if_eq (tgt := 30) hx hb dX5_byteOf_23 (by decide) (fun c8 => ?_) (fun c8 => ?_)
    · have h := (if_pos c8).symm.trans h
      exact J30 u p0 p1 h _ _ hP hD hS _ (lv_sub hl [1, 2, 3] rfl)
    · have h := (if_neg c8).symm.trans h
      refine lv_iconst (v := 0) hx hb dX5_byteOf_26 (by decide) ?_
      refine lv_goto (tgt := 31) hx hb dX5_byteOf_27 (by decide) ?_
      exact J31 u p0 p1 (0 : Int32) h _ _ hP hD hS _ (lv_sub hl [1, 2, 3] rfl)

def fX5_placeOf_j14 (u : TM) (x1 : Int32) (t0 : Int32) : Option (Int32 × TM) := ((fX5_holds u t0).bind fun z1 => (if z1.1 = 0 then some ((0 : Int32), z1.2) else ((fX5_placed z1.2 x1).bind fun z3 => some (z3, z1.2))))
def fX5_placeOf (u : TM) (p0 : Int32) : Option (Int32 × TM) := ((fX5_isIdentifier u p0).bind fun z4 => (if z4 = 0 then fX5_placeOf_j14 u p0 (1 : Int32) else fX5_placeOf_j14 u p0 (0 : Int32)))
abbrev rmX5_placeOf : Room := { frames := 4, cells := 0, slots := 0, locals := 89 }
set_option maxRecDepth 100000 in
set_option maxHeartbeats 4000000 in
theorem kX5_placeOf (l : Launch) (G : va_G) (cI cS : ClassId) (ga : Nat → Nat) (sz : Nat) (u : TM) (p0 : Int32) (r : Int32 × TM) (hf : fX5_placeOf u p0 = some r) : Met l yX5_placeOf (.code yX5_placeOf cX5_placeOf 2 (some .int) :: bw) rmX5_placeOf (va_Pc [.ref (ga 0), .int p0] (PreM G (tysW cI cS) (wM cI ga u) sz)) (va_Qi (fun r' u' => (r', u') = r) (PoM G (tysW cI cS) (va_A (wM cI ga u) sz) (wM cI ga)) (va_A (wM cI ga u) sz)) 0 0 (va_A (wM cI ga u) sz) := by
  refine enterM (own := RX5) (by decide) rfl (Nat.le_of_ble_eq_true rfl) ?_
  intro p e s m args below meth c A Q hAe hQ S hr hlocks hP hK hN hD hA hS ls hl
  rw [hAe] at hQ
  have hx := S.1; have hb := S.2.1; have hml := S.2.2.1; have hown := S.2.2.2.1; have hq := S.2.2.2.2
  have hl : lv_has ls 2 [(0, .ref (ga 0)), (1, .int p0)] := hl
  have h := hf
  unfold fX5_placeOf at h
  have J14 : ∀ (u : TM) (x1 : Int32) (t0 : Int32) , fX5_placeOf_j14 u x1 t0 = some r → ∀ (H : Heap) (locs : List Loc), va_P G vwCl (wM cI ga u) H → va_D A (wM cI ga u) → va_S A s.heap H locs → ∀ ls : Array Slot, lv_has ls 2 [(0, .ref (ga 0)), (1, .int x1)] → W p l e rmX5_placeOf s m args below meth c H locs 0 0 Q (F0 m 14 ls [.int t0, .ref (ga 0)]) := by
    intro u x1 t0 h
    unfold fX5_placeOf_j14 at h
    intro H locs hP hD hS ls hl
    obtain ⟨z1, e_z1, h⟩ := bnd h
    refine mui (cc_X5_146 ga S hK hN hP hD e_z1 hl.1 (Nat.le_of_ble_eq_true rfl) ⟨Nat.le_of_ble_eq_true rfl, Nat.le_of_ble_eq_true rfl⟩ dX5_placeOf_14 ⟨Nat.le_of_ble_eq_true rfl, Nat.le_of_ble_eq_true rfl⟩) hS hD (va_free hD hS hA [0, 1, 2, 3, 4] rfl) (fun H locs hP hD hS => ?_)
    have hP : va_P G vwCl (wM cI ga z1.2) H := hP
    have hD : va_D A (wM cI ga z1.2) := hD
    refine lv_if_eq (tgt := 28) hx hb dX5_placeOf_17 (by decide) (fun c2 => ?_) (fun c2 => ?_)
    · have h := (if_pos c2).symm.trans h
      refine lv_iconst (v := 0) hx hb dX5_placeOf_28 (by decide) ?_
      exact retMi hQ S hr hlocks hK hN hP hD hS h dX5_placeOf_29
    · have h := (if_neg c2).symm.trans h
      refine lv_aload_n hx hb dX5_placeOf_20 rfl (lv_at hl 0 rfl) ?_
      refine lv_iload_n hx hb dX5_placeOf_21 rfl (lv_at hl 1 rfl) ?_
      obtain ⟨z3, e_z3, h⟩ := bnd h
      refine roI (cc_X5_82 ga S hK hN hP e_z3 hl.1 (Nat.le_of_ble_eq_true rfl) ⟨Nat.le_of_ble_eq_true rfl, Nat.le_of_ble_eq_true rfl⟩ dX5_placeOf_22 ⟨Nat.le_of_ble_eq_true rfl, Nat.le_of_ble_eq_true rfl⟩) ?_
      refine lv_goto (tgt := 29) hx hb dX5_placeOf_25 (by decide) ?_
      exact retMi hQ S hr hlocks hK hN hP hD hS h dX5_placeOf_29
  refine lv_aload_n hx hb dX5_placeOf_0 rfl (lv_at hl 0 rfl) ?_
  refine lv_aload_n hx hb dX5_placeOf_1 rfl (lv_at hl 0 rfl) ?_
  refine lv_iload_n hx hb dX5_placeOf_2 rfl (lv_at hl 1 rfl) ?_
  obtain ⟨z4, e_z4, h⟩ := bnd h
  refine roI (cc_X5_160 ga S hK hN hP e_z4 hl.1 (Nat.le_of_ble_eq_true rfl) ⟨Nat.le_of_ble_eq_true rfl, Nat.le_of_ble_eq_true rfl⟩ dX5_placeOf_3 ⟨Nat.le_of_ble_eq_true rfl, Nat.le_of_ble_eq_true rfl⟩) ?_
  refine lv_if_eq (tgt := 13) hx hb dX5_placeOf_6 (by decide) (fun c5 => ?_) (fun c5 => ?_)
  · have h := (if_pos c5).symm.trans h
    refine lv_iconst (v := 1) hx hb dX5_placeOf_13 (by decide) ?_
    exact J14 u p0 (1 : Int32) h _ _ hP hD hS _ (lv_sub hl [0, 1] rfl)
  · have h := (if_neg c5).symm.trans h
    refine lv_iconst (v := 0) hx hb dX5_placeOf_9 (by decide) ?_
    refine lv_goto (tgt := 14) hx hb dX5_placeOf_10 (by decide) ?_
    exact J14 u p0 (0 : Int32) h _ _ hP hD hS _ (lv_sub hl [0, 1] rfl)

def fX5_next_j56 (u : TM) (x1 : Int32) (x2 : Int32) (t0 : Int32) : Option ((TM × Int32 × Int32) ⊕ (Nat × (TM × Int32))) := (if t0 = 0 then some (.inl (u, x1, (x2 + 1))) else some (.inr (0, (u, x2))))
def fX5_next_j55 (u : TM) (x1 : Int32) (x2 : Int32) : Option ((TM × Int32 × Int32) ⊕ (Nat × (TM × Int32))) := fX5_next_j56 u x1 x2 (0 : Int32)
def fX5_next_j51 (u : TM) (x1 : Int32) (x2 : Int32) : Option ((TM × Int32 × Int32) ⊕ (Nat × (TM × Int32))) := fX5_next_j56 u x1 x2 (1 : Int32)
def fX5_next_s15 (u : TM) (x1 : Int32) (x2 : Int32) : Option ((TM × Int32 × Int32) ⊕ (Nat × (TM × Int32))) := ((rd u.2.1 10724 (0 : Int32)).bind fun z2 => (if ((100 : Int32) * z2) ≤ x2 then some (.inr (1, (u, (0 : Int32)))) else (if x2 ≤ x1 then fX5_next_j55 u x1 x2 else ((fX5_kindAt u x2).bind fun z5 => (if z5 = (1 : Int32) then fX5_next_j51 u x1 x2 else ((fX5_kindAt u x2).bind fun z7 => (if z7 = (3 : Int32) then fX5_next_j51 u x1 x2 else fX5_next_j55 u x1 x2)))))))
def fX5_next_j14 (u : TM) (x1 : Int32) (t0 : Int32) : Option (Int32 × TM) := ((itr (fun a : TM × Int32 × Int32 => fX5_next_s15 a.1 a.2.1 a.2.2) FU (u, x1, t0)).bind fun b9 => (if b9.1 = 0 then some (b9.2.2, b9.2.1) else some (((-1) : Int32), b9.2.1)))
def fX5_next (u : TM) (p0 : Int32) : Option (Int32 × TM) := (if 0 ≤ p0 then fX5_next_j14 (((0 : Int32), u.1.2), u.2) p0 p0 else fX5_next_j14 (((0 : Int32), u.1.2), u.2) p0 (0 : Int32))
abbrev rmX5_next : Room := { frames := 3, cells := 0, slots := 0, locals := 68 }
set_option maxRecDepth 100000 in
set_option maxHeartbeats 4000000 in
theorem kX5_next (l : Launch) (G : va_G) (cI cS : ClassId) (ga : Nat → Nat) (sz : Nat) (u : TM) (p0 : Int32) (r : Int32 × TM) (hf : fX5_next u p0 = some r) : Met l yX5_next (.code yX5_next cX5_next 4 (some .int) :: bw) rmX5_next (va_Pc [.ref (ga 0), .int p0] (PreM G (tysW cI cS) (wM cI ga u) sz)) (va_Qi (fun r' u' => (r', u') = r) (PoM G (tysW cI cS) (va_A (wM cI ga u) sz) (wM cI ga)) (va_A (wM cI ga u) sz)) 0 0 (va_A (wM cI ga u) sz) := by
  refine enterM (own := RX5) (by decide) rfl (Nat.le_of_ble_eq_true rfl) ?_
  intro p e s m args below meth c A Q hAe hQ S hr hlocks hP hK hN hD hA hS ls hl
  rw [hAe] at hQ
  have hx := S.1; have hb := S.2.1; have hml := S.2.2.1; have hown := S.2.2.2.1; have hq := S.2.2.2.2
  have hl : lv_has ls 4 [(0, .ref (ga 0)), (1, .int p0)] := hl
  have h := hf
  unfold fX5_next at h
  have L15 : ∀ (n9 : Nat) (a9 : TM × Int32 × Int32) (b9 : Nat × (TM × Int32)), itr (fun a : TM × Int32 × Int32 => fX5_next_s15 a.1 a.2.1 a.2.2) n9 a9 = some b9 → (fun b : Nat × (TM × Int32) => (b.1 = 0 → ∀ (H : Heap) (locs : List Loc), va_P G vwCl (wM cI ga b.2.1) H → va_D A (wM cI ga b.2.1) → va_S A s.heap H locs → ∀ ls : Array Slot, lv_has ls 4 [(2, .int b.2.2)] → W p l e rmX5_next s m args below meth c H locs 0 0 Q (F0 m 61 ls [])) ∧ (¬ b.1 = 0 → ∀ (H : Heap) (locs : List Loc), va_P G vwCl (wM cI ga b.2.1) H → va_D A (wM cI ga b.2.1) → va_S A s.heap H locs → ∀ ls : Array Slot, lv_has ls 4 [] → W p l e rmX5_next s m args below meth c H locs 0 0 Q (F0 m 69 ls []))) b9 → (fun a : TM × Int32 × Int32 => ∀ (H : Heap) (locs : List Loc), va_P G vwCl (wM cI ga a.1) H → va_D A (wM cI ga a.1) → va_S A s.heap H locs → ∀ ls : Array Slot, lv_has ls 4 [(0, .ref (ga 0)), (1, .int a.2.1), (2, .int a.2.2)] → W p l e rmX5_next s m args below meth c H locs 0 0 Q (F0 m 15 ls [])) a9 := by
    refine itr_ind (Inv := (fun a : TM × Int32 × Int32 => ∀ (H : Heap) (locs : List Loc), va_P G vwCl (wM cI ga a.1) H → va_D A (wM cI ga a.1) → va_S A s.heap H locs → ∀ ls : Array Slot, lv_has ls 4 [(0, .ref (ga 0)), (1, .int a.2.1), (2, .int a.2.2)] → W p l e rmX5_next s m args below meth c H locs 0 0 Q (F0 m 15 ls []))) (Ex := (fun b : Nat × (TM × Int32) => (b.1 = 0 → ∀ (H : Heap) (locs : List Loc), va_P G vwCl (wM cI ga b.2.1) H → va_D A (wM cI ga b.2.1) → va_S A s.heap H locs → ∀ ls : Array Slot, lv_has ls 4 [(2, .int b.2.2)] → W p l e rmX5_next s m args below meth c H locs 0 0 Q (F0 m 61 ls [])) ∧ (¬ b.1 = 0 → ∀ (H : Heap) (locs : List Loc), va_P G vwCl (wM cI ga b.2.1) H → va_D A (wM cI ga b.2.1) → va_S A s.heap H locs → ∀ ls : Array Slot, lv_has ls 4 [] → W p l e rmX5_next s m args below meth c H locs 0 0 Q (F0 m 69 ls [])))) ?_
    rintro ⟨u, x1, x2⟩ z h hI hE
    have h : fX5_next_s15 u x1 x2 = some z := h
    unfold fX5_next_s15 at h
    show ∀ (H : Heap) (locs : List Loc), va_P G vwCl (wM cI ga u) H → va_D A (wM cI ga u) → va_S A s.heap H locs → ∀ ls : Array Slot, lv_has ls 4 [(0, .ref (ga 0)), (1, .int x1), (2, .int x2)] → W p l e rmX5_next s m args below meth c H locs 0 0 Q (F0 m 15 ls [])
    have J56 : ∀ (u : TM) (x1 : Int32) (x2 : Int32) (t0 : Int32) , fX5_next_j56 u x1 x2 t0 = some z → ∀ (H : Heap) (locs : List Loc), va_P G vwCl (wM cI ga u) H → va_D A (wM cI ga u) → va_S A s.heap H locs → ∀ ls : Array Slot, lv_has ls 4 [(0, .ref (ga 0)), (1, .int x1), (2, .int x2)] → W p l e rmX5_next s m args below meth c H locs 0 0 Q (F0 m 56 ls [.int t0]) := by
      intro u x1 x2 t0 h
      unfold fX5_next_j56 at h
      intro H locs hP hD hS ls hl
      refine lv_istore_n (lv' := [(3, .int t0), (0, .ref (ga 0)), (1, .int x1), (2, .int x2)]) hx hb dX5_next_56 rfl hl (by decide) rfl (fun ls hl => ?_)
      refine lv_iload_n hx hb dX5_next_57 rfl (lv_at hl 0 rfl) ?_
      refine lv_if_eq (tgt := 63) hx hb dX5_next_58 (by decide) (fun c1 => ?_) (fun c1 => ?_)
      · have h := (if_pos c1).symm.trans h
        refine lv_iinc (v := (x2 + 1)) (lv' := [(2, .int (x2 + 1)), (3, .int t0), (0, .ref (ga 0)), (1, .int x1)]) hx hb dX5_next_63 hl (k := 3) rfl rfl (by decide) rfl (fun ls hl => ?_)
        refine lv_goto (tgt := 15) hx hb dX5_next_66 (by decide) ?_
        exact hI _ (Option.some.inj h) _ _ hP hD hS _ (lv_sub hl [2, 3, 0] rfl)
      · have h := (if_neg c1).symm.trans h
        exact (hE _ (Option.some.inj h)).1 rfl _ _ hP hD hS _ (lv_sub hl [3] rfl)
    have J55 : ∀ (u : TM) (x1 : Int32) (x2 : Int32) , fX5_next_j55 u x1 x2 = some z → ∀ (H : Heap) (locs : List Loc), va_P G vwCl (wM cI ga u) H → va_D A (wM cI ga u) → va_S A s.heap H locs → ∀ ls : Array Slot, lv_has ls 4 [(0, .ref (ga 0)), (1, .int x1), (2, .int x2)] → W p l e rmX5_next s m args below meth c H locs 0 0 Q (F0 m 55 ls []) := by
      intro u x1 x2 h
      unfold fX5_next_j55 at h
      intro H locs hP hD hS ls hl
      refine lv_iconst (v := 0) hx hb dX5_next_55 (by decide) ?_
      exact J56 u x1 x2 (0 : Int32) h _ _ hP hD hS _ (lv_sub hl [0, 1, 2] rfl)
    have J51 : ∀ (u : TM) (x1 : Int32) (x2 : Int32) , fX5_next_j51 u x1 x2 = some z → ∀ (H : Heap) (locs : List Loc), va_P G vwCl (wM cI ga u) H → va_D A (wM cI ga u) → va_S A s.heap H locs → ∀ ls : Array Slot, lv_has ls 4 [(0, .ref (ga 0)), (1, .int x1), (2, .int x2)] → W p l e rmX5_next s m args below meth c H locs 0 0 Q (F0 m 51 ls []) := by
      intro u x1 x2 h
      unfold fX5_next_j51 at h
      intro H locs hP hD hS ls hl
      refine lv_iconst (v := 1) hx hb dX5_next_51 (by decide) ?_
      refine lv_goto (tgt := 56) hx hb dX5_next_52 (by decide) ?_
      exact J56 u x1 x2 (1 : Int32) h _ _ hP hD hS _ (lv_sub hl [0, 1, 2] rfl)
    intro H locs hP hD hS ls hl
    refine lv_iload_n hx hb dX5_next_15 rfl (lv_at hl 2 rfl) ?_
    refine lv_bipush (v := 100) hx hb dX5_next_16 (by decide) ?_
    refine lv_aload_n hx hb dX5_next_18 rfl (lv_at hl 0 rfl) ?_
    refine gf_X5_7 S hK hN hP 0 rfl (v := .ref (ga 1)) rfl dX5_next_19 ?_
    refine lv_iconst (v := 0) hx hb dX5_next_22 (by decide) ?_
    obtain ⟨z2, e_z2, h⟩ := bnd h
    refine iaO (f := u.2.1) hx hb hK hP 1 0 rfl rfl e_z2 dX5_next_23 ?_
    refine lv_imul hx hb dX5_next_24 ?_
    refine lv_icmp_ge (tgt := 69) hx hb dX5_next_25 (by decide) (fun c3 => ?_) (fun c3 => ?_)
    · have h := (if_pos c3).symm.trans h
      exact (hE _ (Option.some.inj h)).2 (fun q => nomatch q) _ _ hP hD hS _ (lv_sub hl [] rfl)
    · have h := (if_neg c3).symm.trans h
      refine lv_iload_n hx hb dX5_next_28 rfl (lv_at hl 2 rfl) ?_
      refine lv_iload_n hx hb dX5_next_29 rfl (lv_at hl 1 rfl) ?_
      refine lv_icmp_le (tgt := 55) hx hb dX5_next_30 (by decide) (fun c4 => ?_) (fun c4 => ?_)
      · have h := (if_pos c4).symm.trans h
        exact J55 u x1 x2 h _ _ hP hD hS _ (lv_sub hl [0, 1, 2] rfl)
      · have h := (if_neg c4).symm.trans h
        refine lv_aload_n hx hb dX5_next_33 rfl (lv_at hl 0 rfl) ?_
        refine lv_iload_n hx hb dX5_next_34 rfl (lv_at hl 2 rfl) ?_
        obtain ⟨z5, e_z5, h⟩ := bnd h
        refine roI (cc_X5_75 ga S hK hN hP e_z5 hl.1 (Nat.le_of_ble_eq_true rfl) ⟨Nat.le_of_ble_eq_true rfl, Nat.le_of_ble_eq_true rfl⟩ dX5_next_35 ⟨Nat.le_of_ble_eq_true rfl, Nat.le_of_ble_eq_true rfl⟩) ?_
        refine lv_iconst (v := 1) hx hb dX5_next_38 (by decide) ?_
        refine lv_icmp_eq (tgt := 51) hx hb dX5_next_39 (by decide) (fun c6 => ?_) (fun c6 => ?_)
        · have h := (if_pos c6).symm.trans h
          exact J51 u x1 x2 h _ _ hP hD hS _ (lv_sub hl [0, 1, 2] rfl)
        · have h := (if_neg c6).symm.trans h
          refine lv_aload_n hx hb dX5_next_42 rfl (lv_at hl 0 rfl) ?_
          refine lv_iload_n hx hb dX5_next_43 rfl (lv_at hl 2 rfl) ?_
          obtain ⟨z7, e_z7, h⟩ := bnd h
          refine roI (cc_X5_75 ga S hK hN hP e_z7 hl.1 (Nat.le_of_ble_eq_true rfl) ⟨Nat.le_of_ble_eq_true rfl, Nat.le_of_ble_eq_true rfl⟩ dX5_next_44 ⟨Nat.le_of_ble_eq_true rfl, Nat.le_of_ble_eq_true rfl⟩) ?_
          refine lv_iconst (v := 3) hx hb dX5_next_47 (by decide) ?_
          refine lv_icmp_ne (tgt := 55) hx hb dX5_next_48 (by decide) (fun c8 => ?_) (fun c8 => ?_)
          · have h := (if_neg c8).symm.trans h
            exact J55 u x1 x2 h _ _ hP hD hS _ (lv_sub hl [0, 1, 2] rfl)
          · have h := (if_pos c8).symm.trans h
            exact J51 u x1 x2 h _ _ hP hD hS _ (lv_sub hl [0, 1, 2] rfl)
  have J14 : ∀ (u : TM) (x1 : Int32) (t0 : Int32) , fX5_next_j14 u x1 t0 = some r → ∀ (H : Heap) (locs : List Loc), va_P G vwCl (wM cI ga u) H → va_D A (wM cI ga u) → va_S A s.heap H locs → ∀ ls : Array Slot, lv_has ls 4 [(0, .ref (ga 0)), (1, .int x1)] → W p l e rmX5_next s m args below meth c H locs 0 0 Q (F0 m 14 ls [.int t0]) := by
    intro u x1 t0 h
    unfold fX5_next_j14 at h
    intro H locs hP hD hS ls hl
    refine lv_istore_n (lv' := [(2, .int t0), (0, .ref (ga 0)), (1, .int x1)]) hx hb dX5_next_14 rfl hl (by decide) rfl (fun ls hl => ?_)
    obtain ⟨b9, e_b9, h⟩ := bnd h
    refine L15 _ _ _ e_b9 ⟨?_, ?_⟩ _ _ hP hD hS _ (lv_sub hl [1, 2, 0] rfl)
    · skip
      intro c10
      have h := (if_pos c10).symm.trans h
      intro H locs hP hD hS ls hl
      refine lv_iload_n hx hb dX5_next_61 rfl (lv_at hl 0 rfl) ?_
      exact retMi hQ S hr hlocks hK hN hP hD hS h dX5_next_62
    · intro c11
      have h := (if_neg c11).symm.trans h
      intro H locs hP hD hS ls hl
      refine lv_iconst (v := (-1)) hx hb dX5_next_69 (by decide) ?_
      exact retMi hQ S hr hlocks hK hN hP hD hS h dX5_next_70
  refine lv_aload_n hx hb dX5_next_0 rfl (lv_at hl 0 rfl) ?_
  refine lv_iconst (v := 0) hx hb dX5_next_1 (by decide) ?_
  refine pf_X5_22 S hK hN hP hD hS 0 rfl (Nat.le_of_ble_eq_true rfl) dX5_next_2 (fun H locs hP hD hS => ?_)
  have hP : va_P G vwCl (wM cI ga (((0 : Int32), u.1.2), u.2)) H := hP
  have hD : va_D A (wM cI ga (((0 : Int32), u.1.2), u.2)) := hD
  refine lv_iload_n hx hb dX5_next_5 rfl (lv_at hl 1 rfl) ?_
  refine lv_if_ge (tgt := 13) hx hb dX5_next_6 (by decide) (fun c12 => ?_) (fun c12 => ?_)
  · have h := (if_pos c12).symm.trans h
    refine lv_iload_n hx hb dX5_next_13 rfl (lv_at hl 1 rfl) ?_
    exact J14 (((0 : Int32), u.1.2), u.2) p0 p0 h _ _ hP hD hS _ (lv_sub hl [0, 1] rfl)
  · have h := (if_neg c12).symm.trans h
    refine lv_iconst (v := 0) hx hb dX5_next_9 (by decide) ?_
    refine lv_goto (tgt := 14) hx hb dX5_next_10 (by decide) ?_
    exact J14 (((0 : Int32), u.1.2), u.2) p0 (0 : Int32) h _ _ hP hD hS _ (lv_sub hl [0, 1] rfl)

def fX5_rowAt (u : TM) (p0 : Int32) : Option (Int32 × TM) := ((fX5_kindAt (((0 : Int32), u.1.2), u.2) p0).bind fun z1 => (if z1 = (1 : Int32) then some (p0, ((0 : Int32), u.1.2), u.2) else (if z1 = (3 : Int32) then ((fX5_byteAt (((0 : Int32), u.1.2), u.2) (p0 / (100 : Int32)) (p0 - p0 / (100 : Int32) * (100 : Int32)) (1 : Int32)).bind fun z4 => ((fX5_byteAt (((0 : Int32), u.1.2), u.2) (p0 / (100 : Int32)) (p0 - p0 / (100 : Int32) * (100 : Int32)) (2 : Int32)).bind fun z5 => some ((((100 : Int32) * z4) + z5), ((0 : Int32), u.1.2), u.2))) else some (((-1) : Int32), ((0 : Int32), u.1.2), u.2))))
abbrev rmX5_rowAt : Room := { frames := 3, cells := 0, slots := 0, locals := 68 }
set_option maxRecDepth 100000 in
set_option maxHeartbeats 4000000 in
theorem kX5_rowAt (l : Launch) (G : va_G) (cI cS : ClassId) (ga : Nat → Nat) (sz : Nat) (u : TM) (p0 : Int32) (r : Int32 × TM) (hf : fX5_rowAt u p0 = some r) : Met l yX5_rowAt (.code yX5_rowAt cX5_rowAt 3 (some .int) :: bw) rmX5_rowAt (va_Pc [.ref (ga 0), .int p0] (PreM G (tysW cI cS) (wM cI ga u) sz)) (va_Qi (fun r' u' => (r', u') = r) (PoM G (tysW cI cS) (va_A (wM cI ga u) sz) (wM cI ga)) (va_A (wM cI ga u) sz)) 0 0 (va_A (wM cI ga u) sz) := by
  refine enterM (own := RX5) (by decide) rfl (Nat.le_of_ble_eq_true rfl) ?_
  intro p e s m args below meth c A Q hAe hQ S hr hlocks hP hK hN hD hA hS ls hl
  rw [hAe] at hQ
  have hx := S.1; have hb := S.2.1; have hml := S.2.2.1; have hown := S.2.2.2.1; have hq := S.2.2.2.2
  have hl : lv_has ls 3 [(0, .ref (ga 0)), (1, .int p0)] := hl
  have h := hf
  unfold fX5_rowAt at h
  refine lv_aload_n hx hb dX5_rowAt_0 rfl (lv_at hl 0 rfl) ?_
  refine lv_iconst (v := 0) hx hb dX5_rowAt_1 (by decide) ?_
  refine pf_X5_22 S hK hN hP hD hS 0 rfl (Nat.le_of_ble_eq_true rfl) dX5_rowAt_2 (fun H locs hP hD hS => ?_)
  have hP : va_P G vwCl (wM cI ga (((0 : Int32), u.1.2), u.2)) H := hP
  have hD : va_D A (wM cI ga (((0 : Int32), u.1.2), u.2)) := hD
  refine lv_aload_n hx hb dX5_rowAt_5 rfl (lv_at hl 0 rfl) ?_
  refine lv_iload_n hx hb dX5_rowAt_6 rfl (lv_at hl 1 rfl) ?_
  obtain ⟨z1, e_z1, h⟩ := bnd h
  refine roI (cc_X5_75 ga S hK hN hP e_z1 hl.1 (Nat.le_of_ble_eq_true rfl) ⟨Nat.le_of_ble_eq_true rfl, Nat.le_of_ble_eq_true rfl⟩ dX5_rowAt_7 ⟨Nat.le_of_ble_eq_true rfl, Nat.le_of_ble_eq_true rfl⟩) ?_
  refine lv_istore_n (lv' := [(2, .int z1), (0, .ref (ga 0)), (1, .int p0)]) hx hb dX5_rowAt_10 rfl hl (by decide) rfl (fun ls hl => ?_)
  refine lv_iload_n hx hb dX5_rowAt_11 rfl (lv_at hl 0 rfl) ?_
  refine lv_iconst (v := 1) hx hb dX5_rowAt_12 (by decide) ?_
  refine lv_icmp_ne (tgt := 18) hx hb dX5_rowAt_13 (by decide) (fun c2 => ?_) (fun c2 => ?_)
  · have h := (if_neg c2).symm.trans h
    refine lv_iload_n hx hb dX5_rowAt_18 rfl (lv_at hl 0 rfl) ?_
    refine lv_iconst (v := 3) hx hb dX5_rowAt_19 (by decide) ?_
    refine lv_icmp_ne (tgt := 56) hx hb dX5_rowAt_20 (by decide) (fun c3 => ?_) (fun c3 => ?_)
    · have h := (if_neg c3).symm.trans h
      refine lv_iconst (v := (-1)) hx hb dX5_rowAt_56 (by decide) ?_
      exact retMi hQ S hr hlocks hK hN hP hD hS h dX5_rowAt_57
    · have h := (if_pos c3).symm.trans h
      refine lv_bipush (v := 100) hx hb dX5_rowAt_23 (by decide) ?_
      refine lv_aload_n hx hb dX5_rowAt_25 rfl (lv_at hl 1 rfl) ?_
      refine lv_iload_n hx hb dX5_rowAt_26 rfl (lv_at hl 2 rfl) ?_
      refine lv_bipush (v := 100) hx hb dX5_rowAt_27 (by decide) ?_
      refine lv_idiv hx hb dX5_rowAt_29 (by decide) ?_
      refine lv_iload_n hx hb dX5_rowAt_30 rfl (lv_at hl 2 rfl) ?_
      refine lv_bipush (v := 100) hx hb dX5_rowAt_31 (by decide) ?_
      refine lv_irem hx hb dX5_rowAt_33 (by decide) ?_
      refine lv_iconst (v := 1) hx hb dX5_rowAt_34 (by decide) ?_
      obtain ⟨z4, e_z4, h⟩ := bnd h
      refine roI (cc_X5_58 ga S hK hN hP e_z4 hl.1 (Nat.le_of_ble_eq_true rfl) ⟨Nat.le_of_ble_eq_true rfl, Nat.le_of_ble_eq_true rfl⟩ dX5_rowAt_35 ⟨Nat.le_of_ble_eq_true rfl, Nat.le_of_ble_eq_true rfl⟩) ?_
      refine lv_imul hx hb dX5_rowAt_38 ?_
      refine lv_aload_n hx hb dX5_rowAt_39 rfl (lv_at hl 1 rfl) ?_
      refine lv_iload_n hx hb dX5_rowAt_40 rfl (lv_at hl 2 rfl) ?_
      refine lv_bipush (v := 100) hx hb dX5_rowAt_41 (by decide) ?_
      refine lv_idiv hx hb dX5_rowAt_43 (by decide) ?_
      refine lv_iload_n hx hb dX5_rowAt_44 rfl (lv_at hl 2 rfl) ?_
      refine lv_bipush (v := 100) hx hb dX5_rowAt_45 (by decide) ?_
      refine lv_irem hx hb dX5_rowAt_47 (by decide) ?_
      refine lv_iconst (v := 2) hx hb dX5_rowAt_48 (by decide) ?_
      obtain ⟨z5, e_z5, h⟩ := bnd h
      refine roI (cc_X5_58 ga S hK hN hP e_z5 hl.1 (Nat.le_of_ble_eq_true rfl) ⟨Nat.le_of_ble_eq_true rfl, Nat.le_of_ble_eq_true rfl⟩ dX5_rowAt_49 ⟨Nat.le_of_ble_eq_true rfl, Nat.le_of_ble_eq_true rfl⟩) ?_
      refine lv_iadd hx hb dX5_rowAt_52 ?_
      refine lv_goto (tgt := 57) hx hb dX5_rowAt_53 (by decide) ?_
      exact retMi hQ S hr hlocks hK hN hP hD hS h dX5_rowAt_57
  · have h := (if_pos c2).symm.trans h
    refine lv_iload_n hx hb dX5_rowAt_16 rfl (lv_at hl 2 rfl) ?_
    exact retMi hQ S hr hlocks hK hN hP hD hS h dX5_rowAt_17

def fX5_pages (u : TM) : Option (Int32 × TM) := ((rd u.2.1 10724 (0 : Int32)).bind fun z1 => some (z1, ((0 : Int32), u.1.2), u.2))
abbrev rmX5_pages : Room := { frames := 0, cells := 0, slots := 0, locals := 0 }
set_option maxRecDepth 100000 in
set_option maxHeartbeats 4000000 in
theorem kX5_pages (l : Launch) (G : va_G) (cI cS : ClassId) (ga : Nat → Nat) (sz : Nat) (u : TM) (r : Int32 × TM) (hf : fX5_pages u = some r) : Met l yX5_pages (.code yX5_pages cX5_pages 1 (some .int) :: bw) rmX5_pages (va_Pc [.ref (ga 0)] (PreM G (tysW cI cS) (wM cI ga u) sz)) (va_Qi (fun r' u' => (r', u') = r) (PoM G (tysW cI cS) (va_A (wM cI ga u) sz) (wM cI ga)) (va_A (wM cI ga u) sz)) 0 0 (va_A (wM cI ga u) sz) := by
  refine enterM (own := RX5) (by decide) rfl (Nat.le_of_ble_eq_true rfl) ?_
  intro p e s m args below meth c A Q hAe hQ S hr hlocks hP hK hN hD hA hS ls hl
  rw [hAe] at hQ
  have hx := S.1; have hb := S.2.1; have hml := S.2.2.1; have hown := S.2.2.2.1; have hq := S.2.2.2.2
  have hl : lv_has ls 1 [(0, .ref (ga 0))] := hl
  have h := hf
  unfold fX5_pages at h
  refine lv_aload_n hx hb dX5_pages_0 rfl (lv_at hl 0 rfl) ?_
  refine lv_iconst (v := 0) hx hb dX5_pages_1 (by decide) ?_
  refine pf_X5_22 S hK hN hP hD hS 0 rfl (Nat.le_of_ble_eq_true rfl) dX5_pages_2 (fun H locs hP hD hS => ?_)
  have hP : va_P G vwCl (wM cI ga (((0 : Int32), u.1.2), u.2)) H := hP
  have hD : va_D A (wM cI ga (((0 : Int32), u.1.2), u.2)) := hD
  refine lv_aload_n hx hb dX5_pages_5 rfl (lv_at hl 0 rfl) ?_
  refine gf_X5_7 S hK hN hP 0 rfl (v := .ref (ga 1)) rfl dX5_pages_6 ?_
  refine lv_iconst (v := 0) hx hb dX5_pages_9 (by decide) ?_
  obtain ⟨z1, e_z1, h⟩ := bnd h
  refine iaO (f := u.2.1) hx hb hK hP 1 0 rfl rfl e_z1 dX5_pages_10 ?_
  exact retMi hQ S hr hlocks hK hN hP hD hS h dX5_pages_11

theorem cc_X5_178 {p : Program} {l : Launch} {e : Env} {R : Room} {s : State} {m : MethodId} {args : Array Value} {below : List Frame} {meth : Method} {c : Code} {H : Heap} {locs : List Loc} {cells slots : Nat} {cc : ByteArray} {pc nL : Nat} {ls : Array Slot} {rest : List Value} {G : va_G} (ga : Nat → Nat) {cI cS : ClassId} {u : TM}  {p0 : Int32} {p1 : Int32} {r : Int32} (S : CallFix p m c cc nL s args bw RX5) (hK : va_K G vwCl (tysW cI cS) s) (hN : NW s) (hP : va_P G vwCl (wM cI ga u) H) (hf : fX5_byteOfPage u p0 p1 = some r) (hsz : ls.size = nL) (hst : (rest.map fun v => v.category).sum ≤ 8) (hR : rmX5_byteOfPage.frames + 1 ≤ R.frames ∧ 8 + (4 + 11) + rmX5_byteOfPage.locals ≤ R.locals) (hdg : decode cc pc = .ok (.invokevirtual 178, 3)) (hcs : cells + 0 ≤ R.cells ∧ slots + 0 ≤ R.slots) : va_Run p l e R s m args below meth c H locs cells slots 0 0 (F0 m pc ls (.int p1 :: .int p0 :: .ref (ga 0) :: rest)) rest (vp_Si (fun r' => r' = r) (#[.ref (ga 0), .int p0, .int p1] : Array Value)) (fun _ => False) :=
  va_runV (As := [.int p0, .int p1]) (rest := rest) S (kX5_byteOfPage l G cI cS ga u p0 p1 r hf) (cwV 2 S.2.2.2.2 (gdV q_579 q_580 q_581 q_392 q_411) rfl rfl rfl (by decide +kernel) hR) (pvR (q := (RX5, TX5, 12)) hK hN hP (ci := 5) (q0 := 0) rfl rfl) rfl rfl hsz rfl (lv_room hst) hdg hcs
def fX5_pageByte_j24 (u : TM) (x1 : Int32) (x2 : Int32) (t0 : Int32) : Option (Int32 × TM) := ((fX5_holds u t0).bind fun z1 => (if z1.1 = 0 then some ((0 : Int32), z1.2) else ((fX5_byteOfPage z1.2 x1 x2).bind fun z3 => some (z3, z1.2))))
def fX5_pageByte_j23 (u : TM) (x1 : Int32) (x2 : Int32) : Option (Int32 × TM) := fX5_pageByte_j24 u x1 x2 (1 : Int32)
def fX5_pageByte (u : TM) (p0 : Int32) (p1 : Int32) : Option (Int32 × TM) := ((fX5_isPage u p0).bind fun z4 => (if z4 = 0 then fX5_pageByte_j23 u p0 p1 else ((fX5_in p1 (0 : Int32) (127 : Int32)).bind fun z6 => (if z6 = 0 then fX5_pageByte_j23 u p0 p1 else fX5_pageByte_j24 u p0 p1 (0 : Int32)))))
abbrev rmX5_pageByte : Room := { frames := 4, cells := 0, slots := 0, locals := 91 }
set_option maxRecDepth 100000 in
set_option maxHeartbeats 4000000 in
theorem kX5_pageByte (l : Launch) (G : va_G) (cI cS : ClassId) (ga : Nat → Nat) (sz : Nat) (u : TM) (p0 : Int32) (p1 : Int32) (r : Int32 × TM) (hf : fX5_pageByte u p0 p1 = some r) : Met l yX5_pageByte (.code yX5_pageByte cX5_pageByte 3 (some .int) :: bw) rmX5_pageByte (va_Pc [.ref (ga 0), .int p0, .int p1] (PreM G (tysW cI cS) (wM cI ga u) sz)) (va_Qi (fun r' u' => (r', u') = r) (PoM G (tysW cI cS) (va_A (wM cI ga u) sz) (wM cI ga)) (va_A (wM cI ga u) sz)) 0 0 (va_A (wM cI ga u) sz) := by
  refine enterM (own := RX5) (by decide) rfl (Nat.le_of_ble_eq_true rfl) ?_
  intro p e s m args below meth c A Q hAe hQ S hr hlocks hP hK hN hD hA hS ls hl
  rw [hAe] at hQ
  have hx := S.1; have hb := S.2.1; have hml := S.2.2.1; have hown := S.2.2.2.1; have hq := S.2.2.2.2
  have hl : lv_has ls 3 [(0, .ref (ga 0)), (1, .int p0), (2, .int p1)] := hl
  have h := hf
  unfold fX5_pageByte at h
  have J24 : ∀ (u : TM) (x1 : Int32) (x2 : Int32) (t0 : Int32) , fX5_pageByte_j24 u x1 x2 t0 = some r → ∀ (H : Heap) (locs : List Loc), va_P G vwCl (wM cI ga u) H → va_D A (wM cI ga u) → va_S A s.heap H locs → ∀ ls : Array Slot, lv_has ls 3 [(0, .ref (ga 0)), (1, .int x1), (2, .int x2)] → W p l e rmX5_pageByte s m args below meth c H locs 0 0 Q (F0 m 24 ls [.int t0, .ref (ga 0)]) := by
    intro u x1 x2 t0 h
    unfold fX5_pageByte_j24 at h
    intro H locs hP hD hS ls hl
    obtain ⟨z1, e_z1, h⟩ := bnd h
    refine mui (cc_X5_146 ga S hK hN hP hD e_z1 hl.1 (Nat.le_of_ble_eq_true rfl) ⟨Nat.le_of_ble_eq_true rfl, Nat.le_of_ble_eq_true rfl⟩ dX5_pageByte_24 ⟨Nat.le_of_ble_eq_true rfl, Nat.le_of_ble_eq_true rfl⟩) hS hD (va_free hD hS hA [0, 1, 2, 3, 4] rfl) (fun H locs hP hD hS => ?_)
    have hP : va_P G vwCl (wM cI ga z1.2) H := hP
    have hD : va_D A (wM cI ga z1.2) := hD
    refine lv_if_eq (tgt := 39) hx hb dX5_pageByte_27 (by decide) (fun c2 => ?_) (fun c2 => ?_)
    · have h := (if_pos c2).symm.trans h
      refine lv_iconst (v := 0) hx hb dX5_pageByte_39 (by decide) ?_
      exact retMi hQ S hr hlocks hK hN hP hD hS h dX5_pageByte_40
    · have h := (if_neg c2).symm.trans h
      refine lv_aload_n hx hb dX5_pageByte_30 rfl (lv_at hl 0 rfl) ?_
      refine lv_iload_n hx hb dX5_pageByte_31 rfl (lv_at hl 1 rfl) ?_
      refine lv_iload_n hx hb dX5_pageByte_32 rfl (lv_at hl 2 rfl) ?_
      obtain ⟨z3, e_z3, h⟩ := bnd h
      refine roI (cc_X5_178 ga S hK hN hP e_z3 hl.1 (Nat.le_of_ble_eq_true rfl) ⟨Nat.le_of_ble_eq_true rfl, Nat.le_of_ble_eq_true rfl⟩ dX5_pageByte_33 ⟨Nat.le_of_ble_eq_true rfl, Nat.le_of_ble_eq_true rfl⟩) ?_
      refine lv_goto (tgt := 40) hx hb dX5_pageByte_36 (by decide) ?_
      exact retMi hQ S hr hlocks hK hN hP hD hS h dX5_pageByte_40
  have J23 : ∀ (u : TM) (x1 : Int32) (x2 : Int32) , fX5_pageByte_j23 u x1 x2 = some r → ∀ (H : Heap) (locs : List Loc), va_P G vwCl (wM cI ga u) H → va_D A (wM cI ga u) → va_S A s.heap H locs → ∀ ls : Array Slot, lv_has ls 3 [(0, .ref (ga 0)), (1, .int x1), (2, .int x2)] → W p l e rmX5_pageByte s m args below meth c H locs 0 0 Q (F0 m 23 ls [.ref (ga 0)]) := by
    intro u x1 x2 h
    unfold fX5_pageByte_j23 at h
    intro H locs hP hD hS ls hl
    refine lv_iconst (v := 1) hx hb dX5_pageByte_23 (by decide) ?_
    exact J24 u x1 x2 (1 : Int32) h _ _ hP hD hS _ (lv_sub hl [0, 1, 2] rfl)
  refine lv_aload_n hx hb dX5_pageByte_0 rfl (lv_at hl 0 rfl) ?_
  refine lv_aload_n hx hb dX5_pageByte_1 rfl (lv_at hl 0 rfl) ?_
  refine lv_iload_n hx hb dX5_pageByte_2 rfl (lv_at hl 1 rfl) ?_
  obtain ⟨z4, e_z4, h⟩ := bnd h
  refine roI (cc_X5_172 ga S hK hN hP e_z4 hl.1 (Nat.le_of_ble_eq_true rfl) ⟨Nat.le_of_ble_eq_true rfl, Nat.le_of_ble_eq_true rfl⟩ dX5_pageByte_3 ⟨Nat.le_of_ble_eq_true rfl, Nat.le_of_ble_eq_true rfl⟩) ?_
  refine lv_if_eq (tgt := 23) hx hb dX5_pageByte_6 (by decide) (fun c5 => ?_) (fun c5 => ?_)
  · have h := (if_pos c5).symm.trans h
    exact J23 u p0 p1 h _ _ hP hD hS _ (lv_sub hl [0, 1, 2] rfl)
  · have h := (if_neg c5).symm.trans h
    refine lv_iload_n hx hb dX5_pageByte_9 rfl (lv_at hl 2 rfl) ?_
    refine lv_iconst (v := 0) hx hb dX5_pageByte_10 (by decide) ?_
    refine lv_bipush (v := 127) hx hb dX5_pageByte_11 (by decide) ?_
    obtain ⟨z6, e_z6, h⟩ := bnd h
    refine roI (cc_X5_78 S hK hN va_P0 e_z6 hl.1 (Nat.le_of_ble_eq_true rfl) ⟨Nat.le_of_ble_eq_true rfl, Nat.le_of_ble_eq_true rfl⟩ dX5_pageByte_13 ⟨Nat.le_of_ble_eq_true rfl, Nat.le_of_ble_eq_true rfl⟩) ?_
    refine lv_if_eq (tgt := 23) hx hb dX5_pageByte_16 (by decide) (fun c7 => ?_) (fun c7 => ?_)
    · have h := (if_pos c7).symm.trans h
      exact J23 u p0 p1 h _ _ hP hD hS _ (lv_sub hl [0, 1, 2] rfl)
    · have h := (if_neg c7).symm.trans h
      refine lv_iconst (v := 0) hx hb dX5_pageByte_19 (by decide) ?_
      refine lv_goto (tgt := 24) hx hb dX5_pageByte_20 (by decide) ?_
      exact J24 u p0 p1 (0 : Int32) h _ _ hP hD hS _ (lv_sub hl [0, 1, 2] rfl)

def fX5_free_j14 (u : TM) (x1 : Int32) (t0 : Int32) : Option (Int32 × TM) := ((fX5_holds u t0).bind fun z1 => (if z1.1 = 0 then some ((0 : Int32), z1.2) else ((fX5_freeOf z1.2 x1).bind fun z3 => some (z3, z1.2))))
def fX5_free (u : TM) (p0 : Int32) : Option (Int32 × TM) := ((fX5_isPage u p0).bind fun z4 => (if z4 = 0 then fX5_free_j14 u p0 (1 : Int32) else fX5_free_j14 u p0 (0 : Int32)))
abbrev rmX5_free : Room := { frames := 4, cells := 0, slots := 0, locals := 88 }
set_option maxRecDepth 100000 in
set_option maxHeartbeats 4000000 in
theorem kX5_free (l : Launch) (G : va_G) (cI cS : ClassId) (ga : Nat → Nat) (sz : Nat) (u : TM) (p0 : Int32) (r : Int32 × TM) (hf : fX5_free u p0 = some r) : Met l yX5_free (.code yX5_free cX5_free 2 (some .int) :: bw) rmX5_free (va_Pc [.ref (ga 0), .int p0] (PreM G (tysW cI cS) (wM cI ga u) sz)) (va_Qi (fun r' u' => (r', u') = r) (PoM G (tysW cI cS) (va_A (wM cI ga u) sz) (wM cI ga)) (va_A (wM cI ga u) sz)) 0 0 (va_A (wM cI ga u) sz) := by
  refine enterM (own := RX5) (by decide) rfl (Nat.le_of_ble_eq_true rfl) ?_
  intro p e s m args below meth c A Q hAe hQ S hr hlocks hP hK hN hD hA hS ls hl
  rw [hAe] at hQ
  have hx := S.1; have hb := S.2.1; have hml := S.2.2.1; have hown := S.2.2.2.1; have hq := S.2.2.2.2
  have hl : lv_has ls 2 [(0, .ref (ga 0)), (1, .int p0)] := hl
  have h := hf
  unfold fX5_free at h
  have J14 : ∀ (u : TM) (x1 : Int32) (t0 : Int32) , fX5_free_j14 u x1 t0 = some r → ∀ (H : Heap) (locs : List Loc), va_P G vwCl (wM cI ga u) H → va_D A (wM cI ga u) → va_S A s.heap H locs → ∀ ls : Array Slot, lv_has ls 2 [(0, .ref (ga 0)), (1, .int x1)] → W p l e rmX5_free s m args below meth c H locs 0 0 Q (F0 m 14 ls [.int t0, .ref (ga 0)]) := by
    intro u x1 t0 h
    unfold fX5_free_j14 at h
    intro H locs hP hD hS ls hl
    obtain ⟨z1, e_z1, h⟩ := bnd h
    refine mui (cc_X5_146 ga S hK hN hP hD e_z1 hl.1 (Nat.le_of_ble_eq_true rfl) ⟨Nat.le_of_ble_eq_true rfl, Nat.le_of_ble_eq_true rfl⟩ dX5_free_14 ⟨Nat.le_of_ble_eq_true rfl, Nat.le_of_ble_eq_true rfl⟩) hS hD (va_free hD hS hA [0, 1, 2, 3, 4] rfl) (fun H locs hP hD hS => ?_)
    have hP : va_P G vwCl (wM cI ga z1.2) H := hP
    have hD : va_D A (wM cI ga z1.2) := hD
    refine lv_if_eq (tgt := 28) hx hb dX5_free_17 (by decide) (fun c2 => ?_) (fun c2 => ?_)
    · have h := (if_pos c2).symm.trans h
      refine lv_iconst (v := 0) hx hb dX5_free_28 (by decide) ?_
      exact retMi hQ S hr hlocks hK hN hP hD hS h dX5_free_29
    · have h := (if_neg c2).symm.trans h
      refine lv_aload_n hx hb dX5_free_20 rfl (lv_at hl 0 rfl) ?_
      refine lv_iload_n hx hb dX5_free_21 rfl (lv_at hl 1 rfl) ?_
      obtain ⟨z3, e_z3, h⟩ := bnd h
      refine roI (cc_X5_47 ga S hK hN hP e_z3 hl.1 (Nat.le_of_ble_eq_true rfl) ⟨Nat.le_of_ble_eq_true rfl, Nat.le_of_ble_eq_true rfl⟩ dX5_free_22 ⟨Nat.le_of_ble_eq_true rfl, Nat.le_of_ble_eq_true rfl⟩) ?_
      refine lv_goto (tgt := 29) hx hb dX5_free_25 (by decide) ?_
      exact retMi hQ S hr hlocks hK hN hP hD hS h dX5_free_29
  refine lv_aload_n hx hb dX5_free_0 rfl (lv_at hl 0 rfl) ?_
  refine lv_aload_n hx hb dX5_free_1 rfl (lv_at hl 0 rfl) ?_
  refine lv_iload_n hx hb dX5_free_2 rfl (lv_at hl 1 rfl) ?_
  obtain ⟨z4, e_z4, h⟩ := bnd h
  refine roI (cc_X5_172 ga S hK hN hP e_z4 hl.1 (Nat.le_of_ble_eq_true rfl) ⟨Nat.le_of_ble_eq_true rfl, Nat.le_of_ble_eq_true rfl⟩ dX5_free_3 ⟨Nat.le_of_ble_eq_true rfl, Nat.le_of_ble_eq_true rfl⟩) ?_
  refine lv_if_eq (tgt := 13) hx hb dX5_free_6 (by decide) (fun c5 => ?_) (fun c5 => ?_)
  · have h := (if_pos c5).symm.trans h
    refine lv_iconst (v := 1) hx hb dX5_free_13 (by decide) ?_
    exact J14 u p0 (1 : Int32) h _ _ hP hD hS _ (lv_sub hl [0, 1] rfl)
  · have h := (if_neg c5).symm.trans h
    refine lv_iconst (v := 0) hx hb dX5_free_9 (by decide) ?_
    refine lv_goto (tgt := 14) hx hb dX5_free_10 (by decide) ?_
    exact J14 u p0 (0 : Int32) h _ _ hP hD hS _ (lv_sub hl [0, 1] rfl)

def fX5_gap_j14 (u : TM) (x1 : Int32) (t0 : Int32) : Option (Int32 × TM) := ((fX5_holds u t0).bind fun z1 => (if z1.1 = 0 then some ((0 : Int32), z1.2) else ((fX5_gapOf z1.2 x1).bind fun z3 => some (z3, z1.2))))
def fX5_gap (u : TM) (p0 : Int32) : Option (Int32 × TM) := ((fX5_isPage u p0).bind fun z4 => (if z4 = 0 then fX5_gap_j14 u p0 (1 : Int32) else fX5_gap_j14 u p0 (0 : Int32)))
abbrev rmX5_gap : Room := { frames := 4, cells := 0, slots := 0, locals := 89 }
set_option maxRecDepth 100000 in
set_option maxHeartbeats 4000000 in
theorem kX5_gap (l : Launch) (G : va_G) (cI cS : ClassId) (ga : Nat → Nat) (sz : Nat) (u : TM) (p0 : Int32) (r : Int32 × TM) (hf : fX5_gap u p0 = some r) : Met l yX5_gap (.code yX5_gap cX5_gap 2 (some .int) :: bw) rmX5_gap (va_Pc [.ref (ga 0), .int p0] (PreM G (tysW cI cS) (wM cI ga u) sz)) (va_Qi (fun r' u' => (r', u') = r) (PoM G (tysW cI cS) (va_A (wM cI ga u) sz) (wM cI ga)) (va_A (wM cI ga u) sz)) 0 0 (va_A (wM cI ga u) sz) := by
  refine enterM (own := RX5) (by decide) rfl (Nat.le_of_ble_eq_true rfl) ?_
  intro p e s m args below meth c A Q hAe hQ S hr hlocks hP hK hN hD hA hS ls hl
  rw [hAe] at hQ
  have hx := S.1; have hb := S.2.1; have hml := S.2.2.1; have hown := S.2.2.2.1; have hq := S.2.2.2.2
  have hl : lv_has ls 2 [(0, .ref (ga 0)), (1, .int p0)] := hl
  have h := hf
  unfold fX5_gap at h
  have J14 : ∀ (u : TM) (x1 : Int32) (t0 : Int32) , fX5_gap_j14 u x1 t0 = some r → ∀ (H : Heap) (locs : List Loc), va_P G vwCl (wM cI ga u) H → va_D A (wM cI ga u) → va_S A s.heap H locs → ∀ ls : Array Slot, lv_has ls 2 [(0, .ref (ga 0)), (1, .int x1)] → W p l e rmX5_gap s m args below meth c H locs 0 0 Q (F0 m 14 ls [.int t0, .ref (ga 0)]) := by
    intro u x1 t0 h
    unfold fX5_gap_j14 at h
    intro H locs hP hD hS ls hl
    obtain ⟨z1, e_z1, h⟩ := bnd h
    refine mui (cc_X5_146 ga S hK hN hP hD e_z1 hl.1 (Nat.le_of_ble_eq_true rfl) ⟨Nat.le_of_ble_eq_true rfl, Nat.le_of_ble_eq_true rfl⟩ dX5_gap_14 ⟨Nat.le_of_ble_eq_true rfl, Nat.le_of_ble_eq_true rfl⟩) hS hD (va_free hD hS hA [0, 1, 2, 3, 4] rfl) (fun H locs hP hD hS => ?_)
    have hP : va_P G vwCl (wM cI ga z1.2) H := hP
    have hD : va_D A (wM cI ga z1.2) := hD
    refine lv_if_eq (tgt := 28) hx hb dX5_gap_17 (by decide) (fun c2 => ?_) (fun c2 => ?_)
    · have h := (if_pos c2).symm.trans h
      refine lv_iconst (v := 0) hx hb dX5_gap_28 (by decide) ?_
      exact retMi hQ S hr hlocks hK hN hP hD hS h dX5_gap_29
    · have h := (if_neg c2).symm.trans h
      refine lv_aload_n hx hb dX5_gap_20 rfl (lv_at hl 0 rfl) ?_
      refine lv_iload_n hx hb dX5_gap_21 rfl (lv_at hl 1 rfl) ?_
      obtain ⟨z3, e_z3, h⟩ := bnd h
      refine roI (cc_X5_62 ga S hK hN hP e_z3 hl.1 (Nat.le_of_ble_eq_true rfl) ⟨Nat.le_of_ble_eq_true rfl, Nat.le_of_ble_eq_true rfl⟩ dX5_gap_22 ⟨Nat.le_of_ble_eq_true rfl, Nat.le_of_ble_eq_true rfl⟩) ?_
      refine lv_goto (tgt := 29) hx hb dX5_gap_25 (by decide) ?_
      exact retMi hQ S hr hlocks hK hN hP hD hS h dX5_gap_29
  refine lv_aload_n hx hb dX5_gap_0 rfl (lv_at hl 0 rfl) ?_
  refine lv_aload_n hx hb dX5_gap_1 rfl (lv_at hl 0 rfl) ?_
  refine lv_iload_n hx hb dX5_gap_2 rfl (lv_at hl 1 rfl) ?_
  obtain ⟨z4, e_z4, h⟩ := bnd h
  refine roI (cc_X5_172 ga S hK hN hP e_z4 hl.1 (Nat.le_of_ble_eq_true rfl) ⟨Nat.le_of_ble_eq_true rfl, Nat.le_of_ble_eq_true rfl⟩ dX5_gap_3 ⟨Nat.le_of_ble_eq_true rfl, Nat.le_of_ble_eq_true rfl⟩) ?_
  refine lv_if_eq (tgt := 13) hx hb dX5_gap_6 (by decide) (fun c5 => ?_) (fun c5 => ?_)
  · have h := (if_pos c5).symm.trans h
    refine lv_iconst (v := 1) hx hb dX5_gap_13 (by decide) ?_
    exact J14 u p0 (1 : Int32) h _ _ hP hD hS _ (lv_sub hl [0, 1] rfl)
  · have h := (if_neg c5).symm.trans h
    refine lv_iconst (v := 0) hx hb dX5_gap_9 (by decide) ?_
    refine lv_goto (tgt := 14) hx hb dX5_gap_10 (by decide) ?_
    exact J14 u p0 (0 : Int32) h _ _ hP hD hS _ (lv_sub hl [0, 1] rfl)

def fX5_kind (u : TM) (p0 : Int32) : Option (Int32 × TM) := ((fX5_kindAt (((0 : Int32), u.1.2), u.2) p0).bind fun z1 => some (z1, ((0 : Int32), u.1.2), u.2))
abbrev rmX5_kind : Room := { frames := 3, cells := 0, slots := 0, locals := 68 }
set_option maxRecDepth 100000 in
set_option maxHeartbeats 4000000 in
theorem kX5_kind (l : Launch) (G : va_G) (cI cS : ClassId) (ga : Nat → Nat) (sz : Nat) (u : TM) (p0 : Int32) (r : Int32 × TM) (hf : fX5_kind u p0 = some r) : Met l yX5_kind (.code yX5_kind cX5_kind 2 (some .int) :: bw) rmX5_kind (va_Pc [.ref (ga 0), .int p0] (PreM G (tysW cI cS) (wM cI ga u) sz)) (va_Qi (fun r' u' => (r', u') = r) (PoM G (tysW cI cS) (va_A (wM cI ga u) sz) (wM cI ga)) (va_A (wM cI ga u) sz)) 0 0 (va_A (wM cI ga u) sz) := by
  refine enterM (own := RX5) (by decide) rfl (Nat.le_of_ble_eq_true rfl) ?_
  intro p e s m args below meth c A Q hAe hQ S hr hlocks hP hK hN hD hA hS ls hl
  rw [hAe] at hQ
  have hx := S.1; have hb := S.2.1; have hml := S.2.2.1; have hown := S.2.2.2.1; have hq := S.2.2.2.2
  have hl : lv_has ls 2 [(0, .ref (ga 0)), (1, .int p0)] := hl
  have h := hf
  unfold fX5_kind at h
  refine lv_aload_n hx hb dX5_kind_0 rfl (lv_at hl 0 rfl) ?_
  refine lv_iconst (v := 0) hx hb dX5_kind_1 (by decide) ?_
  refine pf_X5_22 S hK hN hP hD hS 0 rfl (Nat.le_of_ble_eq_true rfl) dX5_kind_2 (fun H locs hP hD hS => ?_)
  have hP : va_P G vwCl (wM cI ga (((0 : Int32), u.1.2), u.2)) H := hP
  have hD : va_D A (wM cI ga (((0 : Int32), u.1.2), u.2)) := hD
  refine lv_aload_n hx hb dX5_kind_5 rfl (lv_at hl 0 rfl) ?_
  refine lv_iload_n hx hb dX5_kind_6 rfl (lv_at hl 1 rfl) ?_
  obtain ⟨z1, e_z1, h⟩ := bnd h
  refine roI (cc_X5_75 ga S hK hN hP e_z1 hl.1 (Nat.le_of_ble_eq_true rfl) ⟨Nat.le_of_ble_eq_true rfl, Nat.le_of_ble_eq_true rfl⟩ dX5_kind_7 ⟨Nat.le_of_ble_eq_true rfl, Nat.le_of_ble_eq_true rfl⟩) ?_
  exact retMi hQ S hr hlocks hK hN hP hD hS h dX5_kind_10

def fX5_notes (u : TM) : Option (Int32 × TM) := ((fX5_counted (((0 : Int32), u.1.2), u.2) (2 : Int32) (2 : Int32)).bind fun z1 => some (z1, ((0 : Int32), u.1.2), u.2))
abbrev rmX5_notes : Room := { frames := 4, cells := 0, slots := 0, locals := 92 }
set_option maxRecDepth 100000 in
set_option maxHeartbeats 4000000 in
theorem kX5_notes (l : Launch) (G : va_G) (cI cS : ClassId) (ga : Nat → Nat) (sz : Nat) (u : TM) (r : Int32 × TM) (hf : fX5_notes u = some r) : Met l yX5_notes (.code yX5_notes cX5_notes 1 (some .int) :: bw) rmX5_notes (va_Pc [.ref (ga 0)] (PreM G (tysW cI cS) (wM cI ga u) sz)) (va_Qi (fun r' u' => (r', u') = r) (PoM G (tysW cI cS) (va_A (wM cI ga u) sz) (wM cI ga)) (va_A (wM cI ga u) sz)) 0 0 (va_A (wM cI ga u) sz) := by
  refine enterM (own := RX5) (by decide) rfl (Nat.le_of_ble_eq_true rfl) ?_
  intro p e s m args below meth c A Q hAe hQ S hr hlocks hP hK hN hD hA hS ls hl
  rw [hAe] at hQ
  have hx := S.1; have hb := S.2.1; have hml := S.2.2.1; have hown := S.2.2.2.1; have hq := S.2.2.2.2
  have hl : lv_has ls 1 [(0, .ref (ga 0))] := hl
  have h := hf
  unfold fX5_notes at h
  refine lv_aload_n hx hb dX5_notes_0 rfl (lv_at hl 0 rfl) ?_
  refine lv_iconst (v := 0) hx hb dX5_notes_1 (by decide) ?_
  refine pf_X5_22 S hK hN hP hD hS 0 rfl (Nat.le_of_ble_eq_true rfl) dX5_notes_2 (fun H locs hP hD hS => ?_)
  have hP : va_P G vwCl (wM cI ga (((0 : Int32), u.1.2), u.2)) H := hP
  have hD : va_D A (wM cI ga (((0 : Int32), u.1.2), u.2)) := hD
  refine lv_aload_n hx hb dX5_notes_5 rfl (lv_at hl 0 rfl) ?_
  refine lv_iconst (v := 2) hx hb dX5_notes_6 (by decide) ?_
  refine lv_iconst (v := 2) hx hb dX5_notes_7 (by decide) ?_
  obtain ⟨z1, e_z1, h⟩ := bnd h
  refine roI (cc_X5_175 ga S hK hN hP e_z1 hl.1 (Nat.le_of_ble_eq_true rfl) ⟨Nat.le_of_ble_eq_true rfl, Nat.le_of_ble_eq_true rfl⟩ dX5_notes_8 ⟨Nat.le_of_ble_eq_true rfl, Nat.le_of_ble_eq_true rfl⟩) ?_
  exact retMi hQ S hr hlocks hK hN hP hD hS h dX5_notes_11

def fX5_moves (u : TM) : Option (Int32 × TM) := ((rd u.2.1 10724 (1 : Int32)).bind fun z1 => some (z1, ((0 : Int32), u.1.2), u.2))
abbrev rmX5_moves : Room := { frames := 0, cells := 0, slots := 0, locals := 0 }
set_option maxRecDepth 100000 in
set_option maxHeartbeats 4000000 in
theorem kX5_moves (l : Launch) (G : va_G) (cI cS : ClassId) (ga : Nat → Nat) (sz : Nat) (u : TM) (r : Int32 × TM) (hf : fX5_moves u = some r) : Met l yX5_moves (.code yX5_moves cX5_moves 1 (some .int) :: bw) rmX5_moves (va_Pc [.ref (ga 0)] (PreM G (tysW cI cS) (wM cI ga u) sz)) (va_Qi (fun r' u' => (r', u') = r) (PoM G (tysW cI cS) (va_A (wM cI ga u) sz) (wM cI ga)) (va_A (wM cI ga u) sz)) 0 0 (va_A (wM cI ga u) sz) := by
  refine enterM (own := RX5) (by decide) rfl (Nat.le_of_ble_eq_true rfl) ?_
  intro p e s m args below meth c A Q hAe hQ S hr hlocks hP hK hN hD hA hS ls hl
  rw [hAe] at hQ
  have hx := S.1; have hb := S.2.1; have hml := S.2.2.1; have hown := S.2.2.2.1; have hq := S.2.2.2.2
  have hl : lv_has ls 1 [(0, .ref (ga 0))] := hl
  have h := hf
  unfold fX5_moves at h
  refine lv_aload_n hx hb dX5_moves_0 rfl (lv_at hl 0 rfl) ?_
  refine lv_iconst (v := 0) hx hb dX5_moves_1 (by decide) ?_
  refine pf_X5_22 S hK hN hP hD hS 0 rfl (Nat.le_of_ble_eq_true rfl) dX5_moves_2 (fun H locs hP hD hS => ?_)
  have hP : va_P G vwCl (wM cI ga (((0 : Int32), u.1.2), u.2)) H := hP
  have hD : va_D A (wM cI ga (((0 : Int32), u.1.2), u.2)) := hD
  refine lv_aload_n hx hb dX5_moves_5 rfl (lv_at hl 0 rfl) ?_
  refine gf_X5_7 S hK hN hP 0 rfl (v := .ref (ga 1)) rfl dX5_moves_6 ?_
  refine lv_iconst (v := 1) hx hb dX5_moves_9 (by decide) ?_
  obtain ⟨z1, e_z1, h⟩ := bnd h
  refine iaO (f := u.2.1) hx hb hK hP 1 0 rfl rfl e_z1 dX5_moves_10 ?_
  exact retMi hQ S hr hlocks hK hN hP hD hS h dX5_moves_11

def fX5_returns (u : TM) : Option (Int32 × TM) := ((rd u.2.1 10724 (2 : Int32)).bind fun z1 => some (z1, ((0 : Int32), u.1.2), u.2))
abbrev rmX5_returns : Room := { frames := 0, cells := 0, slots := 0, locals := 0 }
set_option maxRecDepth 100000 in
set_option maxHeartbeats 4000000 in
theorem kX5_returns (l : Launch) (G : va_G) (cI cS : ClassId) (ga : Nat → Nat) (sz : Nat) (u : TM) (r : Int32 × TM) (hf : fX5_returns u = some r) : Met l yX5_returns (.code yX5_returns cX5_returns 1 (some .int) :: bw) rmX5_returns (va_Pc [.ref (ga 0)] (PreM G (tysW cI cS) (wM cI ga u) sz)) (va_Qi (fun r' u' => (r', u') = r) (PoM G (tysW cI cS) (va_A (wM cI ga u) sz) (wM cI ga)) (va_A (wM cI ga u) sz)) 0 0 (va_A (wM cI ga u) sz) := by
  refine enterM (own := RX5) (by decide) rfl (Nat.le_of_ble_eq_true rfl) ?_
  intro p e s m args below meth c A Q hAe hQ S hr hlocks hP hK hN hD hA hS ls hl
  rw [hAe] at hQ
  have hx := S.1; have hb := S.2.1; have hml := S.2.2.1; have hown := S.2.2.2.1; have hq := S.2.2.2.2
  have hl : lv_has ls 1 [(0, .ref (ga 0))] := hl
  have h := hf
  unfold fX5_returns at h
  refine lv_aload_n hx hb dX5_returns_0 rfl (lv_at hl 0 rfl) ?_
  refine lv_iconst (v := 0) hx hb dX5_returns_1 (by decide) ?_
  refine pf_X5_22 S hK hN hP hD hS 0 rfl (Nat.le_of_ble_eq_true rfl) dX5_returns_2 (fun H locs hP hD hS => ?_)
  have hP : va_P G vwCl (wM cI ga (((0 : Int32), u.1.2), u.2)) H := hP
  have hD : va_D A (wM cI ga (((0 : Int32), u.1.2), u.2)) := hD
  refine lv_aload_n hx hb dX5_returns_5 rfl (lv_at hl 0 rfl) ?_
  refine gf_X5_7 S hK hN hP 0 rfl (v := .ref (ga 1)) rfl dX5_returns_6 ?_
  refine lv_iconst (v := 2) hx hb dX5_returns_9 (by decide) ?_
  obtain ⟨z1, e_z1, h⟩ := bnd h
  refine iaO (f := u.2.1) hx hb hK hP 1 0 rfl rfl e_z1 dX5_returns_10 ?_
  exact retMi hQ S hr hlocks hK hN hP hD hS h dX5_returns_11

def fX5_compactions (u : TM) : Option (Int32 × TM) := ((rd u.2.1 10724 (3 : Int32)).bind fun z1 => some (z1, ((0 : Int32), u.1.2), u.2))
abbrev rmX5_compactions : Room := { frames := 0, cells := 0, slots := 0, locals := 0 }
set_option maxRecDepth 100000 in
set_option maxHeartbeats 4000000 in
theorem kX5_compactions (l : Launch) (G : va_G) (cI cS : ClassId) (ga : Nat → Nat) (sz : Nat) (u : TM) (r : Int32 × TM) (hf : fX5_compactions u = some r) : Met l yX5_compactions (.code yX5_compactions cX5_compactions 1 (some .int) :: bw) rmX5_compactions (va_Pc [.ref (ga 0)] (PreM G (tysW cI cS) (wM cI ga u) sz)) (va_Qi (fun r' u' => (r', u') = r) (PoM G (tysW cI cS) (va_A (wM cI ga u) sz) (wM cI ga)) (va_A (wM cI ga u) sz)) 0 0 (va_A (wM cI ga u) sz) := by
  refine enterM (own := RX5) (by decide) rfl (Nat.le_of_ble_eq_true rfl) ?_
  intro p e s m args below meth c A Q hAe hQ S hr hlocks hP hK hN hD hA hS ls hl
  rw [hAe] at hQ
  have hx := S.1; have hb := S.2.1; have hml := S.2.2.1; have hown := S.2.2.2.1; have hq := S.2.2.2.2
  have hl : lv_has ls 1 [(0, .ref (ga 0))] := hl
  have h := hf
  unfold fX5_compactions at h
  refine lv_aload_n hx hb dX5_compactions_0 rfl (lv_at hl 0 rfl) ?_
  refine lv_iconst (v := 0) hx hb dX5_compactions_1 (by decide) ?_
  refine pf_X5_22 S hK hN hP hD hS 0 rfl (Nat.le_of_ble_eq_true rfl) dX5_compactions_2 (fun H locs hP hD hS => ?_)
  have hP : va_P G vwCl (wM cI ga (((0 : Int32), u.1.2), u.2)) H := hP
  have hD : va_D A (wM cI ga (((0 : Int32), u.1.2), u.2)) := hD
  refine lv_aload_n hx hb dX5_compactions_5 rfl (lv_at hl 0 rfl) ?_
  refine gf_X5_7 S hK hN hP 0 rfl (v := .ref (ga 1)) rfl dX5_compactions_6 ?_
  refine lv_iconst (v := 3) hx hb dX5_compactions_9 (by decide) ?_
  obtain ⟨z1, e_z1, h⟩ := bnd h
  refine iaO (f := u.2.1) hx hb hK hP 1 0 rfl rfl e_z1 dX5_compactions_10 ?_
  exact retMi hQ S hr hlocks hK hN hP hD hS h dX5_compactions_11

def fX5_factor_s4 (u : TM) (x1 : Int32) (x2 : Int32) : Option ((Int32 × Int32) ⊕ (Int32)) := ((rd u.2.1 10724 (0 : Int32)).bind fun z1 => (if z1 ≤ x2 then some (.inr x1) else ((fX5_sizes u x2).bind fun z3 => some (.inl ((x1 + z3), (x2 + 1))))))
def fX5_factor (u : TM) : Option (UInt64) := ((itr (fun a : Int32 × Int32 => fX5_factor_s4 u a.1 a.2) FU ((0 : Int32), (0 : Int32))).bind fun b4 => ((rd u.2.1 10724 (0 : Int32)).bind fun z5 => (if z5 = 0 then some FP.dconst0 else ((rd u.2.1 10724 (0 : Int32)).bind fun z7 => ((nf64 (FP.ddiv (FP.i2d b4) (FP.i2d ((128 : Int32) * z7)))).bind fun z8 => some z8)))))
abbrev rmX5_factor : Room := { frames := 3, cells := 0, slots := 0, locals := 67 }
set_option maxRecDepth 100000 in
set_option maxHeartbeats 4000000 in
theorem kX5_factor (l : Launch) (G : va_G) (cI cS : ClassId) (ga : Nat → Nat) (u : TM) (r : UInt64) (hf : fX5_factor u = some r) : Met l yX5_factor (.code yX5_factor cX5_factor 3 (some .double) :: bw) rmX5_factor (va_Pc [.ref (ga 0)] (PreR G (tysW cI cS) (wM cI ga u))) (vp_Sd (fun r' => r' = r)) 0 0 (fun _ => False) := by
  refine enterG (own := RX5) (by decide) rfl (Nat.le_of_ble_eq_true rfl) ?_
  intro p e s m args below meth c Q hQ S hr hlocks hP hK hN ls hl
  have hx := S.1; have hb := S.2.1; have hml := S.2.2.1; have hown := S.2.2.2.1; have hq := S.2.2.2.2
  have hl : lv_has ls 3 [(0, .ref (ga 0))] := hl
  have h := hf
  unfold fX5_factor at h
  have L4 : ∀ (n9 : Nat) (a9 : Int32 × Int32) (b9 : Int32), itr (fun a : Int32 × Int32 => fX5_factor_s4 u a.1 a.2) n9 a9 = some b9 → (fun b : Int32 => ∀ ls : Array Slot, lv_has ls 3 [(0, .ref (ga 0)), (1, .int b)] → W p l e rmX5_factor s m args below meth c s.heap [] 0 0 Q (F0 m 28 ls [])) b9 → (fun a : Int32 × Int32 => ∀ ls : Array Slot, lv_has ls 3 [(0, .ref (ga 0)), (1, .int a.1), (2, .int a.2)] → W p l e rmX5_factor s m args below meth c s.heap [] 0 0 Q (F0 m 4 ls [])) a9 := by
    refine itr_ind (Inv := (fun a : Int32 × Int32 => ∀ ls : Array Slot, lv_has ls 3 [(0, .ref (ga 0)), (1, .int a.1), (2, .int a.2)] → W p l e rmX5_factor s m args below meth c s.heap [] 0 0 Q (F0 m 4 ls []))) (Ex := (fun b : Int32 => ∀ ls : Array Slot, lv_has ls 3 [(0, .ref (ga 0)), (1, .int b)] → W p l e rmX5_factor s m args below meth c s.heap [] 0 0 Q (F0 m 28 ls []))) ?_
    rintro ⟨x1, x2⟩ z h hI hE
    have h : fX5_factor_s4 u x1 x2 = some z := h
    unfold fX5_factor_s4 at h
    show ∀ ls : Array Slot, lv_has ls 3 [(0, .ref (ga 0)), (1, .int x1), (2, .int x2)] → W p l e rmX5_factor s m args below meth c s.heap [] 0 0 Q (F0 m 4 ls [])
    intro ls hl
    refine lv_iload_n hx hb dX5_factor_4 rfl (lv_at hl 2 rfl) ?_
    refine lv_aload_n hx hb dX5_factor_5 rfl (lv_at hl 0 rfl) ?_
    refine gf_X5_7 S hK hN hP 0 rfl (v := .ref (ga 1)) rfl dX5_factor_6 ?_
    refine lv_iconst (v := 0) hx hb dX5_factor_9 (by decide) ?_
    obtain ⟨z1, e_z1, h⟩ := bnd h
    refine iaO (f := u.2.1) hx hb hK hP 1 0 rfl rfl e_z1 dX5_factor_10 ?_
    refine lv_icmp_ge (tgt := 28) hx hb dX5_factor_11 (by decide) (fun c2 => ?_) (fun c2 => ?_)
    · have h := (if_pos c2).symm.trans h
      exact hE _ (Option.some.inj h) _ (lv_sub hl [0, 1] rfl)
    · have h := (if_neg c2).symm.trans h
      refine lv_iload_n hx hb dX5_factor_14 rfl (lv_at hl 1 rfl) ?_
      refine lv_aload_n hx hb dX5_factor_15 rfl (lv_at hl 0 rfl) ?_
      refine lv_iload_n hx hb dX5_factor_16 rfl (lv_at hl 2 rfl) ?_
      obtain ⟨z3, e_z3, h⟩ := bnd h
      refine roI (cc_X5_41 ga S hK hN hP e_z3 hl.1 (Nat.le_of_ble_eq_true rfl) ⟨Nat.le_of_ble_eq_true rfl, Nat.le_of_ble_eq_true rfl⟩ dX5_factor_17 ⟨Nat.le_of_ble_eq_true rfl, Nat.le_of_ble_eq_true rfl⟩) ?_
      refine lv_iadd hx hb dX5_factor_20 ?_
      refine lv_istore_n (lv' := [(1, .int (x1 + z3)), (0, .ref (ga 0)), (2, .int x2)]) hx hb dX5_factor_21 rfl hl (by decide) rfl (fun ls hl => ?_)
      refine lv_iinc (v := (x2 + 1)) (lv' := [(2, .int (x2 + 1)), (1, .int (x1 + z3)), (0, .ref (ga 0))]) hx hb dX5_factor_22 hl (k := 2) rfl rfl (by decide) rfl (fun ls hl => ?_)
      refine lv_goto (tgt := 4) hx hb dX5_factor_25 (by decide) ?_
      exact hI _ (Option.some.inj h) _ (lv_sub hl [2, 1, 0] rfl)
  refine lv_iconst (v := 0) hx hb dX5_factor_0 (by decide) ?_
  refine lv_istore_n (lv' := [(1, .int (0 : Int32)), (0, .ref (ga 0))]) hx hb dX5_factor_1 rfl hl (by decide) rfl (fun ls hl => ?_)
  refine lv_iconst (v := 0) hx hb dX5_factor_2 (by decide) ?_
  refine lv_istore_n (lv' := [(2, .int (0 : Int32)), (1, .int (0 : Int32)), (0, .ref (ga 0))]) hx hb dX5_factor_3 rfl hl (by decide) rfl (fun ls hl => ?_)
  obtain ⟨b4, e_b4, h⟩ := bnd h
  refine L4 _ _ _ e_b4 ?_ _ (lv_sub hl [2, 1, 0] rfl)
  intro ls hl
  refine lv_aload_n hx hb dX5_factor_28 rfl (lv_at hl 0 rfl) ?_
  refine gf_X5_7 S hK hN hP 0 rfl (v := .ref (ga 1)) rfl dX5_factor_29 ?_
  refine lv_iconst (v := 0) hx hb dX5_factor_32 (by decide) ?_
  obtain ⟨z5, e_z5, h⟩ := bnd h
  refine iaO (f := u.2.1) hx hb hK hP 1 0 rfl rfl e_z5 dX5_factor_33 ?_
  refine lv_if_ne (tgt := 41) hx hb dX5_factor_34 (by decide) (fun c6 => ?_) (fun c6 => ?_)
  · have h := (if_neg c6).symm.trans h
    refine lv_iload_n hx hb dX5_factor_41 rfl (lv_at hl 1 rfl) ?_
    refine lv_i2d hx hb dX5_factor_42 ?_
    refine lv_sipush (v := 128) hx hb dX5_factor_43 (by decide) ?_
    refine lv_aload_n hx hb dX5_factor_46 rfl (lv_at hl 0 rfl) ?_
    refine gf_X5_7 S hK hN hP 0 rfl (v := .ref (ga 1)) rfl dX5_factor_47 ?_
    refine lv_iconst (v := 0) hx hb dX5_factor_50 (by decide) ?_
    obtain ⟨z7, e_z7, h⟩ := bnd h
    refine iaO (f := u.2.1) hx hb hK hP 1 0 rfl rfl e_z7 dX5_factor_51 ?_
    refine lv_imul hx hb dX5_factor_52 ?_
    refine lv_i2d hx hb dX5_factor_53 ?_
    obtain ⟨z8, e_z8, h⟩ := bnd h
    refine ddO hx hb e_z8 dX5_factor_54 ?_
    exact retRd hQ S hr hlocks h dX5_factor_55
  · have h := (if_pos c6).symm.trans h
    refine lv_dconst0 hx hb dX5_factor_37 ?_
    refine lv_goto (tgt := 55) hx hb dX5_factor_38 (by decide) ?_
    exact retRd hQ S hr hlocks h dX5_factor_55

theorem cc_X5_181 {p : Program} {l : Launch} {e : Env} {R : Room} {s : State} {m : MethodId} {args : Array Value} {below : List Frame} {meth : Method} {c : Code} {H : Heap} {locs : List Loc} {cells slots : Nat} {cc : ByteArray} {pc nL : Nat} {ls : Array Slot} {rest : List Value} {G : va_G} (ga : Nat → Nat) {cI cS : ClassId} {u : TM}  {r : UInt64} (S : CallFix p m c cc nL s args bw RX5) (hK : va_K G vwCl (tysW cI cS) s) (hN : NW s) (hP : va_P G vwCl (wM cI ga u) H) (hf : fX5_factor u = some r) (hsz : ls.size = nL) (hst : (rest.map fun v => v.category).sum ≤ 8) (hR : rmX5_factor.frames + 1 ≤ R.frames ∧ 8 + (3 + 11) + rmX5_factor.locals ≤ R.locals) (hdg : decode cc pc = .ok (.invokevirtual 181, 3)) (hcs : cells + 0 ≤ R.cells ∧ slots + 0 ≤ R.slots) : va_Run p l e R s m args below meth c H locs cells slots 0 0 (F0 m pc ls (.ref (ga 0) :: rest)) rest (vp_Sd (fun r' => r' = r) (#[.ref (ga 0)] : Array Value)) (fun _ => False) :=
  va_runV (As := []) (rest := rest) S (kX5_factor l G cI cS ga u r hf) (cwV 0 S.2.2.2.2 (gdV q_592 q_593 q_594 q_392 q_590) rfl rfl rfl (by decide +kernel) hR) (pvR (q := (RX5, TX5, 12)) hK hN hP (ci := 5) (q0 := 0) rfl rfl) rfl rfl hsz rfl (lv_room hst) hdg hcs
def fX5_fillFactor (u : TM) : Option (UInt64 × TM) := ((fX5_factor (((0 : Int32), u.1.2), u.2)).bind fun z1 => some (z1, ((0 : Int32), u.1.2), u.2))
abbrev rmX5_fillFactor : Room := { frames := 4, cells := 0, slots := 0, locals := 89 }
set_option maxRecDepth 100000 in
set_option maxHeartbeats 4000000 in
theorem kX5_fillFactor (l : Launch) (G : va_G) (cI cS : ClassId) (ga : Nat → Nat) (sz : Nat) (u : TM) (r : UInt64 × TM) (hf : fX5_fillFactor u = some r) : Met l yX5_fillFactor (.code yX5_fillFactor cX5_fillFactor 1 (some .double) :: bw) rmX5_fillFactor (va_Pc [.ref (ga 0)] (PreM G (tysW cI cS) (wM cI ga u) sz)) (va_Qd (fun r' u' => (r', u') = r) (PoM G (tysW cI cS) (va_A (wM cI ga u) sz) (wM cI ga)) (va_A (wM cI ga u) sz)) 0 0 (va_A (wM cI ga u) sz) := by
  refine enterM (own := RX5) (by decide) rfl (Nat.le_of_ble_eq_true rfl) ?_
  intro p e s m args below meth c A Q hAe hQ S hr hlocks hP hK hN hD hA hS ls hl
  rw [hAe] at hQ
  have hx := S.1; have hb := S.2.1; have hml := S.2.2.1; have hown := S.2.2.2.1; have hq := S.2.2.2.2
  have hl : lv_has ls 1 [(0, .ref (ga 0))] := hl
  have h := hf
  unfold fX5_fillFactor at h
  refine lv_aload_n hx hb dX5_fillFactor_0 rfl (lv_at hl 0 rfl) ?_
  refine lv_iconst (v := 0) hx hb dX5_fillFactor_1 (by decide) ?_
  refine pf_X5_22 S hK hN hP hD hS 0 rfl (Nat.le_of_ble_eq_true rfl) dX5_fillFactor_2 (fun H locs hP hD hS => ?_)
  have hP : va_P G vwCl (wM cI ga (((0 : Int32), u.1.2), u.2)) H := hP
  have hD : va_D A (wM cI ga (((0 : Int32), u.1.2), u.2)) := hD
  refine lv_aload_n hx hb dX5_fillFactor_5 rfl (lv_at hl 0 rfl) ?_
  obtain ⟨z1, e_z1, h⟩ := bnd h
  refine roD (cc_X5_181 ga S hK hN hP e_z1 hl.1 (Nat.le_of_ble_eq_true rfl) ⟨Nat.le_of_ble_eq_true rfl, Nat.le_of_ble_eq_true rfl⟩ dX5_fillFactor_6 ⟨Nat.le_of_ble_eq_true rfl, Nat.le_of_ble_eq_true rfl⟩) ?_
  exact retMd hQ S hr hlocks hK hN hP hD hS h dX5_fillFactor_9

def fX5_ifInserted_j50 (u : TM) (x2 : Int32) : Option (Int32 × TM) := (if x2 = ((-1) : Int32) then some (((-1) : Int32), u) else some (((100 : Int32) * x2), u))
def fX5_ifInserted_j16 (u : TM) (x1 : Int32) (t0 : Int32) : Option (Int32 × TM) := ((fX5_holds u t0).bind fun z2 => (if z2.1 = 0 then some ((0 : Int32), z2.2) else ((fX5_homeSize x1).bind fun z4 => ((fX5_pageFor z2.2 z4 ((-1) : Int32) ((-1) : Int32)).bind fun z5 => (if z5 = ((-1) : Int32) then fX5_ifInserted_j50 z2.2 z5 else ((rd z2.2.2.1 10724 (0 : Int32)).bind fun z7 => (if z5 = z7 then fX5_ifInserted_j50 z2.2 z5 else ((fX5_emptySlot z2.2 z5).bind fun z9 => (if z9 = ((-1) : Int32) then ((fX5_of z2.2 z5 (0 : Int32)).bind fun z11 => some ((((100 : Int32) * z5) + z11), z2.2)) else some ((((100 : Int32) * z5) + z9), z2.2))))))))))
def fX5_ifInserted (u : TM) (p0 : Int32) : Option (Int32 × TM) := ((fX5_in p0 (0 : Int32) (60 : Int32)).bind fun z12 => (if z12 = 0 then fX5_ifInserted_j16 u p0 (1 : Int32) else fX5_ifInserted_j16 u p0 (0 : Int32)))
abbrev rmX5_ifInserted : Room := { frames := 6, cells := 0, slots := 0, locals := 135 }
set_option maxRecDepth 100000 in
set_option maxHeartbeats 4000000 in
theorem kX5_ifInserted (l : Launch) (G : va_G) (cI cS : ClassId) (ga : Nat → Nat) (sz : Nat) (u : TM) (p0 : Int32) (r : Int32 × TM) (hf : fX5_ifInserted u p0 = some r) : Met l yX5_ifInserted (.code yX5_ifInserted cX5_ifInserted 4 (some .int) :: bw) rmX5_ifInserted (va_Pc [.ref (ga 0), .int p0] (PreM G (tysW cI cS) (wM cI ga u) sz)) (va_Qi (fun r' u' => (r', u') = r) (PoM G (tysW cI cS) (va_A (wM cI ga u) sz) (wM cI ga)) (va_A (wM cI ga u) sz)) 0 0 (va_A (wM cI ga u) sz) := by
  refine enterM (own := RX5) (by decide) rfl (Nat.le_of_ble_eq_true rfl) ?_
  intro p e s m args below meth c A Q hAe hQ S hr hlocks hP hK hN hD hA hS ls hl
  rw [hAe] at hQ
  have hx := S.1; have hb := S.2.1; have hml := S.2.2.1; have hown := S.2.2.2.1; have hq := S.2.2.2.2
  have hl : lv_has ls 4 [(0, .ref (ga 0)), (1, .int p0)] := hl
  have h := hf
  unfold fX5_ifInserted at h
  have J50 : ∀ (u : TM) (x2 : Int32) , fX5_ifInserted_j50 u x2 = some r → ∀ (H : Heap) (locs : List Loc), va_P G vwCl (wM cI ga u) H → va_D A (wM cI ga u) → va_S A s.heap H locs → ∀ ls : Array Slot, lv_has ls 4 [(2, .int x2)] → W p l e rmX5_ifInserted s m args below meth c H locs 0 0 Q (F0 m 50 ls []) := by
    intro u x2 h
    unfold fX5_ifInserted_j50 at h
    intro H locs hP hD hS ls hl
    refine lv_iload_n hx hb dX5_ifInserted_50 rfl (lv_at hl 0 rfl) ?_
    refine lv_iconst (v := (-1)) hx hb dX5_ifInserted_51 (by decide) ?_
    refine lv_icmp_ne (tgt := 59) hx hb dX5_ifInserted_52 (by decide) (fun c1 => ?_) (fun c1 => ?_)
    · have h := (if_neg c1).symm.trans h
      refine lv_bipush (v := 100) hx hb dX5_ifInserted_59 (by decide) ?_
      refine lv_iload_n hx hb dX5_ifInserted_61 rfl (lv_at hl 0 rfl) ?_
      refine lv_imul hx hb dX5_ifInserted_62 ?_
      exact retMi hQ S hr hlocks hK hN hP hD hS h dX5_ifInserted_63
    · have h := (if_pos c1).symm.trans h
      refine lv_iconst (v := (-1)) hx hb dX5_ifInserted_55 (by decide) ?_
      refine lv_goto (tgt := 63) hx hb dX5_ifInserted_56 (by decide) ?_
      exact retMi hQ S hr hlocks hK hN hP hD hS h dX5_ifInserted_63
  have J16 : ∀ (u : TM) (x1 : Int32) (t0 : Int32) , fX5_ifInserted_j16 u x1 t0 = some r → ∀ (H : Heap) (locs : List Loc), va_P G vwCl (wM cI ga u) H → va_D A (wM cI ga u) → va_S A s.heap H locs → ∀ ls : Array Slot, lv_has ls 4 [(0, .ref (ga 0)), (1, .int x1)] → W p l e rmX5_ifInserted s m args below meth c H locs 0 0 Q (F0 m 16 ls [.int t0, .ref (ga 0)]) := by
    intro u x1 t0 h
    unfold fX5_ifInserted_j16 at h
    intro H locs hP hD hS ls hl
    obtain ⟨z2, e_z2, h⟩ := bnd h
    refine mui (cc_X5_146 ga S hK hN hP hD e_z2 hl.1 (Nat.le_of_ble_eq_true rfl) ⟨Nat.le_of_ble_eq_true rfl, Nat.le_of_ble_eq_true rfl⟩ dX5_ifInserted_16 ⟨Nat.le_of_ble_eq_true rfl, Nat.le_of_ble_eq_true rfl⟩) hS hD (va_free hD hS hA [0, 1, 2, 3, 4] rfl) (fun H locs hP hD hS => ?_)
    have hP : va_P G vwCl (wM cI ga z2.2) H := hP
    have hD : va_D A (wM cI ga z2.2) := hD
    refine lv_if_ne (tgt := 24) hx hb dX5_ifInserted_19 (by decide) (fun c3 => ?_) (fun c3 => ?_)
    · have h := (if_neg c3).symm.trans h
      refine lv_aload_n hx hb dX5_ifInserted_24 rfl (lv_at hl 0 rfl) ?_
      refine lv_iload_n hx hb dX5_ifInserted_25 rfl (lv_at hl 1 rfl) ?_
      obtain ⟨z4, e_z4, h⟩ := bnd h
      refine roI (cc_X5_91 S hK hN va_P0 e_z4 hl.1 (Nat.le_of_ble_eq_true rfl) ⟨Nat.le_of_ble_eq_true rfl, Nat.le_of_ble_eq_true rfl⟩ dX5_ifInserted_26 ⟨Nat.le_of_ble_eq_true rfl, Nat.le_of_ble_eq_true rfl⟩) ?_
      refine lv_iconst (v := (-1)) hx hb dX5_ifInserted_29 (by decide) ?_
      refine lv_iconst (v := (-1)) hx hb dX5_ifInserted_30 (by decide) ?_
      obtain ⟨z5, e_z5, h⟩ := bnd h
      refine roI (cc_X5_94 ga S hK hN hP e_z5 hl.1 (Nat.le_of_ble_eq_true rfl) ⟨Nat.le_of_ble_eq_true rfl, Nat.le_of_ble_eq_true rfl⟩ dX5_ifInserted_31 ⟨Nat.le_of_ble_eq_true rfl, Nat.le_of_ble_eq_true rfl⟩) ?_
      refine lv_istore_n (lv' := [(2, .int z5), (0, .ref (ga 0)), (1, .int x1)]) hx hb dX5_ifInserted_34 rfl hl (by decide) rfl (fun ls hl => ?_)
      refine lv_iload_n hx hb dX5_ifInserted_35 rfl (lv_at hl 0 rfl) ?_
      refine lv_iconst (v := (-1)) hx hb dX5_ifInserted_36 (by decide) ?_
      refine lv_icmp_eq (tgt := 50) hx hb dX5_ifInserted_37 (by decide) (fun c6 => ?_) (fun c6 => ?_)
      · have h := (if_pos c6).symm.trans h
        exact J50 z2.2 z5 h _ _ hP hD hS _ (lv_sub hl [0] rfl)
      · have h := (if_neg c6).symm.trans h
        refine lv_iload_n hx hb dX5_ifInserted_40 rfl (lv_at hl 0 rfl) ?_
        refine lv_aload_n hx hb dX5_ifInserted_41 rfl (lv_at hl 1 rfl) ?_
        refine gf_X5_7 S hK hN hP 0 rfl (v := .ref (ga 1)) rfl dX5_ifInserted_42 ?_
        refine lv_iconst (v := 0) hx hb dX5_ifInserted_45 (by decide) ?_
        obtain ⟨z7, e_z7, h⟩ := bnd h
        refine iaO (f := z2.2.2.1) hx hb hK hP 1 0 rfl rfl e_z7 dX5_ifInserted_46 ?_
        refine lv_icmp_ne (tgt := 64) hx hb dX5_ifInserted_47 (by decide) (fun c8 => ?_) (fun c8 => ?_)
        · have h := (if_neg c8).symm.trans h
          refine lv_aload_n hx hb dX5_ifInserted_64 rfl (lv_at hl 1 rfl) ?_
          refine lv_iload_n hx hb dX5_ifInserted_65 rfl (lv_at hl 0 rfl) ?_
          obtain ⟨z9, e_z9, h⟩ := bnd h
          refine roI (cc_X5_44 ga S hK hN hP e_z9 hl.1 (Nat.le_of_ble_eq_true rfl) ⟨Nat.le_of_ble_eq_true rfl, Nat.le_of_ble_eq_true rfl⟩ dX5_ifInserted_66 ⟨Nat.le_of_ble_eq_true rfl, Nat.le_of_ble_eq_true rfl⟩) ?_
          refine lv_istore_n (lv' := [(3, .int z9), (2, .int z5), (0, .ref (ga 0)), (1, .int x1)]) hx hb dX5_ifInserted_69 rfl hl (by decide) rfl (fun ls hl => ?_)
          refine lv_bipush (v := 100) hx hb dX5_ifInserted_70 (by decide) ?_
          refine lv_iload_n hx hb dX5_ifInserted_72 rfl (lv_at hl 1 rfl) ?_
          refine lv_imul hx hb dX5_ifInserted_73 ?_
          refine lv_iload_n hx hb dX5_ifInserted_74 rfl (lv_at hl 0 rfl) ?_
          refine lv_iconst (v := (-1)) hx hb dX5_ifInserted_75 (by decide) ?_
          refine lv_icmp_ne (tgt := 88) hx hb dX5_ifInserted_76 (by decide) (fun c10 => ?_) (fun c10 => ?_)
          · have h := (if_neg c10).symm.trans h
            refine lv_iload_n hx hb dX5_ifInserted_88 rfl (lv_at hl 0 rfl) ?_
            refine lv_iadd hx hb dX5_ifInserted_89 ?_
            exact retMi hQ S hr hlocks hK hN hP hD hS h dX5_ifInserted_90
          · have h := (if_pos c10).symm.trans h
            refine lv_aload_n hx hb dX5_ifInserted_79 rfl (lv_at hl 2 rfl) ?_
            refine lv_iload_n hx hb dX5_ifInserted_80 rfl (lv_at hl 1 rfl) ?_
            refine lv_iconst (v := 0) hx hb dX5_ifInserted_81 (by decide) ?_
            obtain ⟨z11, e_z11, h⟩ := bnd h
            refine roI (cc_X5_26 ga S hK hN hP e_z11 hl.1 (Nat.le_of_ble_eq_true rfl) ⟨Nat.le_of_ble_eq_true rfl, Nat.le_of_ble_eq_true rfl⟩ dX5_ifInserted_82 ⟨Nat.le_of_ble_eq_true rfl, Nat.le_of_ble_eq_true rfl⟩) ?_
            refine lv_goto (tgt := 89) hx hb dX5_ifInserted_85 (by decide) ?_
            refine lv_iadd hx hb dX5_ifInserted_89 ?_
            exact retMi hQ S hr hlocks hK hN hP hD hS h dX5_ifInserted_90
        · have h := (if_pos c8).symm.trans h
          exact J50 z2.2 z5 h _ _ hP hD hS _ (lv_sub hl [0] rfl)
    · have h := (if_pos c3).symm.trans h
      refine lv_iconst (v := 0) hx hb dX5_ifInserted_22 (by decide) ?_
      exact retMi hQ S hr hlocks hK hN hP hD hS h dX5_ifInserted_23
  refine lv_aload_n hx hb dX5_ifInserted_0 rfl (lv_at hl 0 rfl) ?_
  refine lv_iload_n hx hb dX5_ifInserted_1 rfl (lv_at hl 1 rfl) ?_
  refine lv_iconst (v := 0) hx hb dX5_ifInserted_2 (by decide) ?_
  refine lv_bipush (v := 60) hx hb dX5_ifInserted_3 (by decide) ?_
  obtain ⟨z12, e_z12, h⟩ := bnd h
  refine roI (cc_X5_78 S hK hN va_P0 e_z12 hl.1 (Nat.le_of_ble_eq_true rfl) ⟨Nat.le_of_ble_eq_true rfl, Nat.le_of_ble_eq_true rfl⟩ dX5_ifInserted_5 ⟨Nat.le_of_ble_eq_true rfl, Nat.le_of_ble_eq_true rfl⟩) ?_
  refine lv_if_eq (tgt := 15) hx hb dX5_ifInserted_8 (by decide) (fun c13 => ?_) (fun c13 => ?_)
  · have h := (if_pos c13).symm.trans h
    refine lv_iconst (v := 1) hx hb dX5_ifInserted_15 (by decide) ?_
    exact J16 u p0 (1 : Int32) h _ _ hP hD hS _ (lv_sub hl [0, 1] rfl)
  · have h := (if_neg c13).symm.trans h
    refine lv_iconst (v := 0) hx hb dX5_ifInserted_11 (by decide) ?_
    refine lv_goto (tgt := 16) hx hb dX5_ifInserted_12 (by decide) ?_
    exact J16 u p0 (0 : Int32) h _ _ hP hD hS _ (lv_sub hl [0, 1] rfl)

def fX5_ifUpdated_j28 (u : TM) (x1 : Int32) (x2 : Int32) (t0 : Int32) : Option (Int32 × TM) := ((fX5_holds u t0).bind fun z1 => (if z1.1 = 0 then some ((0 : Int32), z1.2) else ((fX5_way z1.2 x1 x2).bind fun z3 => some (z3, z1.2))))
def fX5_ifUpdated (u : TM) (p0 : Int32) (p1 : Int32) : Option (Int32 × TM) := ((fX5_isIdentifier u p0).bind fun z4 => (if z4 = 0 then fX5_ifUpdated_j28 u p0 p1 (1 : Int32) else ((fX5_in p1 (0 : Int32) (60 : Int32)).bind fun z6 => (if z6 = 0 then fX5_ifUpdated_j28 u p0 p1 (2 : Int32) else fX5_ifUpdated_j28 u p0 p1 (0 : Int32)))))
abbrev rmX5_ifUpdated : Room := { frames := 7, cells := 0, slots := 0, locals := 159 }
set_option maxRecDepth 100000 in
set_option maxHeartbeats 4000000 in
theorem kX5_ifUpdated (l : Launch) (G : va_G) (cI cS : ClassId) (ga : Nat → Nat) (sz : Nat) (u : TM) (p0 : Int32) (p1 : Int32) (r : Int32 × TM) (hf : fX5_ifUpdated u p0 p1 = some r) : Met l yX5_ifUpdated (.code yX5_ifUpdated cX5_ifUpdated 3 (some .int) :: bw) rmX5_ifUpdated (va_Pc [.ref (ga 0), .int p0, .int p1] (PreM G (tysW cI cS) (wM cI ga u) sz)) (va_Qi (fun r' u' => (r', u') = r) (PoM G (tysW cI cS) (va_A (wM cI ga u) sz) (wM cI ga)) (va_A (wM cI ga u) sz)) 0 0 (va_A (wM cI ga u) sz) := by
  refine enterM (own := RX5) (by decide) rfl (Nat.le_of_ble_eq_true rfl) ?_
  intro p e s m args below meth c A Q hAe hQ S hr hlocks hP hK hN hD hA hS ls hl
  rw [hAe] at hQ
  have hx := S.1; have hb := S.2.1; have hml := S.2.2.1; have hown := S.2.2.2.1; have hq := S.2.2.2.2
  have hl : lv_has ls 3 [(0, .ref (ga 0)), (1, .int p0), (2, .int p1)] := hl
  have h := hf
  unfold fX5_ifUpdated at h
  have J28 : ∀ (u : TM) (x1 : Int32) (x2 : Int32) (t0 : Int32) , fX5_ifUpdated_j28 u x1 x2 t0 = some r → ∀ (H : Heap) (locs : List Loc), va_P G vwCl (wM cI ga u) H → va_D A (wM cI ga u) → va_S A s.heap H locs → ∀ ls : Array Slot, lv_has ls 3 [(0, .ref (ga 0)), (1, .int x1), (2, .int x2)] → W p l e rmX5_ifUpdated s m args below meth c H locs 0 0 Q (F0 m 28 ls [.int t0, .ref (ga 0)]) := by
    intro u x1 x2 t0 h
    unfold fX5_ifUpdated_j28 at h
    intro H locs hP hD hS ls hl
    obtain ⟨z1, e_z1, h⟩ := bnd h
    refine mui (cc_X5_146 ga S hK hN hP hD e_z1 hl.1 (Nat.le_of_ble_eq_true rfl) ⟨Nat.le_of_ble_eq_true rfl, Nat.le_of_ble_eq_true rfl⟩ dX5_ifUpdated_28 ⟨Nat.le_of_ble_eq_true rfl, Nat.le_of_ble_eq_true rfl⟩) hS hD (va_free hD hS hA [0, 1, 2, 3, 4] rfl) (fun H locs hP hD hS => ?_)
    have hP : va_P G vwCl (wM cI ga z1.2) H := hP
    have hD : va_D A (wM cI ga z1.2) := hD
    refine lv_if_eq (tgt := 43) hx hb dX5_ifUpdated_31 (by decide) (fun c2 => ?_) (fun c2 => ?_)
    · have h := (if_pos c2).symm.trans h
      refine lv_iconst (v := 0) hx hb dX5_ifUpdated_43 (by decide) ?_
      exact retMi hQ S hr hlocks hK hN hP hD hS h dX5_ifUpdated_44
    · have h := (if_neg c2).symm.trans h
      refine lv_aload_n hx hb dX5_ifUpdated_34 rfl (lv_at hl 0 rfl) ?_
      refine lv_iload_n hx hb dX5_ifUpdated_35 rfl (lv_at hl 1 rfl) ?_
      refine lv_iload_n hx hb dX5_ifUpdated_36 rfl (lv_at hl 2 rfl) ?_
      obtain ⟨z3, e_z3, h⟩ := bnd h
      refine roI (cc_X5_119 ga S hK hN hP e_z3 hl.1 (Nat.le_of_ble_eq_true rfl) ⟨Nat.le_of_ble_eq_true rfl, Nat.le_of_ble_eq_true rfl⟩ dX5_ifUpdated_37 ⟨Nat.le_of_ble_eq_true rfl, Nat.le_of_ble_eq_true rfl⟩) ?_
      refine lv_goto (tgt := 44) hx hb dX5_ifUpdated_40 (by decide) ?_
      exact retMi hQ S hr hlocks hK hN hP hD hS h dX5_ifUpdated_44
  refine lv_aload_n hx hb dX5_ifUpdated_0 rfl (lv_at hl 0 rfl) ?_
  refine lv_aload_n hx hb dX5_ifUpdated_1 rfl (lv_at hl 0 rfl) ?_
  refine lv_iload_n hx hb dX5_ifUpdated_2 rfl (lv_at hl 1 rfl) ?_
  obtain ⟨z4, e_z4, h⟩ := bnd h
  refine roI (cc_X5_160 ga S hK hN hP e_z4 hl.1 (Nat.le_of_ble_eq_true rfl) ⟨Nat.le_of_ble_eq_true rfl, Nat.le_of_ble_eq_true rfl⟩ dX5_ifUpdated_3 ⟨Nat.le_of_ble_eq_true rfl, Nat.le_of_ble_eq_true rfl⟩) ?_
  refine lv_if_ne (tgt := 13) hx hb dX5_ifUpdated_6 (by decide) (fun c5 => ?_) (fun c5 => ?_)
  · have h := (if_neg c5).symm.trans h
    refine lv_iload_n hx hb dX5_ifUpdated_13 rfl (lv_at hl 2 rfl) ?_
    refine lv_iconst (v := 0) hx hb dX5_ifUpdated_14 (by decide) ?_
    refine lv_bipush (v := 60) hx hb dX5_ifUpdated_15 (by decide) ?_
    obtain ⟨z6, e_z6, h⟩ := bnd h
    refine roI (cc_X5_78 S hK hN va_P0 e_z6 hl.1 (Nat.le_of_ble_eq_true rfl) ⟨Nat.le_of_ble_eq_true rfl, Nat.le_of_ble_eq_true rfl⟩ dX5_ifUpdated_17 ⟨Nat.le_of_ble_eq_true rfl, Nat.le_of_ble_eq_true rfl⟩) ?_
    refine lv_if_ne (tgt := 27) hx hb dX5_ifUpdated_20 (by decide) (fun c7 => ?_) (fun c7 => ?_)
    · have h := (if_neg c7).symm.trans h
      refine lv_iconst (v := 0) hx hb dX5_ifUpdated_27 (by decide) ?_
      exact J28 u p0 p1 (0 : Int32) h _ _ hP hD hS _ (lv_sub hl [0, 1, 2] rfl)
    · have h := (if_pos c7).symm.trans h
      refine lv_iconst (v := 2) hx hb dX5_ifUpdated_23 (by decide) ?_
      refine lv_goto (tgt := 28) hx hb dX5_ifUpdated_24 (by decide) ?_
      exact J28 u p0 p1 (2 : Int32) h _ _ hP hD hS _ (lv_sub hl [0, 1, 2] rfl)
  · have h := (if_pos c5).symm.trans h
    refine lv_iconst (v := 1) hx hb dX5_ifUpdated_9 (by decide) ?_
    refine lv_goto (tgt := 28) hx hb dX5_ifUpdated_10 (by decide) ?_
    exact J28 u p0 p1 (1 : Int32) h _ _ hP hD hS _ (lv_sub hl [0, 1, 2] rfl)

def fX5_greatestAtHome_s25 (u : TM) (x1 : Int32) (x2 : Int32) : Option ((TM × Int32 × Int32) ⊕ (TM × Int32)) := ((fX5_homeSize x2).bind fun z1 => ((fX5_canReplace u (x1 / (100 : Int32)) (x1 - x1 / (100 : Int32) * (100 : Int32)) z1).bind fun z2 => (if z2 = 0 then some (.inl (u, x1, (x2 + (-1)))) else some (.inr (u, x2)))))
def fX5_greatestAtHome_j14 (u : TM) (x1 : Int32) (t0 : Int32) : Option (Int32 × TM) := ((fX5_holds u t0).bind fun z4 => (if z4.1 = 0 then some ((0 : Int32), z4.2) else ((itr (fun a : TM × Int32 × Int32 => fX5_greatestAtHome_s25 a.1 a.2.1 a.2.2) FU (z4.2, x1, (60 : Int32))).bind fun b6 => some (b6.2, b6.1))))
def fX5_greatestAtHome (u : TM) (p0 : Int32) : Option (Int32 × TM) := ((fX5_isIdentifier u p0).bind fun z7 => (if z7 = 0 then fX5_greatestAtHome_j14 u p0 (1 : Int32) else fX5_greatestAtHome_j14 u p0 (0 : Int32)))
abbrev rmX5_greatestAtHome : Room := { frames := 5, cells := 0, slots := 0, locals := 111 }
set_option maxRecDepth 100000 in
set_option maxHeartbeats 4000000 in
theorem kX5_greatestAtHome (l : Launch) (G : va_G) (cI cS : ClassId) (ga : Nat → Nat) (sz : Nat) (u : TM) (p0 : Int32) (r : Int32 × TM) (hf : fX5_greatestAtHome u p0 = some r) : Met l yX5_greatestAtHome (.code yX5_greatestAtHome cX5_greatestAtHome 3 (some .int) :: bw) rmX5_greatestAtHome (va_Pc [.ref (ga 0), .int p0] (PreM G (tysW cI cS) (wM cI ga u) sz)) (va_Qi (fun r' u' => (r', u') = r) (PoM G (tysW cI cS) (va_A (wM cI ga u) sz) (wM cI ga)) (va_A (wM cI ga u) sz)) 0 0 (va_A (wM cI ga u) sz) := by
  refine enterM (own := RX5) (by decide) rfl (Nat.le_of_ble_eq_true rfl) ?_
  intro p e s m args below meth c A Q hAe hQ S hr hlocks hP hK hN hD hA hS ls hl
  rw [hAe] at hQ
  have hx := S.1; have hb := S.2.1; have hml := S.2.2.1; have hown := S.2.2.2.1; have hq := S.2.2.2.2
  have hl : lv_has ls 3 [(0, .ref (ga 0)), (1, .int p0)] := hl
  have h := hf
  unfold fX5_greatestAtHome at h
  have L25 : ∀ (n9 : Nat) (a9 : TM × Int32 × Int32) (b9 : TM × Int32), itr (fun a : TM × Int32 × Int32 => fX5_greatestAtHome_s25 a.1 a.2.1 a.2.2) n9 a9 = some b9 → (fun b : TM × Int32 => ∀ (H : Heap) (locs : List Loc), va_P G vwCl (wM cI ga b.1) H → va_D A (wM cI ga b.1) → va_S A s.heap H locs → ∀ ls : Array Slot, lv_has ls 3 [(2, .int b.2)] → W p l e rmX5_greatestAtHome s m args below meth c H locs 0 0 Q (F0 m 50 ls [])) b9 → (fun a : TM × Int32 × Int32 => ∀ (H : Heap) (locs : List Loc), va_P G vwCl (wM cI ga a.1) H → va_D A (wM cI ga a.1) → va_S A s.heap H locs → ∀ ls : Array Slot, lv_has ls 3 [(0, .ref (ga 0)), (1, .int a.2.1), (2, .int a.2.2)] → W p l e rmX5_greatestAtHome s m args below meth c H locs 0 0 Q (F0 m 25 ls [])) a9 := by
    refine itr_ind (Inv := (fun a : TM × Int32 × Int32 => ∀ (H : Heap) (locs : List Loc), va_P G vwCl (wM cI ga a.1) H → va_D A (wM cI ga a.1) → va_S A s.heap H locs → ∀ ls : Array Slot, lv_has ls 3 [(0, .ref (ga 0)), (1, .int a.2.1), (2, .int a.2.2)] → W p l e rmX5_greatestAtHome s m args below meth c H locs 0 0 Q (F0 m 25 ls []))) (Ex := (fun b : TM × Int32 => ∀ (H : Heap) (locs : List Loc), va_P G vwCl (wM cI ga b.1) H → va_D A (wM cI ga b.1) → va_S A s.heap H locs → ∀ ls : Array Slot, lv_has ls 3 [(2, .int b.2)] → W p l e rmX5_greatestAtHome s m args below meth c H locs 0 0 Q (F0 m 50 ls []))) ?_
    rintro ⟨u, x1, x2⟩ z h hI hE
    have h : fX5_greatestAtHome_s25 u x1 x2 = some z := h
    unfold fX5_greatestAtHome_s25 at h
    show ∀ (H : Heap) (locs : List Loc), va_P G vwCl (wM cI ga u) H → va_D A (wM cI ga u) → va_S A s.heap H locs → ∀ ls : Array Slot, lv_has ls 3 [(0, .ref (ga 0)), (1, .int x1), (2, .int x2)] → W p l e rmX5_greatestAtHome s m args below meth c H locs 0 0 Q (F0 m 25 ls [])
    intro H locs hP hD hS ls hl
    refine lv_aload_n hx hb dX5_greatestAtHome_25 rfl (lv_at hl 0 rfl) ?_
    refine lv_iload_n hx hb dX5_greatestAtHome_26 rfl (lv_at hl 1 rfl) ?_
    refine lv_bipush (v := 100) hx hb dX5_greatestAtHome_27 (by decide) ?_
    refine lv_idiv hx hb dX5_greatestAtHome_29 (by decide) ?_
    refine lv_iload_n hx hb dX5_greatestAtHome_30 rfl (lv_at hl 1 rfl) ?_
    refine lv_bipush (v := 100) hx hb dX5_greatestAtHome_31 (by decide) ?_
    refine lv_irem hx hb dX5_greatestAtHome_33 (by decide) ?_
    refine lv_iload_n hx hb dX5_greatestAtHome_34 rfl (lv_at hl 2 rfl) ?_
    obtain ⟨z1, e_z1, h⟩ := bnd h
    refine roI (cc_X5_91 S hK hN va_P0 e_z1 hl.1 (Nat.le_of_ble_eq_true rfl) ⟨Nat.le_of_ble_eq_true rfl, Nat.le_of_ble_eq_true rfl⟩ dX5_greatestAtHome_35 ⟨Nat.le_of_ble_eq_true rfl, Nat.le_of_ble_eq_true rfl⟩) ?_
    obtain ⟨z2, e_z2, h⟩ := bnd h
    refine roI (cc_X5_107 ga S hK hN hP e_z2 hl.1 (Nat.le_of_ble_eq_true rfl) ⟨Nat.le_of_ble_eq_true rfl, Nat.le_of_ble_eq_true rfl⟩ dX5_greatestAtHome_38 ⟨Nat.le_of_ble_eq_true rfl, Nat.le_of_ble_eq_true rfl⟩) ?_
    refine lv_if_ne (tgt := 50) hx hb dX5_greatestAtHome_41 (by decide) (fun c3 => ?_) (fun c3 => ?_)
    · have h := (if_neg c3).symm.trans h
      exact hE _ (Option.some.inj h) _ _ hP hD hS _ (lv_sub hl [2] rfl)
    · have h := (if_pos c3).symm.trans h
      refine lv_iinc (v := (x2 + (-1))) (lv' := [(2, .int (x2 + (-1))), (0, .ref (ga 0)), (1, .int x1)]) hx hb dX5_greatestAtHome_44 hl (k := 2) rfl rfl (by decide) rfl (fun ls hl => ?_)
      refine lv_goto (tgt := 25) hx hb dX5_greatestAtHome_47 (by decide) ?_
      exact hI _ (Option.some.inj h) _ _ hP hD hS _ (lv_sub hl [1, 2, 0] rfl)
  have J14 : ∀ (u : TM) (x1 : Int32) (t0 : Int32) , fX5_greatestAtHome_j14 u x1 t0 = some r → ∀ (H : Heap) (locs : List Loc), va_P G vwCl (wM cI ga u) H → va_D A (wM cI ga u) → va_S A s.heap H locs → ∀ ls : Array Slot, lv_has ls 3 [(0, .ref (ga 0)), (1, .int x1)] → W p l e rmX5_greatestAtHome s m args below meth c H locs 0 0 Q (F0 m 14 ls [.int t0, .ref (ga 0)]) := by
    intro u x1 t0 h
    unfold fX5_greatestAtHome_j14 at h
    intro H locs hP hD hS ls hl
    obtain ⟨z4, e_z4, h⟩ := bnd h
    refine mui (cc_X5_146 ga S hK hN hP hD e_z4 hl.1 (Nat.le_of_ble_eq_true rfl) ⟨Nat.le_of_ble_eq_true rfl, Nat.le_of_ble_eq_true rfl⟩ dX5_greatestAtHome_14 ⟨Nat.le_of_ble_eq_true rfl, Nat.le_of_ble_eq_true rfl⟩) hS hD (va_free hD hS hA [0, 1, 2, 3, 4] rfl) (fun H locs hP hD hS => ?_)
    have hP : va_P G vwCl (wM cI ga z4.2) H := hP
    have hD : va_D A (wM cI ga z4.2) := hD
    refine lv_if_ne (tgt := 22) hx hb dX5_greatestAtHome_17 (by decide) (fun c5 => ?_) (fun c5 => ?_)
    · have h := (if_neg c5).symm.trans h
      refine lv_bipush (v := 60) hx hb dX5_greatestAtHome_22 (by decide) ?_
      refine lv_istore_n (lv' := [(2, .int (60 : Int32)), (0, .ref (ga 0)), (1, .int x1)]) hx hb dX5_greatestAtHome_24 rfl hl (by decide) rfl (fun ls hl => ?_)
      obtain ⟨b6, e_b6, h⟩ := bnd h
      refine L25 _ _ _ e_b6 ?_ _ _ hP hD hS _ (lv_sub hl [1, 2, 0] rfl)
      intro H locs hP hD hS ls hl
      refine lv_iload_n hx hb dX5_greatestAtHome_50 rfl (lv_at hl 0 rfl) ?_
      exact retMi hQ S hr hlocks hK hN hP hD hS h dX5_greatestAtHome_51
    · have h := (if_pos c5).symm.trans h
      refine lv_iconst (v := 0) hx hb dX5_greatestAtHome_20 (by decide) ?_
      exact retMi hQ S hr hlocks hK hN hP hD hS h dX5_greatestAtHome_21
  refine lv_aload_n hx hb dX5_greatestAtHome_0 rfl (lv_at hl 0 rfl) ?_
  refine lv_aload_n hx hb dX5_greatestAtHome_1 rfl (lv_at hl 0 rfl) ?_
  refine lv_iload_n hx hb dX5_greatestAtHome_2 rfl (lv_at hl 1 rfl) ?_
  obtain ⟨z7, e_z7, h⟩ := bnd h
  refine roI (cc_X5_160 ga S hK hN hP e_z7 hl.1 (Nat.le_of_ble_eq_true rfl) ⟨Nat.le_of_ble_eq_true rfl, Nat.le_of_ble_eq_true rfl⟩ dX5_greatestAtHome_3 ⟨Nat.le_of_ble_eq_true rfl, Nat.le_of_ble_eq_true rfl⟩) ?_
  refine lv_if_eq (tgt := 13) hx hb dX5_greatestAtHome_6 (by decide) (fun c8 => ?_) (fun c8 => ?_)
  · have h := (if_pos c8).symm.trans h
    refine lv_iconst (v := 1) hx hb dX5_greatestAtHome_13 (by decide) ?_
    exact J14 u p0 (1 : Int32) h _ _ hP hD hS _ (lv_sub hl [0, 1] rfl)
  · have h := (if_neg c8).symm.trans h
    refine lv_iconst (v := 0) hx hb dX5_greatestAtHome_9 (by decide) ?_
    refine lv_goto (tgt := 14) hx hb dX5_greatestAtHome_10 (by decide) ?_
    exact J14 u p0 (0 : Int32) h _ _ hP hD hS _ (lv_sub hl [0, 1] rfl)

def fX5_taken_s44 (x0 : Int32) (x4 : Int32) (x5 : Int32) (x6 : Int32) : Option ((Int32 × Int32 × Int32 × Int32) ⊕ (Int32)) := (if (31 : Int32) ≤ x6 then some (.inr x4) else (if x5 < (x0 + (2 : Int32)) then some (.inr x4) else some (.inl (x0, (x4 + 1), (x5 - (x0 + (2 : Int32))), (x6 + 1)))))
def fX5_taken_j42 (x0 : Int32) (x4 : Int32) (x5 : Int32) (t0 : Int32) : Option (Int32) := ((itr (fun a : Int32 × Int32 × Int32 × Int32 => fX5_taken_s44 a.1 a.2.1 a.2.2.1 a.2.2.2) FU (x0, x4, x5, t0)).bind fun b3 => some b3)
def fX5_taken_j30 (x0 : Int32) (x1 : Int32) (x2 : Int32) (x4 : Int32) (x5 : Int32) : Option (Int32) := (if x1 ≤ x4 then fX5_taken_j42 x0 x4 x5 x2 else fX5_taken_j42 x0 x4 x5 (31 : Int32))
def fX5_taken_s6 (x0 : Int32) (x1 : Int32) (x2 : Int32) (x4 : Int32) (x5 : Int32) : Option ((Int32 × Int32 × Int32 × Int32 × Int32) ⊕ (Int32 × Int32 × Int32 × Int32 × Int32)) := (if x1 ≤ x4 then some (.inr (x0, x1, x2, x4, x5)) else (if x5 < x0 then some (.inr (x0, x1, x2, x4, x5)) else some (.inl (x0, x1, x2, (x4 + 1), (x5 - x0)))))
def fX5_taken (p0 : Int32) (p1 : Int32) (p2 : Int32) (p3 : Int32) : Option (Int32) := ((itr (fun a : Int32 × Int32 × Int32 × Int32 × Int32 => fX5_taken_s6 a.1 a.2.1 a.2.2.1 a.2.2.2.1 a.2.2.2.2) FU (p0, p1, p2, (0 : Int32), p3)).bind fun b7 => fX5_taken_j30 b7.1 b7.2.1 b7.2.2.1 b7.2.2.2.1 b7.2.2.2.2)
abbrev rmX5_taken : Room := { frames := 0, cells := 0, slots := 0, locals := 0 }
set_option maxRecDepth 100000 in
set_option maxHeartbeats 4000000 in
theorem kX5_taken (l : Launch) (G : va_G) (cI cS : ClassId) (p0 : Int32) (p1 : Int32) (p2 : Int32) (p3 : Int32) (r : Int32) (hf : fX5_taken p0 p1 p2 p3 = some r) : Met l yX5_taken (.code yX5_taken cX5_taken 7 (some .int) :: bw) rmX5_taken (va_Pc [.int p0, .int p1, .int p2, .int p3] (PreR G (tysW cI cS) wE)) (vp_Si (fun r' => r' = r)) 0 0 (fun _ => False) := by
  refine enterR (own := RX5) (by decide) rfl rfl (Nat.le_of_ble_eq_true rfl) ?_
  intro p e s m args below meth c Q hQ S hr hlocks hP hK hN ls hl
  have hx := S.1; have hb := S.2.1; have hml := S.2.2.1; have hown := S.2.2.2.1; have hq := S.2.2.2.2
  have hl : lv_has ls 7 [(0, .int p0), (1, .int p1), (2, .int p2), (3, .int p3)] := hl
  have h := hf
  unfold fX5_taken at h
  have L44 : ∀ (n9 : Nat) (a9 : Int32 × Int32 × Int32 × Int32) (b9 : Int32), itr (fun a : Int32 × Int32 × Int32 × Int32 => fX5_taken_s44 a.1 a.2.1 a.2.2.1 a.2.2.2) n9 a9 = some b9 → (fun b : Int32 => ∀ ls : Array Slot, lv_has ls 7 [(4, .int b)] → W p l e rmX5_taken s m args below meth c s.heap [] 0 0 Q (F0 m 76 ls [])) b9 → (fun a : Int32 × Int32 × Int32 × Int32 => ∀ ls : Array Slot, lv_has ls 7 [(0, .int a.1), (4, .int a.2.1), (5, .int a.2.2.1), (6, .int a.2.2.2)] → W p l e rmX5_taken s m args below meth c s.heap [] 0 0 Q (F0 m 44 ls [])) a9 := by
    refine itr_ind (Inv := (fun a : Int32 × Int32 × Int32 × Int32 => ∀ ls : Array Slot, lv_has ls 7 [(0, .int a.1), (4, .int a.2.1), (5, .int a.2.2.1), (6, .int a.2.2.2)] → W p l e rmX5_taken s m args below meth c s.heap [] 0 0 Q (F0 m 44 ls []))) (Ex := (fun b : Int32 => ∀ ls : Array Slot, lv_has ls 7 [(4, .int b)] → W p l e rmX5_taken s m args below meth c s.heap [] 0 0 Q (F0 m 76 ls []))) ?_
    rintro ⟨x0, x4, x5, x6⟩ z h hI hE
    have h : fX5_taken_s44 x0 x4 x5 x6 = some z := h
    unfold fX5_taken_s44 at h
    show ∀ ls : Array Slot, lv_has ls 7 [(0, .int x0), (4, .int x4), (5, .int x5), (6, .int x6)] → W p l e rmX5_taken s m args below meth c s.heap [] 0 0 Q (F0 m 44 ls [])
    intro ls hl
    refine lv_iload hx hb dX5_taken_44 (lv_at hl 3 rfl) ?_
    refine lv_bipush (v := 31) hx hb dX5_taken_46 (by decide) ?_
    refine lv_icmp_ge (tgt := 76) hx hb dX5_taken_48 (by decide) (fun c1 => ?_) (fun c1 => ?_)
    · have h := (if_pos c1).symm.trans h
      exact hE _ (Option.some.inj h) _ (lv_sub hl [1] rfl)
    · have h := (if_neg c1).symm.trans h
      refine lv_iload_n hx hb dX5_taken_51 rfl (lv_at hl 0 rfl) ?_
      refine lv_iconst (v := 2) hx hb dX5_taken_52 (by decide) ?_
      refine lv_iadd hx hb dX5_taken_53 ?_
      refine lv_iload hx hb dX5_taken_54 (lv_at hl 2 rfl) ?_
      refine lv_icmp_gt (tgt := 76) hx hb dX5_taken_56 (by decide) (fun c2 => ?_) (fun c2 => ?_)
      · have h := (if_pos c2).symm.trans h
        exact hE _ (Option.some.inj h) _ (lv_sub hl [1] rfl)
      · have h := (if_neg c2).symm.trans h
        refine lv_iload hx hb dX5_taken_59 (lv_at hl 2 rfl) ?_
        refine lv_iload_n hx hb dX5_taken_61 rfl (lv_at hl 0 rfl) ?_
        refine lv_iconst (v := 2) hx hb dX5_taken_62 (by decide) ?_
        refine lv_iadd hx hb dX5_taken_63 ?_
        refine lv_isub hx hb dX5_taken_64 ?_
        refine lv_istore (lv' := [(5, .int (x5 - (x0 + (2 : Int32)))), (0, .int x0), (4, .int x4), (6, .int x6)]) hx hb dX5_taken_65 hl (by decide) rfl (fun ls hl => ?_)
        refine lv_iinc (v := (x6 + 1)) (lv' := [(6, .int (x6 + 1)), (5, .int (x5 - (x0 + (2 : Int32)))), (0, .int x0), (4, .int x4)]) hx hb dX5_taken_67 hl (k := 3) rfl rfl (by decide) rfl (fun ls hl => ?_)
        refine lv_iinc (v := (x4 + 1)) (lv' := [(4, .int (x4 + 1)), (6, .int (x6 + 1)), (5, .int (x5 - (x0 + (2 : Int32)))), (0, .int x0)]) hx hb dX5_taken_70 hl (k := 3) rfl rfl (by decide) rfl (fun ls hl => ?_)
        refine lv_goto (tgt := 44) hx hb dX5_taken_73 (by decide) ?_
        exact hI _ (Option.some.inj h) _ (lv_sub hl [3, 0, 2, 1] rfl)
  have J42 : ∀ (x0 : Int32) (x4 : Int32) (x5 : Int32) (t0 : Int32) , fX5_taken_j42 x0 x4 x5 t0 = some r → ∀ ls : Array Slot, lv_has ls 7 [(0, .int x0), (4, .int x4), (5, .int x5)] → W p l e rmX5_taken s m args below meth c s.heap [] 0 0 Q (F0 m 42 ls [.int t0]) := by
    intro x0 x4 x5 t0 h
    unfold fX5_taken_j42 at h
    intro ls hl
    refine lv_istore (lv' := [(6, .int t0), (0, .int x0), (4, .int x4), (5, .int x5)]) hx hb dX5_taken_42 hl (by decide) rfl (fun ls hl => ?_)
    obtain ⟨b3, e_b3, h⟩ := bnd h
    refine L44 _ _ _ e_b3 ?_ _ (lv_sub hl [1, 2, 3, 0] rfl)
    intro ls hl
    refine lv_iload hx hb dX5_taken_76 (lv_at hl 0 rfl) ?_
    exact retR hQ S hr hlocks h dX5_taken_78
  have J30 : ∀ (x0 : Int32) (x1 : Int32) (x2 : Int32) (x4 : Int32) (x5 : Int32) , fX5_taken_j30 x0 x1 x2 x4 x5 = some r → ∀ ls : Array Slot, lv_has ls 7 [(0, .int x0), (1, .int x1), (2, .int x2), (4, .int x4), (5, .int x5)] → W p l e rmX5_taken s m args below meth c s.heap [] 0 0 Q (F0 m 30 ls []) := by
    intro x0 x1 x2 x4 x5 h
    unfold fX5_taken_j30 at h
    intro ls hl
    refine lv_iload hx hb dX5_taken_30 (lv_at hl 3 rfl) ?_
    refine lv_iload_n hx hb dX5_taken_32 rfl (lv_at hl 1 rfl) ?_
    refine lv_icmp_ge (tgt := 41) hx hb dX5_taken_33 (by decide) (fun c4 => ?_) (fun c4 => ?_)
    · have h := (if_pos c4).symm.trans h
      refine lv_iload_n hx hb dX5_taken_41 rfl (lv_at hl 2 rfl) ?_
      exact J42 x0 x4 x5 x2 h _ (lv_sub hl [0, 3, 4] rfl)
    · have h := (if_neg c4).symm.trans h
      refine lv_bipush (v := 31) hx hb dX5_taken_36 (by decide) ?_
      refine lv_goto (tgt := 42) hx hb dX5_taken_38 (by decide) ?_
      exact J42 x0 x4 x5 (31 : Int32) h _ (lv_sub hl [0, 3, 4] rfl)
  have L6 : ∀ (n9 : Nat) (a9 : Int32 × Int32 × Int32 × Int32 × Int32) (b9 : Int32 × Int32 × Int32 × Int32 × Int32), itr (fun a : Int32 × Int32 × Int32 × Int32 × Int32 => fX5_taken_s6 a.1 a.2.1 a.2.2.1 a.2.2.2.1 a.2.2.2.2) n9 a9 = some b9 → (fun b : Int32 × Int32 × Int32 × Int32 × Int32 => ∀ ls : Array Slot, lv_has ls 7 [(0, .int b.1), (1, .int b.2.1), (2, .int b.2.2.1), (4, .int b.2.2.2.1), (5, .int b.2.2.2.2)] → W p l e rmX5_taken s m args below meth c s.heap [] 0 0 Q (F0 m 30 ls [])) b9 → (fun a : Int32 × Int32 × Int32 × Int32 × Int32 => ∀ ls : Array Slot, lv_has ls 7 [(0, .int a.1), (1, .int a.2.1), (2, .int a.2.2.1), (4, .int a.2.2.2.1), (5, .int a.2.2.2.2)] → W p l e rmX5_taken s m args below meth c s.heap [] 0 0 Q (F0 m 6 ls [])) a9 := by
    refine itr_ind (Inv := (fun a : Int32 × Int32 × Int32 × Int32 × Int32 => ∀ ls : Array Slot, lv_has ls 7 [(0, .int a.1), (1, .int a.2.1), (2, .int a.2.2.1), (4, .int a.2.2.2.1), (5, .int a.2.2.2.2)] → W p l e rmX5_taken s m args below meth c s.heap [] 0 0 Q (F0 m 6 ls []))) (Ex := (fun b : Int32 × Int32 × Int32 × Int32 × Int32 => ∀ ls : Array Slot, lv_has ls 7 [(0, .int b.1), (1, .int b.2.1), (2, .int b.2.2.1), (4, .int b.2.2.2.1), (5, .int b.2.2.2.2)] → W p l e rmX5_taken s m args below meth c s.heap [] 0 0 Q (F0 m 30 ls []))) ?_
    rintro ⟨x0, x1, x2, x4, x5⟩ z h hI hE
    have h : fX5_taken_s6 x0 x1 x2 x4 x5 = some z := h
    unfold fX5_taken_s6 at h
    show ∀ ls : Array Slot, lv_has ls 7 [(0, .int x0), (1, .int x1), (2, .int x2), (4, .int x4), (5, .int x5)] → W p l e rmX5_taken s m args below meth c s.heap [] 0 0 Q (F0 m 6 ls [])
    intro ls hl
    refine lv_iload hx hb dX5_taken_6 (lv_at hl 3 rfl) ?_
    refine lv_iload_n hx hb dX5_taken_8 rfl (lv_at hl 1 rfl) ?_
    refine lv_icmp_ge (tgt := 30) hx hb dX5_taken_9 (by decide) (fun c5 => ?_) (fun c5 => ?_)
    · have h := (if_pos c5).symm.trans h
      exact hE _ (Option.some.inj h) _ (lv_sub hl [0, 1, 2, 3, 4] rfl)
    · have h := (if_neg c5).symm.trans h
      refine lv_iload_n hx hb dX5_taken_12 rfl (lv_at hl 0 rfl) ?_
      refine lv_iload hx hb dX5_taken_13 (lv_at hl 4 rfl) ?_
      refine lv_icmp_gt (tgt := 30) hx hb dX5_taken_15 (by decide) (fun c6 => ?_) (fun c6 => ?_)
      · have h := (if_pos c6).symm.trans h
        exact hE _ (Option.some.inj h) _ (lv_sub hl [0, 1, 2, 3, 4] rfl)
      · have h := (if_neg c6).symm.trans h
        refine lv_iload hx hb dX5_taken_18 (lv_at hl 4 rfl) ?_
        refine lv_iload_n hx hb dX5_taken_20 rfl (lv_at hl 0 rfl) ?_
        refine lv_isub hx hb dX5_taken_21 ?_
        refine lv_istore (lv' := [(5, .int (x5 - x0)), (0, .int x0), (1, .int x1), (2, .int x2), (4, .int x4)]) hx hb dX5_taken_22 hl (by decide) rfl (fun ls hl => ?_)
        refine lv_iinc (v := (x4 + 1)) (lv' := [(4, .int (x4 + 1)), (5, .int (x5 - x0)), (0, .int x0), (1, .int x1), (2, .int x2)]) hx hb dX5_taken_24 hl (k := 4) rfl rfl (by decide) rfl (fun ls hl => ?_)
        refine lv_goto (tgt := 6) hx hb dX5_taken_27 (by decide) ?_
        exact hI _ (Option.some.inj h) _ (lv_sub hl [2, 3, 4, 0, 1] rfl)
  refine lv_iconst (v := 0) hx hb dX5_taken_0 (by decide) ?_
  refine lv_istore (lv' := [(4, .int (0 : Int32)), (0, .int p0), (1, .int p1), (2, .int p2), (3, .int p3)]) hx hb dX5_taken_1 hl (by decide) rfl (fun ls hl => ?_)
  refine lv_iload_n hx hb dX5_taken_3 rfl (lv_at hl 4 rfl) ?_
  refine lv_istore (lv' := [(5, .int p3), (4, .int (0 : Int32)), (0, .int p0), (1, .int p1), (2, .int p2), (3, .int p3)]) hx hb dX5_taken_4 hl (by decide) rfl (fun ls hl => ?_)
  obtain ⟨b7, e_b7, h⟩ := bnd h
  refine L6 _ _ _ e_b7 ?_ _ (lv_sub hl [2, 3, 4, 1, 0] rfl)
  intro ls hl
  exact J30 b7.1 b7.2.1 b7.2.2.1 b7.2.2.2.1 b7.2.2.2.2 h _ (lv_sub hl [0, 1, 2, 3, 4] rfl)

theorem cc_X5_185 {p : Program} {l : Launch} {e : Env} {R : Room} {s : State} {m : MethodId} {args : Array Value} {below : List Frame} {meth : Method} {c : Code} {H : Heap} {locs : List Loc} {cells slots : Nat} {cc : ByteArray} {pc nL : Nat} {ls : Array Slot} {rest : List Value} {G : va_G}  {cI cS : ClassId}  {p0 : Int32} {p1 : Int32} {p2 : Int32} {p3 : Int32} {r : Int32} (S : CallFix p m c cc nL s args bw RX5) (hK : va_K G vwCl (tysW cI cS) s) (hN : NW s) (hP : va_P G vwCl wE H) (hf : fX5_taken p0 p1 p2 p3 = some r) (hsz : ls.size = nL) (hst : (rest.map fun v => v.category).sum ≤ 8) (hR : rmX5_taken.frames + 1 ≤ R.frames ∧ 8 + (7 + 11) + rmX5_taken.locals ≤ R.locals) (hdg : decode cc pc = .ok (.invokestatic 185, 3)) (hcs : cells + 0 ≤ R.cells ∧ slots + 0 ≤ R.slots) : va_Run p l e R s m args below meth c H locs cells slots 0 0 (F0 m pc ls (.int p3 :: .int p2 :: .int p1 :: .int p0 :: rest)) rest (vp_Si (fun r' => r' = r) (#[.int p0, .int p1, .int p2, .int p3] : Array Value)) (fun _ => False) :=
  va_runS (As := [.int p0, .int p1, .int p2, .int p3]) (rest := rest) S (kX5_taken l G cI cS p0 p1 p2 p3 r hf) (cwS 4 S.2.2.2.2 (gdS q_599 q_600 q_392 q_598) rfl rfl rfl (by decide +kernel) hR) (psR hK hN hP) rfl rfl hsz rfl (lv_room hst) hdg hcs
def fX5_capacity_j139 (u : TM) (x1 : Int32) (x3 : Int32) (t0 : Int32) (t1 : Int32) : Option ((TM × Int32 × Int32 × Int32) ⊕ (TM × Int32)) := some (.inl (u, x1, (t1 + t0), (x3 + 1)))
def fX5_capacity_j99 (u : TM) (x1 : Int32) (x2 : Int32) (x3 : Int32) (x4 : Int32) (x5 : Int32) : Option ((TM × Int32 × Int32 × Int32) ⊕ (TM × Int32)) := (if x5 = 0 then ((fX5_homeSize x1).bind fun z2 => ((fX5_taken z2 (0 : Int32) (0 : Int32) (126 : Int32)).bind fun z3 => fX5_capacity_j139 u x1 x3 z3 x2)) else ((fX5_homeSize x1).bind fun z4 => ((fX5_of u x3 (0 : Int32)).bind fun z5 => ((fX5_freeOf u x3).bind fun z6 => ((fX5_taken z4 x4 z5 z6).bind fun z7 => fX5_capacity_j139 u x1 x3 z7 x2)))))
def fX5_capacity_j90 (u : TM) (x1 : Int32) (x2 : Int32) (x3 : Int32) (x5 : Int32) (x6 : Int32) (t0 : Int32) (t1 : Int32) : Option ((TM × Int32 × Int32 × Int32 × Int32 × Int32 × Int32) ⊕ (TM × Int32 × Int32 × Int32 × Int32 × Int32)) := some (.inl (u, x1, x2, x3, (t1 + t0), x5, (x6 + 1)))
def fX5_capacity_s57 (u : TM) (x1 : Int32) (x2 : Int32) (x3 : Int32) (x4 : Int32) (x5 : Int32) (x6 : Int32) : Option ((TM × Int32 × Int32 × Int32 × Int32 × Int32 × Int32) ⊕ (TM × Int32 × Int32 × Int32 × Int32 × Int32)) := (if x5 = 0 then some (.inr (u, x1, x2, x3, x4, x5)) else ((fX5_of u x3 (0 : Int32)).bind fun z9 => (if z9 ≤ x6 then some (.inr (u, x1, x2, x3, x4, x5)) else ((fX5_sizeOf u x3 x6).bind fun z11 => (if z11 = 0 then fX5_capacity_j90 u x1 x2 x3 x5 x6 (1 : Int32) x4 else fX5_capacity_j90 u x1 x2 x3 x5 x6 (0 : Int32) x4)))))
def fX5_capacity_j52 (u : TM) (x1 : Int32) (x2 : Int32) (x3 : Int32) (x4 : Int32) (t0 : Int32) : Option ((TM × Int32 × Int32 × Int32) ⊕ (TM × Int32)) := ((itr (fun a : TM × Int32 × Int32 × Int32 × Int32 × Int32 × Int32 => fX5_capacity_s57 a.1 a.2.1 a.2.2.1 a.2.2.2.1 a.2.2.2.2.1 a.2.2.2.2.2.1 a.2.2.2.2.2.2) FU (u, x1, x2, x3, x4, t0, (0 : Int32))).bind fun b13 => fX5_capacity_j99 b13.1 b13.2.1 b13.2.2.1 b13.2.2.2.1 b13.2.2.2.2.1 b13.2.2.2.2.2)
def fX5_capacity_s28 (u : TM) (x1 : Int32) (x2 : Int32) (x3 : Int32) : Option ((TM × Int32 × Int32 × Int32) ⊕ (TM × Int32)) := (if (8 : Int32) ≤ x3 then some (.inr (u, x2)) else ((rd u.2.1 10724 (0 : Int32)).bind fun z15 => (if z15 ≤ x3 then fX5_capacity_j52 u x1 x2 x3 (0 : Int32) (0 : Int32) else fX5_capacity_j52 u x1 x2 x3 (0 : Int32) (1 : Int32))))
def fX5_capacity_j16 (u : TM) (x1 : Int32) (t0 : Int32) : Option (Int32 × TM) := ((fX5_holds u t0).bind fun z17 => (if z17.1 = 0 then some ((0 : Int32), z17.2) else ((itr (fun a : TM × Int32 × Int32 × Int32 => fX5_capacity_s28 a.1 a.2.1 a.2.2.1 a.2.2.2) FU (z17.2, x1, (0 : Int32), (0 : Int32))).bind fun b19 => some (b19.2, b19.1))))
def fX5_capacity (u : TM) (p0 : Int32) : Option (Int32 × TM) := ((fX5_in p0 (0 : Int32) (60 : Int32)).bind fun z20 => (if z20 = 0 then fX5_capacity_j16 u p0 (1 : Int32) else fX5_capacity_j16 u p0 (0 : Int32)))
abbrev rmX5_capacity : Room := { frames := 4, cells := 0, slots := 0, locals := 88 }
set_option maxRecDepth 100000 in
set_option maxHeartbeats 4000000 in
theorem kX5_capacity (l : Launch) (G : va_G) (cI cS : ClassId) (ga : Nat → Nat) (sz : Nat) (u : TM) (p0 : Int32) (r : Int32 × TM) (hf : fX5_capacity u p0 = some r) : Met l yX5_capacity (.code yX5_capacity cX5_capacity 7 (some .int) :: bw) rmX5_capacity (va_Pc [.ref (ga 0), .int p0] (PreM G (tysW cI cS) (wM cI ga u) sz)) (va_Qi (fun r' u' => (r', u') = r) (PoM G (tysW cI cS) (va_A (wM cI ga u) sz) (wM cI ga)) (va_A (wM cI ga u) sz)) 0 0 (va_A (wM cI ga u) sz) := by
  refine enterM (own := RX5) (by decide) rfl (Nat.le_of_ble_eq_true rfl) ?_
  intro p e s m args below meth c A Q hAe hQ S hr hlocks hP hK hN hD hA hS ls hl
  rw [hAe] at hQ
  have hx := S.1; have hb := S.2.1; have hml := S.2.2.1; have hown := S.2.2.2.1; have hq := S.2.2.2.2
  have hl : lv_has ls 7 [(0, .ref (ga 0)), (1, .int p0)] := hl
  have h := hf
  unfold fX5_capacity at h
  have L28 : ∀ (n9 : Nat) (a9 : TM × Int32 × Int32 × Int32) (b9 : TM × Int32), itr (fun a : TM × Int32 × Int32 × Int32 => fX5_capacity_s28 a.1 a.2.1 a.2.2.1 a.2.2.2) n9 a9 = some b9 → (fun b : TM × Int32 => ∀ (H : Heap) (locs : List Loc), va_P G vwCl (wM cI ga b.1) H → va_D A (wM cI ga b.1) → va_S A s.heap H locs → ∀ ls : Array Slot, lv_has ls 7 [(2, .int b.2)] → W p l e rmX5_capacity s m args below meth c H locs 0 0 Q (F0 m 147 ls [])) b9 → (fun a : TM × Int32 × Int32 × Int32 => ∀ (H : Heap) (locs : List Loc), va_P G vwCl (wM cI ga a.1) H → va_D A (wM cI ga a.1) → va_S A s.heap H locs → ∀ ls : Array Slot, lv_has ls 7 [(0, .ref (ga 0)), (1, .int a.2.1), (2, .int a.2.2.1), (3, .int a.2.2.2)] → W p l e rmX5_capacity s m args below meth c H locs 0 0 Q (F0 m 28 ls [])) a9 := by
    refine itr_ind (Inv := (fun a : TM × Int32 × Int32 × Int32 => ∀ (H : Heap) (locs : List Loc), va_P G vwCl (wM cI ga a.1) H → va_D A (wM cI ga a.1) → va_S A s.heap H locs → ∀ ls : Array Slot, lv_has ls 7 [(0, .ref (ga 0)), (1, .int a.2.1), (2, .int a.2.2.1), (3, .int a.2.2.2)] → W p l e rmX5_capacity s m args below meth c H locs 0 0 Q (F0 m 28 ls []))) (Ex := (fun b : TM × Int32 => ∀ (H : Heap) (locs : List Loc), va_P G vwCl (wM cI ga b.1) H → va_D A (wM cI ga b.1) → va_S A s.heap H locs → ∀ ls : Array Slot, lv_has ls 7 [(2, .int b.2)] → W p l e rmX5_capacity s m args below meth c H locs 0 0 Q (F0 m 147 ls []))) ?_
    rintro ⟨u, x1, x2, x3⟩ z h hI hE
    have h : fX5_capacity_s28 u x1 x2 x3 = some z := h
    unfold fX5_capacity_s28 at h
    show ∀ (H : Heap) (locs : List Loc), va_P G vwCl (wM cI ga u) H → va_D A (wM cI ga u) → va_S A s.heap H locs → ∀ ls : Array Slot, lv_has ls 7 [(0, .ref (ga 0)), (1, .int x1), (2, .int x2), (3, .int x3)] → W p l e rmX5_capacity s m args below meth c H locs 0 0 Q (F0 m 28 ls [])
    have J139 : ∀ (u : TM) (x1 : Int32) (x3 : Int32) (t0 : Int32) (t1 : Int32) , fX5_capacity_j139 u x1 x3 t0 t1 = some z → ∀ (H : Heap) (locs : List Loc), va_P G vwCl (wM cI ga u) H → va_D A (wM cI ga u) → va_S A s.heap H locs → ∀ ls : Array Slot, lv_has ls 7 [(0, .ref (ga 0)), (1, .int x1), (3, .int x3)] → W p l e rmX5_capacity s m args below meth c H locs 0 0 Q (F0 m 139 ls [.int t0, .int t1]) := by
      intro u x1 x3 t0 t1 h
      unfold fX5_capacity_j139 at h
      intro H locs hP hD hS ls hl
      refine lv_iadd hx hb dX5_capacity_139 ?_
      refine lv_istore_n (lv' := [(2, .int (t1 + t0)), (0, .ref (ga 0)), (1, .int x1), (3, .int x3)]) hx hb dX5_capacity_140 rfl hl (by decide) rfl (fun ls hl => ?_)
      refine lv_iinc (v := (x3 + 1)) (lv' := [(3, .int (x3 + 1)), (2, .int (t1 + t0)), (0, .ref (ga 0)), (1, .int x1)]) hx hb dX5_capacity_141 hl (k := 3) rfl rfl (by decide) rfl (fun ls hl => ?_)
      refine lv_goto (tgt := 28) hx hb dX5_capacity_144 (by decide) ?_
      exact hI _ (Option.some.inj h) _ _ hP hD hS _ (lv_sub hl [2, 3, 1, 0] rfl)
    have J99 : ∀ (u : TM) (x1 : Int32) (x2 : Int32) (x3 : Int32) (x4 : Int32) (x5 : Int32) , fX5_capacity_j99 u x1 x2 x3 x4 x5 = some z → ∀ (H : Heap) (locs : List Loc), va_P G vwCl (wM cI ga u) H → va_D A (wM cI ga u) → va_S A s.heap H locs → ∀ ls : Array Slot, lv_has ls 7 [(0, .ref (ga 0)), (1, .int x1), (2, .int x2), (3, .int x3), (4, .int x4), (5, .int x5)] → W p l e rmX5_capacity s m args below meth c H locs 0 0 Q (F0 m 99 ls []) := by
      intro u x1 x2 x3 x4 x5 h
      unfold fX5_capacity_j99 at h
      intro H locs hP hD hS ls hl
      refine lv_iload_n hx hb dX5_capacity_99 rfl (lv_at hl 2 rfl) ?_
      refine lv_iload hx hb dX5_capacity_100 (lv_at hl 5 rfl) ?_
      refine lv_if_eq (tgt := 128) hx hb dX5_capacity_102 (by decide) (fun c1 => ?_) (fun c1 => ?_)
      · have h := (if_pos c1).symm.trans h
        refine lv_iload_n hx hb dX5_capacity_128 rfl (lv_at hl 1 rfl) ?_
        obtain ⟨z2, e_z2, h⟩ := bnd h
        refine roI (cc_X5_91 S hK hN va_P0 e_z2 hl.1 (Nat.le_of_ble_eq_true rfl) ⟨Nat.le_of_ble_eq_true rfl, Nat.le_of_ble_eq_true rfl⟩ dX5_capacity_129 ⟨Nat.le_of_ble_eq_true rfl, Nat.le_of_ble_eq_true rfl⟩) ?_
        refine lv_iconst (v := 0) hx hb dX5_capacity_132 (by decide) ?_
        refine lv_iconst (v := 0) hx hb dX5_capacity_133 (by decide) ?_
        refine lv_bipush (v := 126) hx hb dX5_capacity_134 (by decide) ?_
        obtain ⟨z3, e_z3, h⟩ := bnd h
        refine roI (cc_X5_185 S hK hN va_P0 e_z3 hl.1 (Nat.le_of_ble_eq_true rfl) ⟨Nat.le_of_ble_eq_true rfl, Nat.le_of_ble_eq_true rfl⟩ dX5_capacity_136 ⟨Nat.le_of_ble_eq_true rfl, Nat.le_of_ble_eq_true rfl⟩) ?_
        exact J139 u x1 x3 z3 x2 h _ _ hP hD hS _ (lv_sub hl [0, 1, 3] rfl)
      · have h := (if_neg c1).symm.trans h
        refine lv_iload_n hx hb dX5_capacity_105 rfl (lv_at hl 1 rfl) ?_
        obtain ⟨z4, e_z4, h⟩ := bnd h
        refine roI (cc_X5_91 S hK hN va_P0 e_z4 hl.1 (Nat.le_of_ble_eq_true rfl) ⟨Nat.le_of_ble_eq_true rfl, Nat.le_of_ble_eq_true rfl⟩ dX5_capacity_106 ⟨Nat.le_of_ble_eq_true rfl, Nat.le_of_ble_eq_true rfl⟩) ?_
        refine lv_iload hx hb dX5_capacity_109 (lv_at hl 4 rfl) ?_
        refine lv_aload_n hx hb dX5_capacity_111 rfl (lv_at hl 0 rfl) ?_
        refine lv_iload_n hx hb dX5_capacity_112 rfl (lv_at hl 3 rfl) ?_
        refine lv_iconst (v := 0) hx hb dX5_capacity_113 (by decide) ?_
        obtain ⟨z5, e_z5, h⟩ := bnd h
        refine roI (cc_X5_26 ga S hK hN hP e_z5 hl.1 (Nat.le_of_ble_eq_true rfl) ⟨Nat.le_of_ble_eq_true rfl, Nat.le_of_ble_eq_true rfl⟩ dX5_capacity_114 ⟨Nat.le_of_ble_eq_true rfl, Nat.le_of_ble_eq_true rfl⟩) ?_
        refine lv_aload_n hx hb dX5_capacity_117 rfl (lv_at hl 0 rfl) ?_
        refine lv_iload_n hx hb dX5_capacity_118 rfl (lv_at hl 3 rfl) ?_
        obtain ⟨z6, e_z6, h⟩ := bnd h
        refine roI (cc_X5_47 ga S hK hN hP e_z6 hl.1 (Nat.le_of_ble_eq_true rfl) ⟨Nat.le_of_ble_eq_true rfl, Nat.le_of_ble_eq_true rfl⟩ dX5_capacity_119 ⟨Nat.le_of_ble_eq_true rfl, Nat.le_of_ble_eq_true rfl⟩) ?_
        obtain ⟨z7, e_z7, h⟩ := bnd h
        refine roI (cc_X5_185 S hK hN va_P0 e_z7 hl.1 (Nat.le_of_ble_eq_true rfl) ⟨Nat.le_of_ble_eq_true rfl, Nat.le_of_ble_eq_true rfl⟩ dX5_capacity_122 ⟨Nat.le_of_ble_eq_true rfl, Nat.le_of_ble_eq_true rfl⟩) ?_
        refine lv_goto (tgt := 139) hx hb dX5_capacity_125 (by decide) ?_
        exact J139 u x1 x3 z7 x2 h _ _ hP hD hS _ (lv_sub hl [0, 1, 3] rfl)
    have L57 : ∀ (n9 : Nat) (a9 : TM × Int32 × Int32 × Int32 × Int32 × Int32 × Int32) (b9 : TM × Int32 × Int32 × Int32 × Int32 × Int32), itr (fun a : TM × Int32 × Int32 × Int32 × Int32 × Int32 × Int32 => fX5_capacity_s57 a.1 a.2.1 a.2.2.1 a.2.2.2.1 a.2.2.2.2.1 a.2.2.2.2.2.1 a.2.2.2.2.2.2) n9 a9 = some b9 → (fun b : TM × Int32 × Int32 × Int32 × Int32 × Int32 => ∀ (H : Heap) (locs : List Loc), va_P G vwCl (wM cI ga b.1) H → va_D A (wM cI ga b.1) → va_S A s.heap H locs → ∀ ls : Array Slot, lv_has ls 7 [(0, .ref (ga 0)), (1, .int b.2.1), (2, .int b.2.2.1), (3, .int b.2.2.2.1), (4, .int b.2.2.2.2.1), (5, .int b.2.2.2.2.2)] → W p l e rmX5_capacity s m args below meth c H locs 0 0 Q (F0 m 99 ls [])) b9 → (fun a : TM × Int32 × Int32 × Int32 × Int32 × Int32 × Int32 => ∀ (H : Heap) (locs : List Loc), va_P G vwCl (wM cI ga a.1) H → va_D A (wM cI ga a.1) → va_S A s.heap H locs → ∀ ls : Array Slot, lv_has ls 7 [(0, .ref (ga 0)), (1, .int a.2.1), (2, .int a.2.2.1), (3, .int a.2.2.2.1), (4, .int a.2.2.2.2.1), (5, .int a.2.2.2.2.2.1), (6, .int a.2.2.2.2.2.2)] → W p l e rmX5_capacity s m args below meth c H locs 0 0 Q (F0 m 57 ls [])) a9 := by
      refine itr_ind (Inv := (fun a : TM × Int32 × Int32 × Int32 × Int32 × Int32 × Int32 => ∀ (H : Heap) (locs : List Loc), va_P G vwCl (wM cI ga a.1) H → va_D A (wM cI ga a.1) → va_S A s.heap H locs → ∀ ls : Array Slot, lv_has ls 7 [(0, .ref (ga 0)), (1, .int a.2.1), (2, .int a.2.2.1), (3, .int a.2.2.2.1), (4, .int a.2.2.2.2.1), (5, .int a.2.2.2.2.2.1), (6, .int a.2.2.2.2.2.2)] → W p l e rmX5_capacity s m args below meth c H locs 0 0 Q (F0 m 57 ls []))) (Ex := (fun b : TM × Int32 × Int32 × Int32 × Int32 × Int32 => ∀ (H : Heap) (locs : List Loc), va_P G vwCl (wM cI ga b.1) H → va_D A (wM cI ga b.1) → va_S A s.heap H locs → ∀ ls : Array Slot, lv_has ls 7 [(0, .ref (ga 0)), (1, .int b.2.1), (2, .int b.2.2.1), (3, .int b.2.2.2.1), (4, .int b.2.2.2.2.1), (5, .int b.2.2.2.2.2)] → W p l e rmX5_capacity s m args below meth c H locs 0 0 Q (F0 m 99 ls []))) ?_
      rintro ⟨u, x1, x2, x3, x4, x5, x6⟩ z h hI hE
      have h : fX5_capacity_s57 u x1 x2 x3 x4 x5 x6 = some z := h
      unfold fX5_capacity_s57 at h
      show ∀ (H : Heap) (locs : List Loc), va_P G vwCl (wM cI ga u) H → va_D A (wM cI ga u) → va_S A s.heap H locs → ∀ ls : Array Slot, lv_has ls 7 [(0, .ref (ga 0)), (1, .int x1), (2, .int x2), (3, .int x3), (4, .int x4), (5, .int x5), (6, .int x6)] → W p l e rmX5_capacity s m args below meth c H locs 0 0 Q (F0 m 57 ls [])
      have J90 : ∀ (u : TM) (x1 : Int32) (x2 : Int32) (x3 : Int32) (x5 : Int32) (x6 : Int32) (t0 : Int32) (t1 : Int32) , fX5_capacity_j90 u x1 x2 x3 x5 x6 t0 t1 = some z → ∀ (H : Heap) (locs : List Loc), va_P G vwCl (wM cI ga u) H → va_D A (wM cI ga u) → va_S A s.heap H locs → ∀ ls : Array Slot, lv_has ls 7 [(0, .ref (ga 0)), (1, .int x1), (2, .int x2), (3, .int x3), (5, .int x5), (6, .int x6)] → W p l e rmX5_capacity s m args below meth c H locs 0 0 Q (F0 m 90 ls [.int t0, .int t1]) := by
        intro u x1 x2 x3 x5 x6 t0 t1 h
        unfold fX5_capacity_j90 at h
        intro H locs hP hD hS ls hl
        refine lv_iadd hx hb dX5_capacity_90 ?_
        refine lv_istore (lv' := [(4, .int (t1 + t0)), (0, .ref (ga 0)), (1, .int x1), (2, .int x2), (3, .int x3), (5, .int x5), (6, .int x6)]) hx hb dX5_capacity_91 hl (by decide) rfl (fun ls hl => ?_)
        refine lv_iinc (v := (x6 + 1)) (lv' := [(6, .int (x6 + 1)), (4, .int (t1 + t0)), (0, .ref (ga 0)), (1, .int x1), (2, .int x2), (3, .int x3), (5, .int x5)]) hx hb dX5_capacity_93 hl (k := 6) rfl rfl (by decide) rfl (fun ls hl => ?_)
        refine lv_goto (tgt := 57) hx hb dX5_capacity_96 (by decide) ?_
        exact hI _ (Option.some.inj h) _ _ hP hD hS _ (lv_sub hl [2, 3, 4, 5, 1, 6, 0] rfl)
      intro H locs hP hD hS ls hl
      refine lv_iload hx hb dX5_capacity_57 (lv_at hl 5 rfl) ?_
      refine lv_if_eq (tgt := 99) hx hb dX5_capacity_59 (by decide) (fun c8 => ?_) (fun c8 => ?_)
      · have h := (if_pos c8).symm.trans h
        exact hE _ (Option.some.inj h) _ _ hP hD hS _ (lv_sub hl [0, 1, 2, 3, 4, 5] rfl)
      · have h := (if_neg c8).symm.trans h
        refine lv_iload hx hb dX5_capacity_62 (lv_at hl 6 rfl) ?_
        refine lv_aload_n hx hb dX5_capacity_64 rfl (lv_at hl 0 rfl) ?_
        refine lv_iload_n hx hb dX5_capacity_65 rfl (lv_at hl 3 rfl) ?_
        refine lv_iconst (v := 0) hx hb dX5_capacity_66 (by decide) ?_
        obtain ⟨z9, e_z9, h⟩ := bnd h
        refine roI (cc_X5_26 ga S hK hN hP e_z9 hl.1 (Nat.le_of_ble_eq_true rfl) ⟨Nat.le_of_ble_eq_true rfl, Nat.le_of_ble_eq_true rfl⟩ dX5_capacity_67 ⟨Nat.le_of_ble_eq_true rfl, Nat.le_of_ble_eq_true rfl⟩) ?_
        refine lv_icmp_ge (tgt := 99) hx hb dX5_capacity_70 (by decide) (fun c10 => ?_) (fun c10 => ?_)
        · have h := (if_pos c10).symm.trans h
          exact hE _ (Option.some.inj h) _ _ hP hD hS _ (lv_sub hl [0, 1, 2, 3, 4, 5] rfl)
        · have h := (if_neg c10).symm.trans h
          refine lv_iload hx hb dX5_capacity_73 (lv_at hl 4 rfl) ?_
          refine lv_aload_n hx hb dX5_capacity_75 rfl (lv_at hl 0 rfl) ?_
          refine lv_iload_n hx hb dX5_capacity_76 rfl (lv_at hl 3 rfl) ?_
          refine lv_iload hx hb dX5_capacity_77 (lv_at hl 6 rfl) ?_
          obtain ⟨z11, e_z11, h⟩ := bnd h
          refine roI (cc_X5_34 ga S hK hN hP e_z11 hl.1 (Nat.le_of_ble_eq_true rfl) ⟨Nat.le_of_ble_eq_true rfl, Nat.le_of_ble_eq_true rfl⟩ dX5_capacity_79 ⟨Nat.le_of_ble_eq_true rfl, Nat.le_of_ble_eq_true rfl⟩) ?_
          refine lv_if_ne (tgt := 89) hx hb dX5_capacity_82 (by decide) (fun c12 => ?_) (fun c12 => ?_)
          · have h := (if_neg c12).symm.trans h
            refine lv_iconst (v := 0) hx hb dX5_capacity_89 (by decide) ?_
            exact J90 u x1 x2 x3 x5 x6 (0 : Int32) x4 h _ _ hP hD hS _ (lv_sub hl [0, 1, 2, 3, 5, 6] rfl)
          · have h := (if_pos c12).symm.trans h
            refine lv_iconst (v := 1) hx hb dX5_capacity_85 (by decide) ?_
            refine lv_goto (tgt := 90) hx hb dX5_capacity_86 (by decide) ?_
            exact J90 u x1 x2 x3 x5 x6 (1 : Int32) x4 h _ _ hP hD hS _ (lv_sub hl [0, 1, 2, 3, 5, 6] rfl)
    have J52 : ∀ (u : TM) (x1 : Int32) (x2 : Int32) (x3 : Int32) (x4 : Int32) (t0 : Int32) , fX5_capacity_j52 u x1 x2 x3 x4 t0 = some z → ∀ (H : Heap) (locs : List Loc), va_P G vwCl (wM cI ga u) H → va_D A (wM cI ga u) → va_S A s.heap H locs → ∀ ls : Array Slot, lv_has ls 7 [(0, .ref (ga 0)), (1, .int x1), (2, .int x2), (3, .int x3), (4, .int x4)] → W p l e rmX5_capacity s m args below meth c H locs 0 0 Q (F0 m 52 ls [.int t0]) := by
      intro u x1 x2 x3 x4 t0 h
      unfold fX5_capacity_j52 at h
      intro H locs hP hD hS ls hl
      refine lv_istore (lv' := [(5, .int t0), (0, .ref (ga 0)), (1, .int x1), (2, .int x2), (3, .int x3), (4, .int x4)]) hx hb dX5_capacity_52 hl (by decide) rfl (fun ls hl => ?_)
      refine lv_iconst (v := 0) hx hb dX5_capacity_54 (by decide) ?_
      refine lv_istore (lv' := [(6, .int (0 : Int32)), (5, .int t0), (0, .ref (ga 0)), (1, .int x1), (2, .int x2), (3, .int x3), (4, .int x4)]) hx hb dX5_capacity_55 hl (by decide) rfl (fun ls hl => ?_)
      obtain ⟨b13, e_b13, h⟩ := bnd h
      refine L57 _ _ _ e_b13 ?_ _ _ hP hD hS _ (lv_sub hl [2, 3, 4, 5, 6, 1, 0] rfl)
      intro H locs hP hD hS ls hl
      exact J99 b13.1 b13.2.1 b13.2.2.1 b13.2.2.2.1 b13.2.2.2.2.1 b13.2.2.2.2.2 h _ _ hP hD hS _ (lv_sub hl [0, 1, 2, 3, 4, 5] rfl)
    intro H locs hP hD hS ls hl
    refine lv_iload_n hx hb dX5_capacity_28 rfl (lv_at hl 3 rfl) ?_
    refine lv_bipush (v := 8) hx hb dX5_capacity_29 (by decide) ?_
    refine lv_icmp_ge (tgt := 147) hx hb dX5_capacity_31 (by decide) (fun c14 => ?_) (fun c14 => ?_)
    · have h := (if_pos c14).symm.trans h
      exact hE _ (Option.some.inj h) _ _ hP hD hS _ (lv_sub hl [2] rfl)
    · have h := (if_neg c14).symm.trans h
      refine lv_iconst (v := 0) hx hb dX5_capacity_34 (by decide) ?_
      refine lv_istore (lv' := [(4, .int (0 : Int32)), (0, .ref (ga 0)), (1, .int x1), (2, .int x2), (3, .int x3)]) hx hb dX5_capacity_35 hl (by decide) rfl (fun ls hl => ?_)
      refine lv_iload_n hx hb dX5_capacity_37 rfl (lv_at hl 4 rfl) ?_
      refine lv_aload_n hx hb dX5_capacity_38 rfl (lv_at hl 1 rfl) ?_
      refine gf_X5_7 S hK hN hP 0 rfl (v := .ref (ga 1)) rfl dX5_capacity_39 ?_
      refine lv_iconst (v := 0) hx hb dX5_capacity_42 (by decide) ?_
      obtain ⟨z15, e_z15, h⟩ := bnd h
      refine iaO (f := u.2.1) hx hb hK hP 1 0 rfl rfl e_z15 dX5_capacity_43 ?_
      refine lv_icmp_ge (tgt := 51) hx hb dX5_capacity_44 (by decide) (fun c16 => ?_) (fun c16 => ?_)
      · have h := (if_pos c16).symm.trans h
        refine lv_iconst (v := 0) hx hb dX5_capacity_51 (by decide) ?_
        exact J52 u x1 x2 x3 (0 : Int32) (0 : Int32) h _ _ hP hD hS _ (lv_sub hl [1, 2, 3, 4, 0] rfl)
      · have h := (if_neg c16).symm.trans h
        refine lv_iconst (v := 1) hx hb dX5_capacity_47 (by decide) ?_
        refine lv_goto (tgt := 52) hx hb dX5_capacity_48 (by decide) ?_
        exact J52 u x1 x2 x3 (0 : Int32) (1 : Int32) h _ _ hP hD hS _ (lv_sub hl [1, 2, 3, 4, 0] rfl)
  have J16 : ∀ (u : TM) (x1 : Int32) (t0 : Int32) , fX5_capacity_j16 u x1 t0 = some r → ∀ (H : Heap) (locs : List Loc), va_P G vwCl (wM cI ga u) H → va_D A (wM cI ga u) → va_S A s.heap H locs → ∀ ls : Array Slot, lv_has ls 7 [(0, .ref (ga 0)), (1, .int x1)] → W p l e rmX5_capacity s m args below meth c H locs 0 0 Q (F0 m 16 ls [.int t0, .ref (ga 0)]) := by
    intro u x1 t0 h
    unfold fX5_capacity_j16 at h
    intro H locs hP hD hS ls hl
    obtain ⟨z17, e_z17, h⟩ := bnd h
    refine mui (cc_X5_146 ga S hK hN hP hD e_z17 hl.1 (Nat.le_of_ble_eq_true rfl) ⟨Nat.le_of_ble_eq_true rfl, Nat.le_of_ble_eq_true rfl⟩ dX5_capacity_16 ⟨Nat.le_of_ble_eq_true rfl, Nat.le_of_ble_eq_true rfl⟩) hS hD (va_free hD hS hA [0, 1, 2, 3, 4] rfl) (fun H locs hP hD hS => ?_)
    have hP : va_P G vwCl (wM cI ga z17.2) H := hP
    have hD : va_D A (wM cI ga z17.2) := hD
    refine lv_if_ne (tgt := 24) hx hb dX5_capacity_19 (by decide) (fun c18 => ?_) (fun c18 => ?_)
    · have h := (if_neg c18).symm.trans h
      refine lv_iconst (v := 0) hx hb dX5_capacity_24 (by decide) ?_
      refine lv_istore_n (lv' := [(2, .int (0 : Int32)), (0, .ref (ga 0)), (1, .int x1)]) hx hb dX5_capacity_25 rfl hl (by decide) rfl (fun ls hl => ?_)
      refine lv_iconst (v := 0) hx hb dX5_capacity_26 (by decide) ?_
      refine lv_istore_n (lv' := [(3, .int (0 : Int32)), (2, .int (0 : Int32)), (0, .ref (ga 0)), (1, .int x1)]) hx hb dX5_capacity_27 rfl hl (by decide) rfl (fun ls hl => ?_)
      obtain ⟨b19, e_b19, h⟩ := bnd h
      refine L28 _ _ _ e_b19 ?_ _ _ hP hD hS _ (lv_sub hl [2, 3, 1, 0] rfl)
      intro H locs hP hD hS ls hl
      refine lv_iload_n hx hb dX5_capacity_147 rfl (lv_at hl 0 rfl) ?_
      exact retMi hQ S hr hlocks hK hN hP hD hS h dX5_capacity_148
    · have h := (if_pos c18).symm.trans h
      refine lv_iconst (v := 0) hx hb dX5_capacity_22 (by decide) ?_
      exact retMi hQ S hr hlocks hK hN hP hD hS h dX5_capacity_23
  refine lv_aload_n hx hb dX5_capacity_0 rfl (lv_at hl 0 rfl) ?_
  refine lv_iload_n hx hb dX5_capacity_1 rfl (lv_at hl 1 rfl) ?_
  refine lv_iconst (v := 0) hx hb dX5_capacity_2 (by decide) ?_
  refine lv_bipush (v := 60) hx hb dX5_capacity_3 (by decide) ?_
  obtain ⟨z20, e_z20, h⟩ := bnd h
  refine roI (cc_X5_78 S hK hN va_P0 e_z20 hl.1 (Nat.le_of_ble_eq_true rfl) ⟨Nat.le_of_ble_eq_true rfl, Nat.le_of_ble_eq_true rfl⟩ dX5_capacity_5 ⟨Nat.le_of_ble_eq_true rfl, Nat.le_of_ble_eq_true rfl⟩) ?_
  refine lv_if_eq (tgt := 15) hx hb dX5_capacity_8 (by decide) (fun c21 => ?_) (fun c21 => ?_)
  · have h := (if_pos c21).symm.trans h
    refine lv_iconst (v := 1) hx hb dX5_capacity_15 (by decide) ?_
    exact J16 u p0 (1 : Int32) h _ _ hP hD hS _ (lv_sub hl [0, 1] rfl)
  · have h := (if_neg c21).symm.trans h
    refine lv_iconst (v := 0) hx hb dX5_capacity_11 (by decide) ?_
    refine lv_goto (tgt := 16) hx hb dX5_capacity_12 (by decide) ?_
    exact J16 u p0 (0 : Int32) h _ _ hP hD hS _ (lv_sub hl [0, 1] rfl)

theorem gf_X5_189 {p : Program} {l : Launch} {e : Env} {R : Room} {s : State} {m : MethodId} {args : Array Value} {below : List Frame} {meth : Method} {c : Code} {H : Heap} {locs : List Loc} {cells slots : Nat} {cc : ByteArray} {pc nL : Nat} {ls : Array Slot} {rest : List Value} {G : va_G} {Q : State → Prop} {tys : List (ClassId × FieldType)} {ws : va_W} {a : Nat} (S : CallFix p m c cc nL s args bw RX5) (hK : va_K G vwCl tys s) (hN : NW s) (hP : va_P G vwCl ws H) (q0 : Nat) {fs : List Value} (he : ws[q0]? = some (a, .inr (5, fs))) {v : Value} (hv : fs[8]? = some v) (hdg : decode cc pc = .ok (.getfield 189, 3)) (kk : W p l e R s m args below meth c H locs cells slots Q (F0 m (pc + 3) ls (v :: rest))) : W p l e R s m args below meth c H locs cells slots Q (F0 m pc ls (.ref a :: rest)) :=
  va_get (C := RX5) (T := TX5) (N := 12) S.1 S.2.1 S.2.2.2.2 bi_U5 S.2.2.2.1 hK hP q0 he rfl 8 (by decide) (S.2.2.2.2 _ q_603) (fun _ h9 => h9) hv hdg kk
def fX5_sign (u : TM) : Option (Int32) := (if u.1.2.2.1 ≤ u.1.2.2.2.2.1 then some ((-1) : Int32) else ((rd u.2.2.1 60 u.1.2.2.2.2.1).bind fun z2 => some z2))
abbrev rmX5_sign : Room := { frames := 0, cells := 0, slots := 0, locals := 0 }
set_option maxRecDepth 100000 in
set_option maxHeartbeats 4000000 in
theorem kX5_sign (l : Launch) (G : va_G) (cI cS : ClassId) (ga : Nat → Nat) (u : TM) (r : Int32) (hf : fX5_sign u = some r) : Met l yX5_sign (.code yX5_sign cX5_sign 1 (some .int) :: bw) rmX5_sign (va_Pc [.ref (ga 0)] (PreR G (tysW cI cS) (wM cI ga u))) (vp_Si (fun r' => r' = r)) 0 0 (fun _ => False) := by
  refine enterR (own := RX5) (by decide) rfl rfl (Nat.le_of_ble_eq_true rfl) ?_
  intro p e s m args below meth c Q hQ S hr hlocks hP hK hN ls hl
  have hx := S.1; have hb := S.2.1; have hml := S.2.2.1; have hown := S.2.2.2.1; have hq := S.2.2.2.2
  have hl : lv_has ls 1 [(0, .ref (ga 0))] := hl
  have h := hf
  unfold fX5_sign at h
  refine lv_aload_n hx hb dX5_sign_0 rfl (lv_at hl 0 rfl) ?_
  refine gf_X5_189 S hK hN hP 0 rfl (v := .int u.1.2.2.2.2.1) rfl dX5_sign_1 ?_
  refine lv_aload_n hx hb dX5_sign_4 rfl (lv_at hl 0 rfl) ?_
  refine gf_X5_143 S hK hN hP 0 rfl (v := .int u.1.2.2.1) rfl dX5_sign_5 ?_
  refine lv_icmp_ge (tgt := 23) hx hb dX5_sign_8 (by decide) (fun c1 => ?_) (fun c1 => ?_)
  · have h := (if_pos c1).symm.trans h
    refine lv_iconst (v := (-1)) hx hb dX5_sign_23 (by decide) ?_
    exact retR hQ S hr hlocks h dX5_sign_24
  · have h := (if_neg c1).symm.trans h
    refine lv_aload_n hx hb dX5_sign_11 rfl (lv_at hl 0 rfl) ?_
    refine gf_X5_13 S hK hN hP 0 rfl (v := .ref (ga 2)) rfl dX5_sign_12 ?_
    refine lv_aload_n hx hb dX5_sign_15 rfl (lv_at hl 0 rfl) ?_
    refine gf_X5_189 S hK hN hP 0 rfl (v := .int u.1.2.2.2.2.1) rfl dX5_sign_16 ?_
    obtain ⟨z2, e_z2, h⟩ := bnd h
    refine iaO (f := u.2.2.1) hx hb hK hP 2 0 rfl rfl e_z2 dX5_sign_19 ?_
    refine lv_goto (tgt := 24) hx hb dX5_sign_20 (by decide) ?_
    exact retR hQ S hr hlocks h dX5_sign_24

theorem cc_X5_192 {p : Program} {l : Launch} {e : Env} {R : Room} {s : State} {m : MethodId} {args : Array Value} {below : List Frame} {meth : Method} {c : Code} {H : Heap} {locs : List Loc} {cells slots : Nat} {cc : ByteArray} {pc nL : Nat} {ls : Array Slot} {rest : List Value} {G : va_G} (ga : Nat → Nat) {cI cS : ClassId} {u : TM}  {r : Int32} (S : CallFix p m c cc nL s args bw RX5) (hK : va_K G vwCl (tysW cI cS) s) (hN : NW s) (hP : va_P G vwCl (wM cI ga u) H) (hf : fX5_sign u = some r) (hsz : ls.size = nL) (hst : (rest.map fun v => v.category).sum ≤ 8) (hR : rmX5_sign.frames + 1 ≤ R.frames ∧ 8 + (1 + 11) + rmX5_sign.locals ≤ R.locals) (hdg : decode cc pc = .ok (.invokevirtual 192, 3)) (hcs : cells + 0 ≤ R.cells ∧ slots + 0 ≤ R.slots) : va_Run p l e R s m args below meth c H locs cells slots 0 0 (F0 m pc ls (.ref (ga 0) :: rest)) rest (vp_Si (fun r' => r' = r) (#[.ref (ga 0)] : Array Value)) (fun _ => False) :=
  va_runV (As := []) (rest := rest) S (kX5_sign l G cI cS ga u r hf) (cwV 0 S.2.2.2.2 (gdV q_605 q_606 q_607 q_392 q_602) rfl rfl rfl (by decide +kernel) hR) (pvR (q := (RX5, TX5, 12)) hK hN hP (ci := 5) (q0 := 0) rfl rfl) rfl rfl hsz rfl (lv_room hst) hdg hcs
theorem pf_X5_189 {p : Program} {l : Launch} {e : Env} {R : Room} {s : State} {m : MethodId} {args : Array Value} {below : List Frame} {meth : Method} {c : Code} {H : Heap} {locs : List Loc} {cells slots : Nat} {cc : ByteArray} {pc nL : Nat} {ls : Array Slot} {rest : List Value} {G : va_G} {Q : State → Prop} {tys : List (ClassId × FieldType)} {ws : va_W} {a : Nat} {A : Nat → Prop} {H0 : Heap} {x : Int32} (S : CallFix p m c cc nL s args bw RX5) (hK : va_K G vwCl tys s) (hN : NW s) (hP : va_P G vwCl ws H) (hD : va_D A ws) (hS : va_S A H0 H locs) (q0 : Nat) {fs : List Value} (he : ws[q0]? = some (a, .inr (5, fs))) (hl : 8 < fs.length) (hdg : decode cc pc = .ok (.putfield 189, 3)) (kk : ∀ (H1 : Heap) (locs1 : List Loc), va_P G vwCl (ws.set q0 (a, .inr (5, fs.set 8 (.int x)))) H1 → va_D A (ws.set q0 (a, .inr (5, fs.set 8 (.int x)))) → va_S A H0 H1 locs1 → W p l e R s m args below meth c H1 locs1 cells slots Q (F0 m (pc + 3) ls rest)) : W p l e R s m args below meth c H locs cells slots Q (F0 m pc ls (.int x :: .ref a :: rest)) :=
  va_put (ty := .int) (v := .int x) (C := RX5) (T := TX5) (N := 12) S.1 S.2.1 S.2.2.2.2 bi_U5 tyX5 tyX5_ok nmX5 S.2.2.2.1 hK hP hD hS q0 he rfl 8 (by decide) (S.2.2.2.2 _ q_603) (fun _ h9 => h9) rfl rfl rfl rfl hl hdg kk
def fX5_takes_j13 (u : TM) (t0 : Int32) : Option (Int32 × TM) := (if t0 = 0 then ((zO t0).bind fun z2 => some (z2, (u.1.1, u.1.2.1, u.1.2.2.1, u.1.2.2.2.1, (u.1.2.2.2.2.1 + (0 : Int32)), u.1.2.2.2.2.2), u.2)) else ((zO t0).bind fun z3 => some (z3, (u.1.1, u.1.2.1, u.1.2.2.1, u.1.2.2.2.1, (u.1.2.2.2.2.1 + (1 : Int32)), u.1.2.2.2.2.2), u.2)))
def fX5_takes (u : TM) (p0 : Int32) : Option (Int32 × TM) := ((fX5_sign u).bind fun z4 => (if z4 = p0 then fX5_takes_j13 u (1 : Int32) else fX5_takes_j13 u (0 : Int32)))
abbrev rmX5_takes : Room := { frames := 1, cells := 0, slots := 0, locals := 20 }
set_option maxRecDepth 100000 in
set_option maxHeartbeats 4000000 in
theorem kX5_takes (l : Launch) (G : va_G) (cI cS : ClassId) (ga : Nat → Nat) (sz : Nat) (u : TM) (p0 : Int32) (r : Int32 × TM) (hf : fX5_takes u p0 = some r) : Met l yX5_takes (.code yX5_takes cX5_takes 3 (some .boolean) :: bw) rmX5_takes (va_Pc [.ref (ga 0), .int p0] (PreM G (tysW cI cS) (wM cI ga u) sz)) (va_Qi (fun r' u' => (r', u') = r) (PoM G (tysW cI cS) (va_A (wM cI ga u) sz) (wM cI ga)) (va_A (wM cI ga u) sz)) 0 0 (va_A (wM cI ga u) sz) := by
  refine enterM (own := RX5) (by decide) rfl (Nat.le_of_ble_eq_true rfl) ?_
  intro p e s m args below meth c A Q hAe hQ S hr hlocks hP hK hN hD hA hS ls hl
  rw [hAe] at hQ
  have hx := S.1; have hb := S.2.1; have hml := S.2.2.1; have hown := S.2.2.2.1; have hq := S.2.2.2.2
  have hl : lv_has ls 3 [(0, .ref (ga 0)), (1, .int p0)] := hl
  have h := hf
  unfold fX5_takes at h
  have J13 : ∀ (u : TM) (t0 : Int32) , fX5_takes_j13 u t0 = some r → ∀ (H : Heap) (locs : List Loc), va_P G vwCl (wM cI ga u) H → va_D A (wM cI ga u) → va_S A s.heap H locs → ∀ ls : Array Slot, lv_has ls 3 [(0, .ref (ga 0))] → W p l e rmX5_takes s m args below meth c H locs 0 0 Q (F0 m 13 ls [.int t0]) := by
    intro u t0 h
    unfold fX5_takes_j13 at h
    intro H locs hP hD hS ls hl
    refine lv_istore_n (lv' := [(2, .int t0), (0, .ref (ga 0))]) hx hb dX5_takes_13 rfl hl (by decide) rfl (fun ls hl => ?_)
    refine lv_aload_n hx hb dX5_takes_14 rfl (lv_at hl 1 rfl) ?_
    refine lv_dup hx hb dX5_takes_15 rfl ?_
    refine gf_X5_189 S hK hN hP 0 rfl (v := .int u.1.2.2.2.2.1) rfl dX5_takes_16 ?_
    refine lv_iload_n hx hb dX5_takes_19 rfl (lv_at hl 0 rfl) ?_
    refine lv_if_eq (tgt := 27) hx hb dX5_takes_20 (by decide) (fun c1 => ?_) (fun c1 => ?_)
    · have h := (if_pos c1).symm.trans h
      refine lv_iconst (v := 0) hx hb dX5_takes_27 (by decide) ?_
      refine lv_iadd hx hb dX5_takes_28 ?_
      refine pf_X5_189 S hK hN hP hD hS 0 rfl (Nat.le_of_ble_eq_true rfl) dX5_takes_29 (fun H locs hP hD hS => ?_)
      have hP : va_P G vwCl (wM cI ga ((u.1.1, u.1.2.1, u.1.2.2.1, u.1.2.2.2.1, (u.1.2.2.2.2.1 + (0 : Int32)), u.1.2.2.2.2.2), u.2)) H := hP
      have hD : va_D A (wM cI ga ((u.1.1, u.1.2.1, u.1.2.2.1, u.1.2.2.2.1, (u.1.2.2.2.2.1 + (0 : Int32)), u.1.2.2.2.2.2), u.2)) := hD
      refine lv_iload_n hx hb dX5_takes_32 rfl (lv_at hl 0 rfl) ?_
      obtain ⟨z2, e_z2, h⟩ := bnd h
      obtain ⟨q_z2, k_z2⟩ := zO_in e_z2
      rw [← q_z2] at h
      exact retMz hQ S hr hlocks (by rcases k_z2 with q | q <;> rw [q] <;> rfl) hK hN hP hD hS h dX5_takes_33
    · have h := (if_neg c1).symm.trans h
      refine lv_iconst (v := 1) hx hb dX5_takes_23 (by decide) ?_
      refine lv_goto (tgt := 28) hx hb dX5_takes_24 (by decide) ?_
      refine lv_iadd hx hb dX5_takes_28 ?_
      refine pf_X5_189 S hK hN hP hD hS 0 rfl (Nat.le_of_ble_eq_true rfl) dX5_takes_29 (fun H locs hP hD hS => ?_)
      have hP : va_P G vwCl (wM cI ga ((u.1.1, u.1.2.1, u.1.2.2.1, u.1.2.2.2.1, (u.1.2.2.2.2.1 + (1 : Int32)), u.1.2.2.2.2.2), u.2)) H := hP
      have hD : va_D A (wM cI ga ((u.1.1, u.1.2.1, u.1.2.2.1, u.1.2.2.2.1, (u.1.2.2.2.2.1 + (1 : Int32)), u.1.2.2.2.2.2), u.2)) := hD
      refine lv_iload_n hx hb dX5_takes_32 rfl (lv_at hl 0 rfl) ?_
      obtain ⟨z3, e_z3, h⟩ := bnd h
      obtain ⟨q_z3, k_z3⟩ := zO_in e_z3
      rw [← q_z3] at h
      exact retMz hQ S hr hlocks (by rcases k_z3 with q | q <;> rw [q] <;> rfl) hK hN hP hD hS h dX5_takes_33
  refine lv_aload_n hx hb dX5_takes_0 rfl (lv_at hl 0 rfl) ?_
  obtain ⟨z4, e_z4, h⟩ := bnd h
  refine roI (cc_X5_192 ga S hK hN hP e_z4 hl.1 (Nat.le_of_ble_eq_true rfl) ⟨Nat.le_of_ble_eq_true rfl, Nat.le_of_ble_eq_true rfl⟩ dX5_takes_1 ⟨Nat.le_of_ble_eq_true rfl, Nat.le_of_ble_eq_true rfl⟩) ?_
  refine lv_iload_n hx hb dX5_takes_4 rfl (lv_at hl 1 rfl) ?_
  refine lv_icmp_ne (tgt := 12) hx hb dX5_takes_5 (by decide) (fun c5 => ?_) (fun c5 => ?_)
  · have h := (if_neg c5).symm.trans h
    refine lv_iconst (v := 0) hx hb dX5_takes_12 (by decide) ?_
    exact J13 u (0 : Int32) h _ _ hP hD hS _ (lv_sub hl [0] rfl)
  · have h := (if_pos c5).symm.trans h
    refine lv_iconst (v := 1) hx hb dX5_takes_8 (by decide) ?_
    refine lv_goto (tgt := 13) hx hb dX5_takes_9 (by decide) ?_
    exact J13 u (1 : Int32) h _ _ hP hD hS _ (lv_sub hl [0] rfl)

theorem gf_X5_195 {p : Program} {l : Launch} {e : Env} {R : Room} {s : State} {m : MethodId} {args : Array Value} {below : List Frame} {meth : Method} {c : Code} {H : Heap} {locs : List Loc} {cells slots : Nat} {cc : ByteArray} {pc nL : Nat} {ls : Array Slot} {rest : List Value} {G : va_G} {Q : State → Prop} {tys : List (ClassId × FieldType)} {ws : va_W} {a : Nat} (S : CallFix p m c cc nL s args bw RX5) (hK : va_K G vwCl tys s) (hN : NW s) (hP : va_P G vwCl ws H) (q0 : Nat) {fs : List Value} (he : ws[q0]? = some (a, .inr (5, fs))) {v : Value} (hv : fs[10]? = some v) (hdg : decode cc pc = .ok (.getfield 195, 3)) (kk : W p l e R s m args below meth c H locs cells slots Q (F0 m (pc + 3) ls (v :: rest))) : W p l e R s m args below meth c H locs cells slots Q (F0 m pc ls (.ref a :: rest)) :=
  va_get (C := RX5) (T := TX5) (N := 12) S.1 S.2.1 S.2.2.2.2 bi_U5 S.2.2.2.1 hK hP q0 he rfl 10 (by decide) (S.2.2.2.2 _ q_609) (fun _ h9 => h9) hv hdg kk
theorem pf_X5_195 {p : Program} {l : Launch} {e : Env} {R : Room} {s : State} {m : MethodId} {args : Array Value} {below : List Frame} {meth : Method} {c : Code} {H : Heap} {locs : List Loc} {cells slots : Nat} {cc : ByteArray} {pc nL : Nat} {ls : Array Slot} {rest : List Value} {G : va_G} {Q : State → Prop} {tys : List (ClassId × FieldType)} {ws : va_W} {a : Nat} {A : Nat → Prop} {H0 : Heap} {x : Int32} (S : CallFix p m c cc nL s args bw RX5) (hK : va_K G vwCl tys s) (hN : NW s) (hP : va_P G vwCl ws H) (hD : va_D A ws) (hS : va_S A H0 H locs) (q0 : Nat) {fs : List Value} (he : ws[q0]? = some (a, .inr (5, fs))) (hl : 10 < fs.length) (hdg : decode cc pc = .ok (.putfield 195, 3)) (kk : ∀ (H1 : Heap) (locs1 : List Loc), va_P G vwCl (ws.set q0 (a, .inr (5, fs.set 10 (.int x)))) H1 → va_D A (ws.set q0 (a, .inr (5, fs.set 10 (.int x)))) → va_S A H0 H1 locs1 → W p l e R s m args below meth c H1 locs1 cells slots Q (F0 m (pc + 3) ls rest)) : W p l e R s m args below meth c H locs cells slots Q (F0 m pc ls (.int x :: .ref a :: rest)) :=
  va_put (ty := .int) (v := .int x) (C := RX5) (T := TX5) (N := 12) S.1 S.2.1 S.2.2.2.2 bi_U5 tyX5 tyX5_ok nmX5 S.2.2.2.1 hK hP hD hS q0 he rfl 10 (by decide) (S.2.2.2.2 _ q_609) (fun _ h9 => h9) rfl rfl rfl rfl hl hdg kk
def fX5_readsIdentifier_s37 (u : TM) : Option ((TM) ⊕ (TM)) := (if u.1.2.2.2.2.2.2.1 ≤ 0 then some (.inr u) else ((fX5_sign u).bind fun z2 => ((fX5_in z2 (48 : Int32) (57 : Int32)).bind fun z3 => (if z3 = 0 then some (.inr u) else ((fX5_sign u).bind fun z5 => (if (800 : Int32) ≤ ((((10 : Int32) * u.1.2.2.2.2.2.2.1) + z5) - (48 : Int32)) then some (.inr u) else ((fX5_sign u).bind fun z7 => some (.inl ((u.1.1, u.1.2.1, u.1.2.2.1, u.1.2.2.2.1, (u.1.2.2.2.2.1 + (1 : Int32)), u.1.2.2.2.2.2.1, ((((10 : Int32) * u.1.2.2.2.2.2.2.1) + z7) - (48 : Int32)), u.1.2.2.2.2.2.2.2), u.2)))))))))
def fX5_readsIdentifier (u : TM) : Option (Int32 × TM) := ((fX5_sign u).bind fun z8 => ((fX5_in z8 (48 : Int32) (57 : Int32)).bind fun z9 => (if z9 = 0 then some ((0 : Int32), u) else ((fX5_sign u).bind fun z11 => ((itr (fun a : TM => fX5_readsIdentifier_s37 a) FU ((u.1.1, u.1.2.1, u.1.2.2.1, u.1.2.2.2.1, (u.1.2.2.2.2.1 + (1 : Int32)), u.1.2.2.2.2.2.1, (z11 - (48 : Int32)), u.1.2.2.2.2.2.2.2), u.2)).bind fun b12 => some ((1 : Int32), b12))))))
abbrev rmX5_readsIdentifier : Room := { frames := 1, cells := 0, slots := 0, locals := 22 }
set_option maxRecDepth 100000 in
set_option maxHeartbeats 4000000 in
theorem kX5_readsIdentifier (l : Launch) (G : va_G) (cI cS : ClassId) (ga : Nat → Nat) (sz : Nat) (u : TM) (r : Int32 × TM) (hf : fX5_readsIdentifier u = some r) : Met l yX5_readsIdentifier (.code yX5_readsIdentifier cX5_readsIdentifier 1 (some .boolean) :: bw) rmX5_readsIdentifier (va_Pc [.ref (ga 0)] (PreM G (tysW cI cS) (wM cI ga u) sz)) (va_Qi (fun r' u' => (r', u') = r) (PoM G (tysW cI cS) (va_A (wM cI ga u) sz) (wM cI ga)) (va_A (wM cI ga u) sz)) 0 0 (va_A (wM cI ga u) sz) := by
  refine enterM (own := RX5) (by decide) rfl (Nat.le_of_ble_eq_true rfl) ?_
  intro p e s m args below meth c A Q hAe hQ S hr hlocks hP hK hN hD hA hS ls hl
  rw [hAe] at hQ
  have hx := S.1; have hb := S.2.1; have hml := S.2.2.1; have hown := S.2.2.2.1; have hq := S.2.2.2.2
  have hl : lv_has ls 1 [(0, .ref (ga 0))] := hl
  have h := hf
  unfold fX5_readsIdentifier at h
  have L37 : ∀ (n9 : Nat) (a9 : TM) (b9 : TM), itr (fun a : TM => fX5_readsIdentifier_s37 a) n9 a9 = some b9 → (fun b : TM => ∀ (H : Heap) (locs : List Loc), va_P G vwCl (wM cI ga b) H → va_D A (wM cI ga b) → va_S A s.heap H locs → ∀ ls : Array Slot, lv_has ls 1 [] → W p l e rmX5_readsIdentifier s m args below meth c H locs 0 0 Q (F0 m 111 ls [])) b9 → (fun a : TM => ∀ (H : Heap) (locs : List Loc), va_P G vwCl (wM cI ga a) H → va_D A (wM cI ga a) → va_S A s.heap H locs → ∀ ls : Array Slot, lv_has ls 1 [(0, .ref (ga 0))] → W p l e rmX5_readsIdentifier s m args below meth c H locs 0 0 Q (F0 m 37 ls [])) a9 := by
    refine itr_ind (Inv := (fun a : TM => ∀ (H : Heap) (locs : List Loc), va_P G vwCl (wM cI ga a) H → va_D A (wM cI ga a) → va_S A s.heap H locs → ∀ ls : Array Slot, lv_has ls 1 [(0, .ref (ga 0))] → W p l e rmX5_readsIdentifier s m args below meth c H locs 0 0 Q (F0 m 37 ls []))) (Ex := (fun b : TM => ∀ (H : Heap) (locs : List Loc), va_P G vwCl (wM cI ga b) H → va_D A (wM cI ga b) → va_S A s.heap H locs → ∀ ls : Array Slot, lv_has ls 1 [] → W p l e rmX5_readsIdentifier s m args below meth c H locs 0 0 Q (F0 m 111 ls []))) ?_
    intro u z h hI hE
    have h : fX5_readsIdentifier_s37 u = some z := h
    unfold fX5_readsIdentifier_s37 at h
    show ∀ (H : Heap) (locs : List Loc), va_P G vwCl (wM cI ga u) H → va_D A (wM cI ga u) → va_S A s.heap H locs → ∀ ls : Array Slot, lv_has ls 1 [(0, .ref (ga 0))] → W p l e rmX5_readsIdentifier s m args below meth c H locs 0 0 Q (F0 m 37 ls [])
    intro H locs hP hD hS ls hl
    refine lv_aload_n hx hb dX5_readsIdentifier_37 rfl (lv_at hl 0 rfl) ?_
    refine gf_X5_195 S hK hN hP 0 rfl (v := .int u.1.2.2.2.2.2.2.1) rfl dX5_readsIdentifier_38 ?_
    refine lv_if_le (tgt := 111) hx hb dX5_readsIdentifier_41 (by decide) (fun c1 => ?_) (fun c1 => ?_)
    · have h := (if_pos c1).symm.trans h
      exact hE _ (Option.some.inj h) _ _ hP hD hS _ (lv_sub hl [] rfl)
    · have h := (if_neg c1).symm.trans h
      refine lv_aload_n hx hb dX5_readsIdentifier_44 rfl (lv_at hl 0 rfl) ?_
      obtain ⟨z2, e_z2, h⟩ := bnd h
      refine roI (cc_X5_192 ga S hK hN hP e_z2 hl.1 (Nat.le_of_ble_eq_true rfl) ⟨Nat.le_of_ble_eq_true rfl, Nat.le_of_ble_eq_true rfl⟩ dX5_readsIdentifier_45 ⟨Nat.le_of_ble_eq_true rfl, Nat.le_of_ble_eq_true rfl⟩) ?_
      refine lv_bipush (v := 48) hx hb dX5_readsIdentifier_48 (by decide) ?_
      refine lv_bipush (v := 57) hx hb dX5_readsIdentifier_50 (by decide) ?_
      obtain ⟨z3, e_z3, h⟩ := bnd h
      refine roI (cc_X5_78 S hK hN va_P0 e_z3 hl.1 (Nat.le_of_ble_eq_true rfl) ⟨Nat.le_of_ble_eq_true rfl, Nat.le_of_ble_eq_true rfl⟩ dX5_readsIdentifier_52 ⟨Nat.le_of_ble_eq_true rfl, Nat.le_of_ble_eq_true rfl⟩) ?_
      refine lv_if_eq (tgt := 111) hx hb dX5_readsIdentifier_55 (by decide) (fun c4 => ?_) (fun c4 => ?_)
      · have h := (if_pos c4).symm.trans h
        exact hE _ (Option.some.inj h) _ _ hP hD hS _ (lv_sub hl [] rfl)
      · have h := (if_neg c4).symm.trans h
        refine lv_bipush (v := 10) hx hb dX5_readsIdentifier_58 (by decide) ?_
        refine lv_aload_n hx hb dX5_readsIdentifier_60 rfl (lv_at hl 0 rfl) ?_
        refine gf_X5_195 S hK hN hP 0 rfl (v := .int u.1.2.2.2.2.2.2.1) rfl dX5_readsIdentifier_61 ?_
        refine lv_imul hx hb dX5_readsIdentifier_64 ?_
        refine lv_aload_n hx hb dX5_readsIdentifier_65 rfl (lv_at hl 0 rfl) ?_
        obtain ⟨z5, e_z5, h⟩ := bnd h
        refine roI (cc_X5_192 ga S hK hN hP e_z5 hl.1 (Nat.le_of_ble_eq_true rfl) ⟨Nat.le_of_ble_eq_true rfl, Nat.le_of_ble_eq_true rfl⟩ dX5_readsIdentifier_66 ⟨Nat.le_of_ble_eq_true rfl, Nat.le_of_ble_eq_true rfl⟩) ?_
        refine lv_iadd hx hb dX5_readsIdentifier_69 ?_
        refine lv_bipush (v := 48) hx hb dX5_readsIdentifier_70 (by decide) ?_
        refine lv_isub hx hb dX5_readsIdentifier_72 ?_
        refine lv_sipush (v := 800) hx hb dX5_readsIdentifier_73 (by decide) ?_
        refine lv_icmp_ge (tgt := 111) hx hb dX5_readsIdentifier_76 (by decide) (fun c6 => ?_) (fun c6 => ?_)
        · have h := (if_pos c6).symm.trans h
          exact hE _ (Option.some.inj h) _ _ hP hD hS _ (lv_sub hl [] rfl)
        · have h := (if_neg c6).symm.trans h
          refine lv_aload_n hx hb dX5_readsIdentifier_79 rfl (lv_at hl 0 rfl) ?_
          refine lv_bipush (v := 10) hx hb dX5_readsIdentifier_80 (by decide) ?_
          refine lv_aload_n hx hb dX5_readsIdentifier_82 rfl (lv_at hl 0 rfl) ?_
          refine gf_X5_195 S hK hN hP 0 rfl (v := .int u.1.2.2.2.2.2.2.1) rfl dX5_readsIdentifier_83 ?_
          refine lv_imul hx hb dX5_readsIdentifier_86 ?_
          refine lv_aload_n hx hb dX5_readsIdentifier_87 rfl (lv_at hl 0 rfl) ?_
          obtain ⟨z7, e_z7, h⟩ := bnd h
          refine roI (cc_X5_192 ga S hK hN hP e_z7 hl.1 (Nat.le_of_ble_eq_true rfl) ⟨Nat.le_of_ble_eq_true rfl, Nat.le_of_ble_eq_true rfl⟩ dX5_readsIdentifier_88 ⟨Nat.le_of_ble_eq_true rfl, Nat.le_of_ble_eq_true rfl⟩) ?_
          refine lv_iadd hx hb dX5_readsIdentifier_91 ?_
          refine lv_bipush (v := 48) hx hb dX5_readsIdentifier_92 (by decide) ?_
          refine lv_isub hx hb dX5_readsIdentifier_94 ?_
          refine pf_X5_195 S hK hN hP hD hS 0 rfl (Nat.le_of_ble_eq_true rfl) dX5_readsIdentifier_95 (fun H locs hP hD hS => ?_)
          have hP : va_P G vwCl (wM cI ga ((u.1.1, u.1.2.1, u.1.2.2.1, u.1.2.2.2.1, u.1.2.2.2.2.1, u.1.2.2.2.2.2.1, ((((10 : Int32) * u.1.2.2.2.2.2.2.1) + z7) - (48 : Int32)), u.1.2.2.2.2.2.2.2), u.2)) H := hP
          have hD : va_D A (wM cI ga ((u.1.1, u.1.2.1, u.1.2.2.1, u.1.2.2.2.1, u.1.2.2.2.2.1, u.1.2.2.2.2.2.1, ((((10 : Int32) * u.1.2.2.2.2.2.2.1) + z7) - (48 : Int32)), u.1.2.2.2.2.2.2.2), u.2)) := hD
          refine lv_aload_n hx hb dX5_readsIdentifier_98 rfl (lv_at hl 0 rfl) ?_
          refine lv_dup hx hb dX5_readsIdentifier_99 rfl ?_
          refine gf_X5_189 S hK hN hP 0 rfl (v := .int u.1.2.2.2.2.1) rfl dX5_readsIdentifier_100 ?_
          refine lv_iconst (v := 1) hx hb dX5_readsIdentifier_103 (by decide) ?_
          refine lv_iadd hx hb dX5_readsIdentifier_104 ?_
          refine pf_X5_189 S hK hN hP hD hS 0 rfl (Nat.le_of_ble_eq_true rfl) dX5_readsIdentifier_105 (fun H locs hP hD hS => ?_)
          have hP : va_P G vwCl (wM cI ga ((u.1.1, u.1.2.1, u.1.2.2.1, u.1.2.2.2.1, (u.1.2.2.2.2.1 + (1 : Int32)), u.1.2.2.2.2.2.1, ((((10 : Int32) * u.1.2.2.2.2.2.2.1) + z7) - (48 : Int32)), u.1.2.2.2.2.2.2.2), u.2)) H := hP
          have hD : va_D A (wM cI ga ((u.1.1, u.1.2.1, u.1.2.2.1, u.1.2.2.2.1, (u.1.2.2.2.2.1 + (1 : Int32)), u.1.2.2.2.2.2.1, ((((10 : Int32) * u.1.2.2.2.2.2.2.1) + z7) - (48 : Int32)), u.1.2.2.2.2.2.2.2), u.2)) := hD
          refine lv_goto (tgt := 37) hx hb dX5_readsIdentifier_108 (by decide) ?_
          exact hI _ (Option.some.inj h) _ _ hP hD hS _ (lv_sub hl [0] rfl)
  refine lv_aload_n hx hb dX5_readsIdentifier_0 rfl (lv_at hl 0 rfl) ?_
  obtain ⟨z8, e_z8, h⟩ := bnd h
  refine roI (cc_X5_192 ga S hK hN hP e_z8 hl.1 (Nat.le_of_ble_eq_true rfl) ⟨Nat.le_of_ble_eq_true rfl, Nat.le_of_ble_eq_true rfl⟩ dX5_readsIdentifier_1 ⟨Nat.le_of_ble_eq_true rfl, Nat.le_of_ble_eq_true rfl⟩) ?_
  refine lv_bipush (v := 48) hx hb dX5_readsIdentifier_4 (by decide) ?_
  refine lv_bipush (v := 57) hx hb dX5_readsIdentifier_6 (by decide) ?_
  obtain ⟨z9, e_z9, h⟩ := bnd h
  refine roI (cc_X5_78 S hK hN va_P0 e_z9 hl.1 (Nat.le_of_ble_eq_true rfl) ⟨Nat.le_of_ble_eq_true rfl, Nat.le_of_ble_eq_true rfl⟩ dX5_readsIdentifier_8 ⟨Nat.le_of_ble_eq_true rfl, Nat.le_of_ble_eq_true rfl⟩) ?_
  refine lv_if_ne (tgt := 16) hx hb dX5_readsIdentifier_11 (by decide) (fun c10 => ?_) (fun c10 => ?_)
  · have h := (if_neg c10).symm.trans h
    refine lv_aload_n hx hb dX5_readsIdentifier_16 rfl (lv_at hl 0 rfl) ?_
    refine lv_aload_n hx hb dX5_readsIdentifier_17 rfl (lv_at hl 0 rfl) ?_
    obtain ⟨z11, e_z11, h⟩ := bnd h
    refine roI (cc_X5_192 ga S hK hN hP e_z11 hl.1 (Nat.le_of_ble_eq_true rfl) ⟨Nat.le_of_ble_eq_true rfl, Nat.le_of_ble_eq_true rfl⟩ dX5_readsIdentifier_18 ⟨Nat.le_of_ble_eq_true rfl, Nat.le_of_ble_eq_true rfl⟩) ?_
    refine lv_bipush (v := 48) hx hb dX5_readsIdentifier_21 (by decide) ?_
    refine lv_isub hx hb dX5_readsIdentifier_23 ?_
    refine pf_X5_195 S hK hN hP hD hS 0 rfl (Nat.le_of_ble_eq_true rfl) dX5_readsIdentifier_24 (fun H locs hP hD hS => ?_)
    have hP : va_P G vwCl (wM cI ga ((u.1.1, u.1.2.1, u.1.2.2.1, u.1.2.2.2.1, u.1.2.2.2.2.1, u.1.2.2.2.2.2.1, (z11 - (48 : Int32)), u.1.2.2.2.2.2.2.2), u.2)) H := hP
    have hD : va_D A (wM cI ga ((u.1.1, u.1.2.1, u.1.2.2.1, u.1.2.2.2.1, u.1.2.2.2.2.1, u.1.2.2.2.2.2.1, (z11 - (48 : Int32)), u.1.2.2.2.2.2.2.2), u.2)) := hD
    refine lv_aload_n hx hb dX5_readsIdentifier_27 rfl (lv_at hl 0 rfl) ?_
    refine lv_dup hx hb dX5_readsIdentifier_28 rfl ?_
    refine gf_X5_189 S hK hN hP 0 rfl (v := .int u.1.2.2.2.2.1) rfl dX5_readsIdentifier_29 ?_
    refine lv_iconst (v := 1) hx hb dX5_readsIdentifier_32 (by decide) ?_
    refine lv_iadd hx hb dX5_readsIdentifier_33 ?_
    refine pf_X5_189 S hK hN hP hD hS 0 rfl (Nat.le_of_ble_eq_true rfl) dX5_readsIdentifier_34 (fun H locs hP hD hS => ?_)
    have hP : va_P G vwCl (wM cI ga ((u.1.1, u.1.2.1, u.1.2.2.1, u.1.2.2.2.1, (u.1.2.2.2.2.1 + (1 : Int32)), u.1.2.2.2.2.2.1, (z11 - (48 : Int32)), u.1.2.2.2.2.2.2.2), u.2)) H := hP
    have hD : va_D A (wM cI ga ((u.1.1, u.1.2.1, u.1.2.2.1, u.1.2.2.2.1, (u.1.2.2.2.2.1 + (1 : Int32)), u.1.2.2.2.2.2.1, (z11 - (48 : Int32)), u.1.2.2.2.2.2.2.2), u.2)) := hD
    obtain ⟨b12, e_b12, h⟩ := bnd h
    refine L37 _ _ _ e_b12 ?_ _ _ hP hD hS _ (lv_sub hl [0] rfl)
    intro H locs hP hD hS ls hl
    refine lv_iconst (v := 1) hx hb dX5_readsIdentifier_111 (by decide) ?_
    exact retMz hQ S hr hlocks rfl hK hN hP hD hS h dX5_readsIdentifier_112
  · have h := (if_pos c10).symm.trans h
    refine lv_iconst (v := 0) hx hb dX5_readsIdentifier_14 (by decide) ?_
    exact retMz hQ S hr hlocks rfl hK hN hP hD hS h dX5_readsIdentifier_15

def fX5_readsData_j43 (u : TM) (x1 : Int32) : Option (Int32 × TM) := ((fX5_takesBuffer u x1 u.1.2.2.2.2.1).bind fun z1 => (if z1.1.2.2.2.1 ≤ 0 then some ((0 : Int32), z1) else some ((1 : Int32), z1)))
def fX5_readsData_s5 (u : TM) (x1 : Int32) : Option ((TM × Int32) ⊕ (TM × Int32)) := (if (40 : Int32) ≤ (u.1.2.2.2.2.1 - x1) then some (.inr (u, x1)) else ((fX5_sign u).bind fun z4 => ((fX5_in z4 (97 : Int32) (122 : Int32)).bind fun z5 => (if z5 = 0 then some (.inr (u, x1)) else some (.inl (((u.1.1, u.1.2.1, u.1.2.2.1, u.1.2.2.2.1, (u.1.2.2.2.2.1 + (1 : Int32)), u.1.2.2.2.2.2), u.2), x1))))))
def fX5_readsData (u : TM) : Option (Int32 × TM) := ((itr (fun a : TM × Int32 => fX5_readsData_s5 a.1 a.2) FU (u, u.1.2.2.2.2.1)).bind fun b7 => fX5_readsData_j43 b7.1 b7.2)
abbrev rmX5_readsData : Room := { frames := 1, cells := 0, slots := 0, locals := 23 }
set_option maxRecDepth 100000 in
set_option maxHeartbeats 4000000 in
theorem kX5_readsData (l : Launch) (G : va_G) (cI cS : ClassId) (ga : Nat → Nat) (sz : Nat) (u : TM) (r : Int32 × TM) (hf : fX5_readsData u = some r) : Met l yX5_readsData (.code yX5_readsData cX5_readsData 2 (some .boolean) :: bw) rmX5_readsData (va_Pc [.ref (ga 0)] (PreM G (tysW cI cS) (wM cI ga u) sz)) (va_Qi (fun r' u' => (r', u') = r) (PoM G (tysW cI cS) (va_A (wM cI ga u) sz) (wM cI ga)) (va_A (wM cI ga u) sz)) 0 0 (va_A (wM cI ga u) sz) := by
  refine enterM (own := RX5) (by decide) rfl (Nat.le_of_ble_eq_true rfl) ?_
  intro p e s m args below meth c A Q hAe hQ S hr hlocks hP hK hN hD hA hS ls hl
  rw [hAe] at hQ
  have hx := S.1; have hb := S.2.1; have hml := S.2.2.1; have hown := S.2.2.2.1; have hq := S.2.2.2.2
  have hl : lv_has ls 2 [(0, .ref (ga 0))] := hl
  have h := hf
  unfold fX5_readsData at h
  have J43 : ∀ (u : TM) (x1 : Int32) , fX5_readsData_j43 u x1 = some r → ∀ (H : Heap) (locs : List Loc), va_P G vwCl (wM cI ga u) H → va_D A (wM cI ga u) → va_S A s.heap H locs → ∀ ls : Array Slot, lv_has ls 2 [(0, .ref (ga 0)), (1, .int x1)] → W p l e rmX5_readsData s m args below meth c H locs 0 0 Q (F0 m 43 ls []) := by
    intro u x1 h
    unfold fX5_readsData_j43 at h
    intro H locs hP hD hS ls hl
    refine lv_aload_n hx hb dX5_readsData_43 rfl (lv_at hl 0 rfl) ?_
    refine lv_iload_n hx hb dX5_readsData_44 rfl (lv_at hl 1 rfl) ?_
    refine lv_aload_n hx hb dX5_readsData_45 rfl (lv_at hl 0 rfl) ?_
    refine gf_X5_189 S hK hN hP 0 rfl (v := .int u.1.2.2.2.2.1) rfl dX5_readsData_46 ?_
    obtain ⟨z1, e_z1, h⟩ := bnd h
    refine muv (cc_X5_153 ga S hK hN hP hD e_z1 hl.1 (Nat.le_of_ble_eq_true rfl) ⟨Nat.le_of_ble_eq_true rfl, Nat.le_of_ble_eq_true rfl⟩ dX5_readsData_49 ⟨Nat.le_of_ble_eq_true rfl, Nat.le_of_ble_eq_true rfl⟩) hS hD (va_free hD hS hA [0, 1, 2, 3, 4] rfl) (fun H locs hP hD hS => ?_)
    have hP : va_P G vwCl (wM cI ga z1) H := hP
    have hD : va_D A (wM cI ga z1) := hD
    refine lv_aload_n hx hb dX5_readsData_52 rfl (lv_at hl 0 rfl) ?_
    refine gf_X5_85 S hK hN hP 0 rfl (v := .int z1.1.2.2.2.1) rfl dX5_readsData_53 ?_
    refine lv_if_le (tgt := 63) hx hb dX5_readsData_56 (by decide) (fun c2 => ?_) (fun c2 => ?_)
    · have h := (if_pos c2).symm.trans h
      refine lv_iconst (v := 0) hx hb dX5_readsData_63 (by decide) ?_
      exact retMz hQ S hr hlocks rfl hK hN hP hD hS h dX5_readsData_64
    · have h := (if_neg c2).symm.trans h
      refine lv_iconst (v := 1) hx hb dX5_readsData_59 (by decide) ?_
      refine lv_goto (tgt := 64) hx hb dX5_readsData_60 (by decide) ?_
      exact retMz hQ S hr hlocks rfl hK hN hP hD hS h dX5_readsData_64
  have L5 : ∀ (n9 : Nat) (a9 : TM × Int32) (b9 : TM × Int32), itr (fun a : TM × Int32 => fX5_readsData_s5 a.1 a.2) n9 a9 = some b9 → (fun b : TM × Int32 => ∀ (H : Heap) (locs : List Loc), va_P G vwCl (wM cI ga b.1) H → va_D A (wM cI ga b.1) → va_S A s.heap H locs → ∀ ls : Array Slot, lv_has ls 2 [(0, .ref (ga 0)), (1, .int b.2)] → W p l e rmX5_readsData s m args below meth c H locs 0 0 Q (F0 m 43 ls [])) b9 → (fun a : TM × Int32 => ∀ (H : Heap) (locs : List Loc), va_P G vwCl (wM cI ga a.1) H → va_D A (wM cI ga a.1) → va_S A s.heap H locs → ∀ ls : Array Slot, lv_has ls 2 [(0, .ref (ga 0)), (1, .int a.2)] → W p l e rmX5_readsData s m args below meth c H locs 0 0 Q (F0 m 5 ls [])) a9 := by
    refine itr_ind (Inv := (fun a : TM × Int32 => ∀ (H : Heap) (locs : List Loc), va_P G vwCl (wM cI ga a.1) H → va_D A (wM cI ga a.1) → va_S A s.heap H locs → ∀ ls : Array Slot, lv_has ls 2 [(0, .ref (ga 0)), (1, .int a.2)] → W p l e rmX5_readsData s m args below meth c H locs 0 0 Q (F0 m 5 ls []))) (Ex := (fun b : TM × Int32 => ∀ (H : Heap) (locs : List Loc), va_P G vwCl (wM cI ga b.1) H → va_D A (wM cI ga b.1) → va_S A s.heap H locs → ∀ ls : Array Slot, lv_has ls 2 [(0, .ref (ga 0)), (1, .int b.2)] → W p l e rmX5_readsData s m args below meth c H locs 0 0 Q (F0 m 43 ls []))) ?_
    rintro ⟨u, x1⟩ z h hI hE
    have h : fX5_readsData_s5 u x1 = some z := h
    unfold fX5_readsData_s5 at h
    show ∀ (H : Heap) (locs : List Loc), va_P G vwCl (wM cI ga u) H → va_D A (wM cI ga u) → va_S A s.heap H locs → ∀ ls : Array Slot, lv_has ls 2 [(0, .ref (ga 0)), (1, .int x1)] → W p l e rmX5_readsData s m args below meth c H locs 0 0 Q (F0 m 5 ls [])
    intro H locs hP hD hS ls hl
    refine lv_aload_n hx hb dX5_readsData_5 rfl (lv_at hl 0 rfl) ?_
    refine gf_X5_189 S hK hN hP 0 rfl (v := .int u.1.2.2.2.2.1) rfl dX5_readsData_6 ?_
    refine lv_iload_n hx hb dX5_readsData_9 rfl (lv_at hl 1 rfl) ?_
    refine lv_isub hx hb dX5_readsData_10 ?_
    refine lv_bipush (v := 40) hx hb dX5_readsData_11 (by decide) ?_
    refine lv_icmp_ge (tgt := 43) hx hb dX5_readsData_13 (by decide) (fun c3 => ?_) (fun c3 => ?_)
    · have h := (if_pos c3).symm.trans h
      exact hE _ (Option.some.inj h) _ _ hP hD hS _ (lv_sub hl [0, 1] rfl)
    · have h := (if_neg c3).symm.trans h
      refine lv_aload_n hx hb dX5_readsData_16 rfl (lv_at hl 0 rfl) ?_
      obtain ⟨z4, e_z4, h⟩ := bnd h
      refine roI (cc_X5_192 ga S hK hN hP e_z4 hl.1 (Nat.le_of_ble_eq_true rfl) ⟨Nat.le_of_ble_eq_true rfl, Nat.le_of_ble_eq_true rfl⟩ dX5_readsData_17 ⟨Nat.le_of_ble_eq_true rfl, Nat.le_of_ble_eq_true rfl⟩) ?_
      refine lv_bipush (v := 97) hx hb dX5_readsData_20 (by decide) ?_
      refine lv_bipush (v := 122) hx hb dX5_readsData_22 (by decide) ?_
      obtain ⟨z5, e_z5, h⟩ := bnd h
      refine roI (cc_X5_78 S hK hN va_P0 e_z5 hl.1 (Nat.le_of_ble_eq_true rfl) ⟨Nat.le_of_ble_eq_true rfl, Nat.le_of_ble_eq_true rfl⟩ dX5_readsData_24 ⟨Nat.le_of_ble_eq_true rfl, Nat.le_of_ble_eq_true rfl⟩) ?_
      refine lv_if_eq (tgt := 43) hx hb dX5_readsData_27 (by decide) (fun c6 => ?_) (fun c6 => ?_)
      · have h := (if_pos c6).symm.trans h
        exact hE _ (Option.some.inj h) _ _ hP hD hS _ (lv_sub hl [0, 1] rfl)
      · have h := (if_neg c6).symm.trans h
        refine lv_aload_n hx hb dX5_readsData_30 rfl (lv_at hl 0 rfl) ?_
        refine lv_dup hx hb dX5_readsData_31 rfl ?_
        refine gf_X5_189 S hK hN hP 0 rfl (v := .int u.1.2.2.2.2.1) rfl dX5_readsData_32 ?_
        refine lv_iconst (v := 1) hx hb dX5_readsData_35 (by decide) ?_
        refine lv_iadd hx hb dX5_readsData_36 ?_
        refine pf_X5_189 S hK hN hP hD hS 0 rfl (Nat.le_of_ble_eq_true rfl) dX5_readsData_37 (fun H locs hP hD hS => ?_)
        have hP : va_P G vwCl (wM cI ga ((u.1.1, u.1.2.1, u.1.2.2.1, u.1.2.2.2.1, (u.1.2.2.2.2.1 + (1 : Int32)), u.1.2.2.2.2.2), u.2)) H := hP
        have hD : va_D A (wM cI ga ((u.1.1, u.1.2.1, u.1.2.2.1, u.1.2.2.2.1, (u.1.2.2.2.2.1 + (1 : Int32)), u.1.2.2.2.2.2), u.2)) := hD
        refine lv_goto (tgt := 5) hx hb dX5_readsData_40 (by decide) ?_
        exact hI _ (Option.some.inj h) _ _ hP hD hS _ (lv_sub hl [0, 1] rfl)
  refine lv_aload_n hx hb dX5_readsData_0 rfl (lv_at hl 0 rfl) ?_
  refine gf_X5_189 S hK hN hP 0 rfl (v := .int u.1.2.2.2.2.1) rfl dX5_readsData_1 ?_
  refine lv_istore_n (lv' := [(1, .int u.1.2.2.2.2.1), (0, .ref (ga 0))]) hx hb dX5_readsData_4 rfl hl (by decide) rfl (fun ls hl => ?_)
  obtain ⟨b7, e_b7, h⟩ := bnd h
  refine L5 _ _ _ e_b7 ?_ _ _ hP hD hS _ (lv_sub hl [1, 0] rfl)
  intro H locs hP hD hS ls hl
  exact J43 b7.1 b7.2 h _ _ hP hD hS _ (lv_sub hl [0, 1] rfl)

theorem cc_X5_201 {p : Program} {l : Launch} {e : Env} {R : Room} {s : State} {m : MethodId} {args : Array Value} {below : List Frame} {meth : Method} {c : Code} {H : Heap} {locs : List Loc} {cells slots : Nat} {cc : ByteArray} {pc nL : Nat} {ls : Array Slot} {rest : List Value} {G : va_G} {A : Nat → Prop} (ga : Nat → Nat) {cI cS : ClassId} {u : TM}  {p0 : Int32} {r : Int32 × TM} (S : CallFix p m c cc nL s args bw RX5) (hK : va_K G vwCl (tysW cI cS) s) (hN : NW s) (hP : va_P G vwCl (wM cI ga u) H) (hD : va_D A (wM cI ga u)) (hf : fX5_takes u p0 = some r) (hsz : ls.size = nL) (hst : (rest.map fun v => v.category).sum ≤ 8) (hR : rmX5_takes.frames + 1 ≤ R.frames ∧ 8 + (3 + 11) + rmX5_takes.locals ≤ R.locals) (hdg : decode cc pc = .ok (.invokevirtual 201, 3)) (hcs : cells + 0 ≤ R.cells ∧ slots + 0 ≤ R.slots) : va_Run p l e R s m args below meth c H locs cells slots 0 0 (F0 m pc ls (.int p0 :: .ref (ga 0) :: rest)) rest (va_Qi (fun r' u' => (r', u') = r) (PoM G (tysW cI cS) (va_A (wM cI ga u) H.size) (wM cI ga)) (va_A (wM cI ga u) H.size) (#[.ref (ga 0), .int p0] : Array Value)) (va_A (wM cI ga u) H.size) :=
  va_runV (As := [.int p0]) (rest := rest) S (kX5_takes l G cI cS ga H.size u p0 r hf) (cwV 1 S.2.2.2.2 (gdV q_612 q_613 q_614 q_392 q_604) rfl rfl rfl (by decide +kernel) hR) (pvM (q := (RX5, TX5, 12)) hK hN hP hD (ci := 5) (q0 := 0) rfl rfl) rfl rfl hsz rfl (lv_room hst) hdg hcs
theorem cc_X5_204 {p : Program} {l : Launch} {e : Env} {R : Room} {s : State} {m : MethodId} {args : Array Value} {below : List Frame} {meth : Method} {c : Code} {H : Heap} {locs : List Loc} {cells slots : Nat} {cc : ByteArray} {pc nL : Nat} {ls : Array Slot} {rest : List Value} {G : va_G} {A : Nat → Prop} (ga : Nat → Nat) {cI cS : ClassId} {u : TM}  {r : Int32 × TM} (S : CallFix p m c cc nL s args bw RX5) (hK : va_K G vwCl (tysW cI cS) s) (hN : NW s) (hP : va_P G vwCl (wM cI ga u) H) (hD : va_D A (wM cI ga u)) (hf : fX5_readsData u = some r) (hsz : ls.size = nL) (hst : (rest.map fun v => v.category).sum ≤ 8) (hR : rmX5_readsData.frames + 1 ≤ R.frames ∧ 8 + (2 + 11) + rmX5_readsData.locals ≤ R.locals) (hdg : decode cc pc = .ok (.invokevirtual 204, 3)) (hcs : cells + 0 ≤ R.cells ∧ slots + 0 ≤ R.slots) : va_Run p l e R s m args below meth c H locs cells slots 0 0 (F0 m pc ls (.ref (ga 0) :: rest)) rest (va_Qi (fun r' u' => (r', u') = r) (PoM G (tysW cI cS) (va_A (wM cI ga u) H.size) (wM cI ga)) (va_A (wM cI ga u) H.size) (#[.ref (ga 0)] : Array Value)) (va_A (wM cI ga u) H.size) :=
  va_runV (As := []) (rest := rest) S (kX5_readsData l G cI cS ga H.size u r hf) (cwV 0 S.2.2.2.2 (gdV q_615 q_616 q_617 q_392 q_610) rfl rfl rfl (by decide +kernel) hR) (pvM (q := (RX5, TX5, 12)) hK hN hP hD (ci := 5) (q0 := 0) rfl rfl) rfl rfl hsz rfl (lv_room hst) hdg hcs
theorem cc_X5_208 {p : Program} {l : Launch} {e : Env} {R : Room} {s : State} {m : MethodId} {args : Array Value} {below : List Frame} {meth : Method} {c : Code} {H : Heap} {locs : List Loc} {cells slots : Nat} {cc : ByteArray} {pc nL : Nat} {ls : Array Slot} {rest : List Value} {G : va_G} {A : Nat → Prop} (ga : Nat → Nat) {cI cS : ClassId} {u : TM}  {r : Int32 × TM} (S : CallFix p m c cc nL s args bw RX5) (hK : va_K G vwCl (tysW cI cS) s) (hN : NW s) (hP : va_P G vwCl (wM cI ga u) H) (hD : va_D A (wM cI ga u)) (hf : fX5_readsIdentifier u = some r) (hsz : ls.size = nL) (hst : (rest.map fun v => v.category).sum ≤ 8) (hR : rmX5_readsIdentifier.frames + 1 ≤ R.frames ∧ 8 + (1 + 11) + rmX5_readsIdentifier.locals ≤ R.locals) (hdg : decode cc pc = .ok (.invokevirtual 208, 3)) (hcs : cells + 0 ≤ R.cells ∧ slots + 0 ≤ R.slots) : va_Run p l e R s m args below meth c H locs cells slots 0 0 (F0 m pc ls (.ref (ga 0) :: rest)) rest (va_Qi (fun r' u' => (r', u') = r) (PoM G (tysW cI cS) (va_A (wM cI ga u) H.size) (wM cI ga)) (va_A (wM cI ga u) H.size) (#[.ref (ga 0)] : Array Value)) (va_A (wM cI ga u) H.size) :=
  va_runV (As := []) (rest := rest) S (kX5_readsIdentifier l G cI cS ga H.size u r hf) (cwV 0 S.2.2.2.2 (gdV q_618 q_619 q_620 q_392 q_608) rfl rfl rfl (by decide +kernel) hR) (pvM (q := (RX5, TX5, 12)) hK hN hP hD (ci := 5) (q0 := 0) rfl rfl) rfl rfl hsz rfl (lv_room hst) hdg hcs
theorem pf_X5_198 {p : Program} {l : Launch} {e : Env} {R : Room} {s : State} {m : MethodId} {args : Array Value} {below : List Frame} {meth : Method} {c : Code} {H : Heap} {locs : List Loc} {cells slots : Nat} {cc : ByteArray} {pc nL : Nat} {ls : Array Slot} {rest : List Value} {G : va_G} {Q : State → Prop} {tys : List (ClassId × FieldType)} {ws : va_W} {a : Nat} {A : Nat → Prop} {H0 : Heap} {x : Int32} (S : CallFix p m c cc nL s args bw RX5) (hK : va_K G vwCl tys s) (hN : NW s) (hP : va_P G vwCl ws H) (hD : va_D A ws) (hS : va_S A H0 H locs) (q0 : Nat) {fs : List Value} (he : ws[q0]? = some (a, .inr (5, fs))) (hl : 9 < fs.length) (hdg : decode cc pc = .ok (.putfield 198, 3)) (kk : ∀ (H1 : Heap) (locs1 : List Loc), va_P G vwCl (ws.set q0 (a, .inr (5, fs.set 9 (.int x)))) H1 → va_D A (ws.set q0 (a, .inr (5, fs.set 9 (.int x)))) → va_S A H0 H1 locs1 → W p l e R s m args below meth c H1 locs1 cells slots Q (F0 m (pc + 3) ls rest)) : W p l e R s m args below meth c H locs cells slots Q (F0 m pc ls (.int x :: .ref a :: rest)) :=
  va_put (ty := .int) (v := .int x) (C := RX5) (T := TX5) (N := 12) S.1 S.2.1 S.2.2.2.2 bi_U5 tyX5 tyX5_ok nmX5 S.2.2.2.1 hK hP hD hS q0 he rfl 9 (by decide) (S.2.2.2.2 _ q_611) (fun _ h9 => h9) rfl rfl rfl rfl hl hdg kk
def fX5_readsOrder (u : TM) : Option (Int32 × TM) := ((fX5_sign u).bind fun z1 => ((fX5_takes ((u.1.1, u.1.2.1, u.1.2.2.1, u.1.2.2.2.1, u.1.2.2.2.2.1, z1, u.1.2.2.2.2.2.2), u.2) (43 : Int32)).bind fun z2 => (if z2.1 = 0 then ((fX5_takes z2.2 (61 : Int32)).bind fun z4 => (if z4.1 = 0 then ((fX5_takes z4.2 (45 : Int32)).bind fun z6 => (if z6.1 = 0 then ((fX5_takes z6.2 (94 : Int32)).bind fun z8 => ((zO z8.1).bind fun z9 => some (z9, z8.2))) else ((fX5_readsIdentifier z6.2).bind fun z10 => ((zO z10.1).bind fun z11 => some (z11, z10.2))))) else ((fX5_readsIdentifier z4.2).bind fun z12 => (if z12.1 = 0 then some ((0 : Int32), z12.2) else ((fX5_takes z12.2 (58 : Int32)).bind fun z14 => (if z14.1 = 0 then some ((0 : Int32), z14.2) else ((fX5_readsData z14.2).bind fun z16 => (if z16.1 = 0 then some ((0 : Int32), z16.2) else some ((1 : Int32), z16.2))))))))) else ((fX5_readsData z2.2).bind fun z18 => ((zO z18.1).bind fun z19 => some (z19, z18.2))))))
abbrev rmX5_readsOrder : Room := { frames := 2, cells := 0, slots := 0, locals := 44 }
set_option maxRecDepth 100000 in
set_option maxHeartbeats 4000000 in
theorem kX5_readsOrder (l : Launch) (G : va_G) (cI cS : ClassId) (ga : Nat → Nat) (sz : Nat) (u : TM) (r : Int32 × TM) (hf : fX5_readsOrder u = some r) : Met l yX5_readsOrder (.code yX5_readsOrder cX5_readsOrder 1 (some .boolean) :: bw) rmX5_readsOrder (va_Pc [.ref (ga 0)] (PreM G (tysW cI cS) (wM cI ga u) sz)) (va_Qi (fun r' u' => (r', u') = r) (PoM G (tysW cI cS) (va_A (wM cI ga u) sz) (wM cI ga)) (va_A (wM cI ga u) sz)) 0 0 (va_A (wM cI ga u) sz) := by
  refine enterM (own := RX5) (by decide) rfl (Nat.le_of_ble_eq_true rfl) ?_
  intro p e s m args below meth c A Q hAe hQ S hr hlocks hP hK hN hD hA hS ls hl
  rw [hAe] at hQ
  have hx := S.1; have hb := S.2.1; have hml := S.2.2.1; have hown := S.2.2.2.1; have hq := S.2.2.2.2
  have hl : lv_has ls 1 [(0, .ref (ga 0))] := hl
  have h := hf
  unfold fX5_readsOrder at h
  refine lv_aload_n hx hb dX5_readsOrder_0 rfl (lv_at hl 0 rfl) ?_
  refine lv_aload_n hx hb dX5_readsOrder_1 rfl (lv_at hl 0 rfl) ?_
  obtain ⟨z1, e_z1, h⟩ := bnd h
  refine roI (cc_X5_192 ga S hK hN hP e_z1 hl.1 (Nat.le_of_ble_eq_true rfl) ⟨Nat.le_of_ble_eq_true rfl, Nat.le_of_ble_eq_true rfl⟩ dX5_readsOrder_2 ⟨Nat.le_of_ble_eq_true rfl, Nat.le_of_ble_eq_true rfl⟩) ?_
  refine pf_X5_198 S hK hN hP hD hS 0 rfl (Nat.le_of_ble_eq_true rfl) dX5_readsOrder_5 (fun H locs hP hD hS => ?_)
  have hP : va_P G vwCl (wM cI ga ((u.1.1, u.1.2.1, u.1.2.2.1, u.1.2.2.2.1, u.1.2.2.2.2.1, z1, u.1.2.2.2.2.2.2), u.2)) H := hP
  have hD : va_D A (wM cI ga ((u.1.1, u.1.2.1, u.1.2.2.1, u.1.2.2.2.1, u.1.2.2.2.2.1, z1, u.1.2.2.2.2.2.2), u.2)) := hD
  refine lv_aload_n hx hb dX5_readsOrder_8 rfl (lv_at hl 0 rfl) ?_
  refine lv_bipush (v := 43) hx hb dX5_readsOrder_9 (by decide) ?_
  obtain ⟨z2, e_z2, h⟩ := bnd h
  refine mui (cc_X5_201 ga S hK hN hP hD e_z2 hl.1 (Nat.le_of_ble_eq_true rfl) ⟨Nat.le_of_ble_eq_true rfl, Nat.le_of_ble_eq_true rfl⟩ dX5_readsOrder_11 ⟨Nat.le_of_ble_eq_true rfl, Nat.le_of_ble_eq_true rfl⟩) hS hD (va_free hD hS hA [0, 1, 2, 3, 4] rfl) (fun H locs hP hD hS => ?_)
  have hP : va_P G vwCl (wM cI ga z2.2) H := hP
  have hD : va_D A (wM cI ga z2.2) := hD
  refine lv_if_eq (tgt := 22) hx hb dX5_readsOrder_14 (by decide) (fun c3 => ?_) (fun c3 => ?_)
  · have h := (if_pos c3).symm.trans h
    refine lv_aload_n hx hb dX5_readsOrder_22 rfl (lv_at hl 0 rfl) ?_
    refine lv_bipush (v := 61) hx hb dX5_readsOrder_23 (by decide) ?_
    obtain ⟨z4, e_z4, h⟩ := bnd h
    refine mui (cc_X5_201 ga S hK hN hP hD e_z4 hl.1 (Nat.le_of_ble_eq_true rfl) ⟨Nat.le_of_ble_eq_true rfl, Nat.le_of_ble_eq_true rfl⟩ dX5_readsOrder_25 ⟨Nat.le_of_ble_eq_true rfl, Nat.le_of_ble_eq_true rfl⟩) hS hD (va_free hD hS hA [0, 1, 2, 3, 4] rfl) (fun H locs hP hD hS => ?_)
    have hP : va_P G vwCl (wM cI ga z4.2) H := hP
    have hD : va_D A (wM cI ga z4.2) := hD
    refine lv_if_eq (tgt := 60) hx hb dX5_readsOrder_28 (by decide) (fun c5 => ?_) (fun c5 => ?_)
    · have h := (if_pos c5).symm.trans h
      refine lv_aload_n hx hb dX5_readsOrder_60 rfl (lv_at hl 0 rfl) ?_
      refine lv_bipush (v := 45) hx hb dX5_readsOrder_61 (by decide) ?_
      obtain ⟨z6, e_z6, h⟩ := bnd h
      refine mui (cc_X5_201 ga S hK hN hP hD e_z6 hl.1 (Nat.le_of_ble_eq_true rfl) ⟨Nat.le_of_ble_eq_true rfl, Nat.le_of_ble_eq_true rfl⟩ dX5_readsOrder_63 ⟨Nat.le_of_ble_eq_true rfl, Nat.le_of_ble_eq_true rfl⟩) hS hD (va_free hD hS hA [0, 1, 2, 3, 4] rfl) (fun H locs hP hD hS => ?_)
      have hP : va_P G vwCl (wM cI ga z6.2) H := hP
      have hD : va_D A (wM cI ga z6.2) := hD
      refine lv_if_eq (tgt := 74) hx hb dX5_readsOrder_66 (by decide) (fun c7 => ?_) (fun c7 => ?_)
      · have h := (if_pos c7).symm.trans h
        refine lv_aload_n hx hb dX5_readsOrder_74 rfl (lv_at hl 0 rfl) ?_
        refine lv_bipush (v := 94) hx hb dX5_readsOrder_75 (by decide) ?_
        obtain ⟨z8, e_z8, h⟩ := bnd h
        refine mui (cc_X5_201 ga S hK hN hP hD e_z8 hl.1 (Nat.le_of_ble_eq_true rfl) ⟨Nat.le_of_ble_eq_true rfl, Nat.le_of_ble_eq_true rfl⟩ dX5_readsOrder_77 ⟨Nat.le_of_ble_eq_true rfl, Nat.le_of_ble_eq_true rfl⟩) hS hD (va_free hD hS hA [0, 1, 2, 3, 4] rfl) (fun H locs hP hD hS => ?_)
        have hP : va_P G vwCl (wM cI ga z8.2) H := hP
        have hD : va_D A (wM cI ga z8.2) := hD
        obtain ⟨z9, e_z9, h⟩ := bnd h
        obtain ⟨q_z9, k_z9⟩ := zO_in e_z9
        rw [← q_z9] at h
        exact retMz hQ S hr hlocks (by rcases k_z9 with q | q <;> rw [q] <;> rfl) hK hN hP hD hS h dX5_readsOrder_80
      · have h := (if_neg c7).symm.trans h
        refine lv_aload_n hx hb dX5_readsOrder_69 rfl (lv_at hl 0 rfl) ?_
        obtain ⟨z10, e_z10, h⟩ := bnd h
        refine mui (cc_X5_208 ga S hK hN hP hD e_z10 hl.1 (Nat.le_of_ble_eq_true rfl) ⟨Nat.le_of_ble_eq_true rfl, Nat.le_of_ble_eq_true rfl⟩ dX5_readsOrder_70 ⟨Nat.le_of_ble_eq_true rfl, Nat.le_of_ble_eq_true rfl⟩) hS hD (va_free hD hS hA [0, 1, 2, 3, 4] rfl) (fun H locs hP hD hS => ?_)
        have hP : va_P G vwCl (wM cI ga z10.2) H := hP
        have hD : va_D A (wM cI ga z10.2) := hD
        obtain ⟨z11, e_z11, h⟩ := bnd h
        obtain ⟨q_z11, k_z11⟩ := zO_in e_z11
        rw [← q_z11] at h
        exact retMz hQ S hr hlocks (by rcases k_z11 with q | q <;> rw [q] <;> rfl) hK hN hP hD hS h dX5_readsOrder_73
    · have h := (if_neg c5).symm.trans h
      refine lv_aload_n hx hb dX5_readsOrder_31 rfl (lv_at hl 0 rfl) ?_
      obtain ⟨z12, e_z12, h⟩ := bnd h
      refine mui (cc_X5_208 ga S hK hN hP hD e_z12 hl.1 (Nat.le_of_ble_eq_true rfl) ⟨Nat.le_of_ble_eq_true rfl, Nat.le_of_ble_eq_true rfl⟩ dX5_readsOrder_32 ⟨Nat.le_of_ble_eq_true rfl, Nat.le_of_ble_eq_true rfl⟩) hS hD (va_free hD hS hA [0, 1, 2, 3, 4] rfl) (fun H locs hP hD hS => ?_)
      have hP : va_P G vwCl (wM cI ga z12.2) H := hP
      have hD : va_D A (wM cI ga z12.2) := hD
      refine lv_if_eq (tgt := 58) hx hb dX5_readsOrder_35 (by decide) (fun c13 => ?_) (fun c13 => ?_)
      · have h := (if_pos c13).symm.trans h
        refine lv_iconst (v := 0) hx hb dX5_readsOrder_58 (by decide) ?_
        exact retMz hQ S hr hlocks rfl hK hN hP hD hS h dX5_readsOrder_59
      · have h := (if_neg c13).symm.trans h
        refine lv_aload_n hx hb dX5_readsOrder_38 rfl (lv_at hl 0 rfl) ?_
        refine lv_bipush (v := 58) hx hb dX5_readsOrder_39 (by decide) ?_
        obtain ⟨z14, e_z14, h⟩ := bnd h
        refine mui (cc_X5_201 ga S hK hN hP hD e_z14 hl.1 (Nat.le_of_ble_eq_true rfl) ⟨Nat.le_of_ble_eq_true rfl, Nat.le_of_ble_eq_true rfl⟩ dX5_readsOrder_41 ⟨Nat.le_of_ble_eq_true rfl, Nat.le_of_ble_eq_true rfl⟩) hS hD (va_free hD hS hA [0, 1, 2, 3, 4] rfl) (fun H locs hP hD hS => ?_)
        have hP : va_P G vwCl (wM cI ga z14.2) H := hP
        have hD : va_D A (wM cI ga z14.2) := hD
        refine lv_if_eq (tgt := 58) hx hb dX5_readsOrder_44 (by decide) (fun c15 => ?_) (fun c15 => ?_)
        · have h := (if_pos c15).symm.trans h
          refine lv_iconst (v := 0) hx hb dX5_readsOrder_58 (by decide) ?_
          exact retMz hQ S hr hlocks rfl hK hN hP hD hS h dX5_readsOrder_59
        · have h := (if_neg c15).symm.trans h
          refine lv_aload_n hx hb dX5_readsOrder_47 rfl (lv_at hl 0 rfl) ?_
          obtain ⟨z16, e_z16, h⟩ := bnd h
          refine mui (cc_X5_204 ga S hK hN hP hD e_z16 hl.1 (Nat.le_of_ble_eq_true rfl) ⟨Nat.le_of_ble_eq_true rfl, Nat.le_of_ble_eq_true rfl⟩ dX5_readsOrder_48 ⟨Nat.le_of_ble_eq_true rfl, Nat.le_of_ble_eq_true rfl⟩) hS hD (va_free hD hS hA [0, 1, 2, 3, 4] rfl) (fun H locs hP hD hS => ?_)
          have hP : va_P G vwCl (wM cI ga z16.2) H := hP
          have hD : va_D A (wM cI ga z16.2) := hD
          refine lv_if_eq (tgt := 58) hx hb dX5_readsOrder_51 (by decide) (fun c17 => ?_) (fun c17 => ?_)
          · have h := (if_pos c17).symm.trans h
            refine lv_iconst (v := 0) hx hb dX5_readsOrder_58 (by decide) ?_
            exact retMz hQ S hr hlocks rfl hK hN hP hD hS h dX5_readsOrder_59
          · have h := (if_neg c17).symm.trans h
            refine lv_iconst (v := 1) hx hb dX5_readsOrder_54 (by decide) ?_
            refine lv_goto (tgt := 59) hx hb dX5_readsOrder_55 (by decide) ?_
            exact retMz hQ S hr hlocks rfl hK hN hP hD hS h dX5_readsOrder_59
  · have h := (if_neg c3).symm.trans h
    refine lv_aload_n hx hb dX5_readsOrder_17 rfl (lv_at hl 0 rfl) ?_
    obtain ⟨z18, e_z18, h⟩ := bnd h
    refine mui (cc_X5_204 ga S hK hN hP hD e_z18 hl.1 (Nat.le_of_ble_eq_true rfl) ⟨Nat.le_of_ble_eq_true rfl, Nat.le_of_ble_eq_true rfl⟩ dX5_readsOrder_18 ⟨Nat.le_of_ble_eq_true rfl, Nat.le_of_ble_eq_true rfl⟩) hS hD (va_free hD hS hA [0, 1, 2, 3, 4] rfl) (fun H locs hP hD hS => ?_)
    have hP : va_P G vwCl (wM cI ga z18.2) H := hP
    have hD : va_D A (wM cI ga z18.2) := hD
    obtain ⟨z19, e_z19, h⟩ := bnd h
    obtain ⟨q_z19, k_z19⟩ := zO_in e_z19
    rw [← q_z19] at h
    exact retMz hQ S hr hlocks (by rcases k_z19 with q | q <;> rw [q] <;> rfl) hK hN hP hD hS h dX5_readsOrder_21

theorem cc_X5_211 {p : Program} {l : Launch} {e : Env} {R : Room} {s : State} {m : MethodId} {args : Array Value} {below : List Frame} {meth : Method} {c : Code} {H : Heap} {locs : List Loc} {cells slots : Nat} {cc : ByteArray} {pc nL : Nat} {ls : Array Slot} {rest : List Value} {G : va_G} {A : Nat → Prop} (ga : Nat → Nat) {cI cS : ClassId} {u : TM}  {r : Int32 × TM} (S : CallFix p m c cc nL s args bw RX5) (hK : va_K G vwCl (tysW cI cS) s) (hN : NW s) (hP : va_P G vwCl (wM cI ga u) H) (hD : va_D A (wM cI ga u)) (hf : fX5_readsOrder u = some r) (hsz : ls.size = nL) (hst : (rest.map fun v => v.category).sum ≤ 8) (hR : rmX5_readsOrder.frames + 1 ≤ R.frames ∧ 8 + (1 + 11) + rmX5_readsOrder.locals ≤ R.locals) (hdg : decode cc pc = .ok (.invokevirtual 211, 3)) (hcs : cells + 0 ≤ R.cells ∧ slots + 0 ≤ R.slots) : va_Run p l e R s m args below meth c H locs cells slots 0 0 (F0 m pc ls (.ref (ga 0) :: rest)) rest (va_Qi (fun r' u' => (r', u') = r) (PoM G (tysW cI cS) (va_A (wM cI ga u) H.size) (wM cI ga)) (va_A (wM cI ga u) H.size) (#[.ref (ga 0)] : Array Value)) (va_A (wM cI ga u) H.size) :=
  va_runV (As := []) (rest := rest) S (kX5_readsOrder l G cI cS ga H.size u r hf) (cwV 0 S.2.2.2.2 (gdV q_622 q_623 q_624 q_392 q_621) rfl rfl rfl (by decide +kernel) hR) (pvM (q := (RX5, TX5, 12)) hK hN hP hD (ci := 5) (q0 := 0) rfl rfl) rfl rfl hsz rfl (lv_room hst) hdg hcs
def fX5_isComplete_s5 (u : TM) : Option ((TM) ⊕ (Nat × (TM))) := ((fX5_readsOrder u).bind fun z1 => (if z1.1 = 0 then some (.inr (2, z1.2)) else (if z1.2.1.2.2.2.2.1 = z1.2.1.2.2.1 then some (.inr (0, z1.2)) else ((fX5_takes z1.2 (59 : Int32)).bind fun z4 => (if z4.1 = 0 then some (.inr (1, z4.2)) else some (.inl z4.2))))))
def fX5_isComplete (u : TM) : Option (Int32 × TM) := ((itr (fun a : TM => fX5_isComplete_s5 a) FU ((u.1.1, u.1.2.1, u.1.2.2.1, u.1.2.2.2.1, (0 : Int32), u.1.2.2.2.2.2), u.2)).bind fun b6 => (if b6.1 = 0 then some ((1 : Int32), b6.2) else (if b6.1 = 1 then some ((0 : Int32), b6.2) else some ((0 : Int32), b6.2))))
abbrev rmX5_isComplete : Room := { frames := 3, cells := 0, slots := 0, locals := 64 }
set_option maxRecDepth 100000 in
set_option maxHeartbeats 4000000 in
theorem kX5_isComplete (l : Launch) (G : va_G) (cI cS : ClassId) (ga : Nat → Nat) (sz : Nat) (u : TM) (r : Int32 × TM) (hf : fX5_isComplete u = some r) : Met l yX5_isComplete (.code yX5_isComplete cX5_isComplete 1 (some .boolean) :: bw) rmX5_isComplete (va_Pc [.ref (ga 0)] (PreM G (tysW cI cS) (wM cI ga u) sz)) (va_Qi (fun r' u' => (r', u') = r) (PoM G (tysW cI cS) (va_A (wM cI ga u) sz) (wM cI ga)) (va_A (wM cI ga u) sz)) 0 0 (va_A (wM cI ga u) sz) := by
  refine enterM (own := RX5) (by decide) rfl (Nat.le_of_ble_eq_true rfl) ?_
  intro p e s m args below meth c A Q hAe hQ S hr hlocks hP hK hN hD hA hS ls hl
  rw [hAe] at hQ
  have hx := S.1; have hb := S.2.1; have hml := S.2.2.1; have hown := S.2.2.2.1; have hq := S.2.2.2.2
  have hl : lv_has ls 1 [(0, .ref (ga 0))] := hl
  have h := hf
  unfold fX5_isComplete at h
  have L5 : ∀ (n9 : Nat) (a9 : TM) (b9 : Nat × (TM)), itr (fun a : TM => fX5_isComplete_s5 a) n9 a9 = some b9 → (fun b : Nat × (TM) => (b.1 = 0 → ∀ (H : Heap) (locs : List Loc), va_P G vwCl (wM cI ga b.2) H → va_D A (wM cI ga b.2) → va_S A s.heap H locs → ∀ ls : Array Slot, lv_has ls 1 [] → W p l e rmX5_isComplete s m args below meth c H locs 0 0 Q (F0 m 23 ls [])) ∧ (¬ b.1 = 0 → b.1 = 1 → ∀ (H : Heap) (locs : List Loc), va_P G vwCl (wM cI ga b.2) H → va_D A (wM cI ga b.2) → va_S A s.heap H locs → ∀ ls : Array Slot, lv_has ls 1 [] → W p l e rmX5_isComplete s m args below meth c H locs 0 0 Q (F0 m 34 ls [])) ∧ (¬ b.1 = 0 → ¬ b.1 = 1 → ∀ (H : Heap) (locs : List Loc), va_P G vwCl (wM cI ga b.2) H → va_D A (wM cI ga b.2) → va_S A s.heap H locs → ∀ ls : Array Slot, lv_has ls 1 [] → W p l e rmX5_isComplete s m args below meth c H locs 0 0 Q (F0 m 36 ls []))) b9 → (fun a : TM => ∀ (H : Heap) (locs : List Loc), va_P G vwCl (wM cI ga a) H → va_D A (wM cI ga a) → va_S A s.heap H locs → ∀ ls : Array Slot, lv_has ls 1 [(0, .ref (ga 0))] → W p l e rmX5_isComplete s m args below meth c H locs 0 0 Q (F0 m 5 ls [])) a9 := by
    refine itr_ind (Inv := (fun a : TM => ∀ (H : Heap) (locs : List Loc), va_P G vwCl (wM cI ga a) H → va_D A (wM cI ga a) → va_S A s.heap H locs → ∀ ls : Array Slot, lv_has ls 1 [(0, .ref (ga 0))] → W p l e rmX5_isComplete s m args below meth c H locs 0 0 Q (F0 m 5 ls []))) (Ex := (fun b : Nat × (TM) => (b.1 = 0 → ∀ (H : Heap) (locs : List Loc), va_P G vwCl (wM cI ga b.2) H → va_D A (wM cI ga b.2) → va_S A s.heap H locs → ∀ ls : Array Slot, lv_has ls 1 [] → W p l e rmX5_isComplete s m args below meth c H locs 0 0 Q (F0 m 23 ls [])) ∧ (¬ b.1 = 0 → b.1 = 1 → ∀ (H : Heap) (locs : List Loc), va_P G vwCl (wM cI ga b.2) H → va_D A (wM cI ga b.2) → va_S A s.heap H locs → ∀ ls : Array Slot, lv_has ls 1 [] → W p l e rmX5_isComplete s m args below meth c H locs 0 0 Q (F0 m 34 ls [])) ∧ (¬ b.1 = 0 → ¬ b.1 = 1 → ∀ (H : Heap) (locs : List Loc), va_P G vwCl (wM cI ga b.2) H → va_D A (wM cI ga b.2) → va_S A s.heap H locs → ∀ ls : Array Slot, lv_has ls 1 [] → W p l e rmX5_isComplete s m args below meth c H locs 0 0 Q (F0 m 36 ls [])))) ?_
    intro u z h hI hE
    have h : fX5_isComplete_s5 u = some z := h
    unfold fX5_isComplete_s5 at h
    show ∀ (H : Heap) (locs : List Loc), va_P G vwCl (wM cI ga u) H → va_D A (wM cI ga u) → va_S A s.heap H locs → ∀ ls : Array Slot, lv_has ls 1 [(0, .ref (ga 0))] → W p l e rmX5_isComplete s m args below meth c H locs 0 0 Q (F0 m 5 ls [])
    intro H locs hP hD hS ls hl
    refine lv_aload_n hx hb dX5_isComplete_5 rfl (lv_at hl 0 rfl) ?_
    obtain ⟨z1, e_z1, h⟩ := bnd h
    refine mui (cc_X5_211 ga S hK hN hP hD e_z1 hl.1 (Nat.le_of_ble_eq_true rfl) ⟨Nat.le_of_ble_eq_true rfl, Nat.le_of_ble_eq_true rfl⟩ dX5_isComplete_6 ⟨Nat.le_of_ble_eq_true rfl, Nat.le_of_ble_eq_true rfl⟩) hS hD (va_free hD hS hA [0, 1, 2, 3, 4] rfl) (fun H locs hP hD hS => ?_)
    have hP : va_P G vwCl (wM cI ga z1.2) H := hP
    have hD : va_D A (wM cI ga z1.2) := hD
    refine lv_if_eq (tgt := 36) hx hb dX5_isComplete_9 (by decide) (fun c2 => ?_) (fun c2 => ?_)
    · have h := (if_pos c2).symm.trans h
      exact (hE _ (Option.some.inj h)).2.2 (fun q => nomatch q) (fun q => nomatch q) _ _ hP hD hS _ (lv_sub hl [] rfl)
    · have h := (if_neg c2).symm.trans h
      refine lv_aload_n hx hb dX5_isComplete_12 rfl (lv_at hl 0 rfl) ?_
      refine gf_X5_189 S hK hN hP 0 rfl (v := .int z1.2.1.2.2.2.2.1) rfl dX5_isComplete_13 ?_
      refine lv_aload_n hx hb dX5_isComplete_16 rfl (lv_at hl 0 rfl) ?_
      refine gf_X5_143 S hK hN hP 0 rfl (v := .int z1.2.1.2.2.1) rfl dX5_isComplete_17 ?_
      refine lv_icmp_ne (tgt := 25) hx hb dX5_isComplete_20 (by decide) (fun c3 => ?_) (fun c3 => ?_)
      · have h := (if_neg c3).symm.trans h
        refine lv_aload_n hx hb dX5_isComplete_25 rfl (lv_at hl 0 rfl) ?_
        refine lv_bipush (v := 59) hx hb dX5_isComplete_26 (by decide) ?_
        obtain ⟨z4, e_z4, h⟩ := bnd h
        refine mui (cc_X5_201 ga S hK hN hP hD e_z4 hl.1 (Nat.le_of_ble_eq_true rfl) ⟨Nat.le_of_ble_eq_true rfl, Nat.le_of_ble_eq_true rfl⟩ dX5_isComplete_28 ⟨Nat.le_of_ble_eq_true rfl, Nat.le_of_ble_eq_true rfl⟩) hS hD (va_free hD hS hA [0, 1, 2, 3, 4] rfl) (fun H locs hP hD hS => ?_)
        have hP : va_P G vwCl (wM cI ga z4.2) H := hP
        have hD : va_D A (wM cI ga z4.2) := hD
        refine lv_if_ne (tgt := 5) hx hb dX5_isComplete_31 (by decide) (fun c5 => ?_) (fun c5 => ?_)
        · have h := (if_neg c5).symm.trans h
          exact hI _ (Option.some.inj h) _ _ hP hD hS _ (lv_sub hl [0] rfl)
        · have h := (if_pos c5).symm.trans h
          exact (hE _ (Option.some.inj h)).2.1 (fun q => nomatch q) rfl _ _ hP hD hS _ (lv_sub hl [] rfl)
      · have h := (if_pos c3).symm.trans h
        exact (hE _ (Option.some.inj h)).1 rfl _ _ hP hD hS _ (lv_sub hl [] rfl)
  refine lv_aload_n hx hb dX5_isComplete_0 rfl (lv_at hl 0 rfl) ?_
  refine lv_iconst (v := 0) hx hb dX5_isComplete_1 (by decide) ?_
  refine pf_X5_189 S hK hN hP hD hS 0 rfl (Nat.le_of_ble_eq_true rfl) dX5_isComplete_2 (fun H locs hP hD hS => ?_)
  have hP : va_P G vwCl (wM cI ga ((u.1.1, u.1.2.1, u.1.2.2.1, u.1.2.2.2.1, (0 : Int32), u.1.2.2.2.2.2), u.2)) H := hP
  have hD : va_D A (wM cI ga ((u.1.1, u.1.2.1, u.1.2.2.1, u.1.2.2.2.1, (0 : Int32), u.1.2.2.2.2.2), u.2)) := hD
  obtain ⟨b6, e_b6, h⟩ := bnd h
  refine L5 _ _ _ e_b6 ⟨?_, ?_, ?_⟩ _ _ hP hD hS _ (lv_sub hl [0] rfl)
  · skip
    intro c7
    have h := (if_pos c7).symm.trans h
    intro H locs hP hD hS ls hl
    refine lv_iconst (v := 1) hx hb dX5_isComplete_23 (by decide) ?_
    exact retMz hQ S hr hlocks rfl hK hN hP hD hS h dX5_isComplete_24
  · intro c8
    have h := (if_neg c8).symm.trans h
    intro c9
    have h := (if_pos c9).symm.trans h
    intro H locs hP hD hS ls hl
    refine lv_iconst (v := 0) hx hb dX5_isComplete_34 (by decide) ?_
    exact retMz hQ S hr hlocks rfl hK hN hP hD hS h dX5_isComplete_35
  · intro c10 c11
    have h := (if_neg c10).symm.trans h
    have h := (if_neg c11).symm.trans h
    intro H locs hP hD hS ls hl
    refine lv_iconst (v := 0) hx hb dX5_isComplete_36 (by decide) ?_
    exact retMz hQ S hr hlocks rfl hK hN hP hD hS h dX5_isComplete_37

theorem cc_X5_214 {p : Program} {l : Launch} {e : Env} {R : Room} {s : State} {m : MethodId} {args : Array Value} {below : List Frame} {meth : Method} {c : Code} {H : Heap} {locs : List Loc} {cells slots : Nat} {cc : ByteArray} {pc nL : Nat} {ls : Array Slot} {rest : List Value} {G : va_G} {A : Nat → Prop} (ga : Nat → Nat) {cI cS : ClassId} {u : TM}  {r : Int32 × TM} (S : CallFix p m c cc nL s args bw RX5) (hK : va_K G vwCl (tysW cI cS) s) (hN : NW s) (hP : va_P G vwCl (wM cI ga u) H) (hD : va_D A (wM cI ga u)) (hf : fX5_isComplete u = some r) (hsz : ls.size = nL) (hst : (rest.map fun v => v.category).sum ≤ 8) (hR : rmX5_isComplete.frames + 1 ≤ R.frames ∧ 8 + (1 + 11) + rmX5_isComplete.locals ≤ R.locals) (hdg : decode cc pc = .ok (.invokevirtual 214, 3)) (hcs : cells + 0 ≤ R.cells ∧ slots + 0 ≤ R.slots) : va_Run p l e R s m args below meth c H locs cells slots 0 0 (F0 m pc ls (.ref (ga 0) :: rest)) rest (va_Qi (fun r' u' => (r', u') = r) (PoM G (tysW cI cS) (va_A (wM cI ga u) H.size) (wM cI ga)) (va_A (wM cI ga u) H.size) (#[.ref (ga 0)] : Array Value)) (va_A (wM cI ga u) H.size) :=
  va_runV (As := []) (rest := rest) S (kX5_isComplete l G cI cS ga H.size u r hf) (cwV 0 S.2.2.2.2 (gdV q_626 q_627 q_628 q_392 q_625) rfl rfl rfl (by decide +kernel) hR) (pvM (q := (RX5, TX5, 12)) hK hN hP hD (ci := 5) (q0 := 0) rfl rfl) rfl rfl hsz rfl (lv_room hst) hdg hcs
def fX5_firstError (u : TM) : Option (Int32 × TM) := ((fX5_isComplete (((0 : Int32), u.1.2), u.2)).bind fun z1 => some (z1.2.1.2.2.2.2.1, z1.2))
abbrev rmX5_firstError : Room := { frames := 4, cells := 0, slots := 0, locals := 84 }
set_option maxRecDepth 100000 in
set_option maxHeartbeats 4000000 in
theorem kX5_firstError (l : Launch) (G : va_G) (cI cS : ClassId) (ga : Nat → Nat) (sz : Nat) (u : TM) (r : Int32 × TM) (hf : fX5_firstError u = some r) : Met l yX5_firstError (.code yX5_firstError cX5_firstError 1 (some .int) :: bw) rmX5_firstError (va_Pc [.ref (ga 0)] (PreM G (tysW cI cS) (wM cI ga u) sz)) (va_Qi (fun r' u' => (r', u') = r) (PoM G (tysW cI cS) (va_A (wM cI ga u) sz) (wM cI ga)) (va_A (wM cI ga u) sz)) 0 0 (va_A (wM cI ga u) sz) := by
  refine enterM (own := RX5) (by decide) rfl (Nat.le_of_ble_eq_true rfl) ?_
  intro p e s m args below meth c A Q hAe hQ S hr hlocks hP hK hN hD hA hS ls hl
  rw [hAe] at hQ
  have hx := S.1; have hb := S.2.1; have hml := S.2.2.1; have hown := S.2.2.2.1; have hq := S.2.2.2.2
  have hl : lv_has ls 1 [(0, .ref (ga 0))] := hl
  have h := hf
  unfold fX5_firstError at h
  refine lv_aload_n hx hb dX5_firstError_0 rfl (lv_at hl 0 rfl) ?_
  refine lv_iconst (v := 0) hx hb dX5_firstError_1 (by decide) ?_
  refine pf_X5_22 S hK hN hP hD hS 0 rfl (Nat.le_of_ble_eq_true rfl) dX5_firstError_2 (fun H locs hP hD hS => ?_)
  have hP : va_P G vwCl (wM cI ga (((0 : Int32), u.1.2), u.2)) H := hP
  have hD : va_D A (wM cI ga (((0 : Int32), u.1.2), u.2)) := hD
  refine lv_aload_n hx hb dX5_firstError_5 rfl (lv_at hl 0 rfl) ?_
  obtain ⟨z1, e_z1, h⟩ := bnd h
  refine mui (cc_X5_214 ga S hK hN hP hD e_z1 hl.1 (Nat.le_of_ble_eq_true rfl) ⟨Nat.le_of_ble_eq_true rfl, Nat.le_of_ble_eq_true rfl⟩ dX5_firstError_6 ⟨Nat.le_of_ble_eq_true rfl, Nat.le_of_ble_eq_true rfl⟩) hS hD (va_free hD hS hA [0, 1, 2, 3, 4] rfl) (fun H locs hP hD hS => ?_)
  have hP : va_P G vwCl (wM cI ga z1.2) H := hP
  have hD : va_D A (wM cI ga z1.2) := hD
  refine lv_pop hx hb dX5_firstError_9 rfl ?_
  refine lv_aload_n hx hb dX5_firstError_10 rfl (lv_at hl 0 rfl) ?_
  refine gf_X5_189 S hK hN hP 0 rfl (v := .int z1.2.1.2.2.2.2.1) rfl dX5_firstError_11 ?_
  exact retMi hQ S hr hlocks hK hN hP hD hS h dX5_firstError_14

theorem gf_X5_198 {p : Program} {l : Launch} {e : Env} {R : Room} {s : State} {m : MethodId} {args : Array Value} {below : List Frame} {meth : Method} {c : Code} {H : Heap} {locs : List Loc} {cells slots : Nat} {cc : ByteArray} {pc nL : Nat} {ls : Array Slot} {rest : List Value} {G : va_G} {Q : State → Prop} {tys : List (ClassId × FieldType)} {ws : va_W} {a : Nat} (S : CallFix p m c cc nL s args bw RX5) (hK : va_K G vwCl tys s) (hN : NW s) (hP : va_P G vwCl ws H) (q0 : Nat) {fs : List Value} (he : ws[q0]? = some (a, .inr (5, fs))) {v : Value} (hv : fs[9]? = some v) (hdg : decode cc pc = .ok (.getfield 198, 3)) (kk : W p l e R s m args below meth c H locs cells slots Q (F0 m (pc + 3) ls (v :: rest))) : W p l e R s m args below meth c H locs cells slots Q (F0 m pc ls (.ref a :: rest)) :=
  va_get (C := RX5) (T := TX5) (N := 12) S.1 S.2.1 S.2.2.2.2 bi_U5 S.2.2.2.1 hK hP q0 he rfl 9 (by decide) (S.2.2.2.2 _ q_611) (fun _ h9 => h9) hv hdg kk
def fX5_can (u : TM) : Option (Int32) := (if u.1.2.2.2.2.2.1 = (43 : Int32) then ((fX5_homeSize u.1.2.2.2.1).bind fun z8 => ((fX5_pageFor u z8 ((-1) : Int32) ((-1) : Int32)).bind fun z9 => (if z9 = ((-1) : Int32) then some (0 : Int32) else some (1 : Int32)))) else (if u.1.2.2.2.2.2.1 = (94 : Int32) then some (1 : Int32) else ((fX5_isIdentifier u u.1.2.2.2.2.2.2.1).bind fun z3 => (if z3 = 0 then some (0 : Int32) else (if u.1.2.2.2.2.2.1 = (45 : Int32) then some (1 : Int32) else ((fX5_way u u.1.2.2.2.2.2.2.1 u.1.2.2.2.1).bind fun z6 => (if z6 = ((-1) : Int32) then some (0 : Int32) else some (1 : Int32))))))))
abbrev rmX5_can : Room := { frames := 7, cells := 0, slots := 0, locals := 159 }
set_option maxRecDepth 100000 in
set_option maxHeartbeats 4000000 in
theorem kX5_can (l : Launch) (G : va_G) (cI cS : ClassId) (ga : Nat → Nat) (u : TM) (r : Int32) (hf : fX5_can u = some r) : Met l yX5_can (.code yX5_can cX5_can 1 (some .boolean) :: bw) rmX5_can (va_Pc [.ref (ga 0)] (PreR G (tysW cI cS) (wM cI ga u))) (vp_Si (fun r' => r' = r)) 0 0 (fun _ => False) := by
  refine enterR (own := RX5) (by decide) rfl rfl (Nat.le_of_ble_eq_true rfl) ?_
  intro p e s m args below meth c Q hQ S hr hlocks hP hK hN ls hl
  have hx := S.1; have hb := S.2.1; have hml := S.2.2.1; have hown := S.2.2.2.1; have hq := S.2.2.2.2
  have hl : lv_has ls 1 [(0, .ref (ga 0))] := hl
  have h := hf
  unfold fX5_can at h
  refine lv_aload_n hx hb dX5_can_0 rfl (lv_at hl 0 rfl) ?_
  refine gf_X5_198 S hK hN hP 0 rfl (v := .int u.1.2.2.2.2.2.1) rfl dX5_can_1 ?_
  refine lv_bipush (v := 43) hx hb dX5_can_4 (by decide) ?_
  refine lv_icmp_ne (tgt := 32) hx hb dX5_can_6 (by decide) (fun c1 => ?_) (fun c1 => ?_)
  · have h := (if_neg c1).symm.trans h
    refine lv_aload_n hx hb dX5_can_32 rfl (lv_at hl 0 rfl) ?_
    refine gf_X5_198 S hK hN hP 0 rfl (v := .int u.1.2.2.2.2.2.1) rfl dX5_can_33 ?_
    refine lv_bipush (v := 94) hx hb dX5_can_36 (by decide) ?_
    refine lv_icmp_eq (tgt := 77) hx hb dX5_can_38 (by decide) (fun c2 => ?_) (fun c2 => ?_)
    · have h := (if_pos c2).symm.trans h
      refine lv_iconst (v := 1) hx hb dX5_can_77 (by decide) ?_
      refine lv_goto (tgt := 82) hx hb dX5_can_78 (by decide) ?_
      exact retRz hQ S hr hlocks rfl h dX5_can_82
    · have h := (if_neg c2).symm.trans h
      refine lv_aload_n hx hb dX5_can_41 rfl (lv_at hl 0 rfl) ?_
      refine lv_aload_n hx hb dX5_can_42 rfl (lv_at hl 0 rfl) ?_
      refine gf_X5_195 S hK hN hP 0 rfl (v := .int u.1.2.2.2.2.2.2.1) rfl dX5_can_43 ?_
      obtain ⟨z3, e_z3, h⟩ := bnd h
      refine roI (cc_X5_160 ga S hK hN hP e_z3 hl.1 (Nat.le_of_ble_eq_true rfl) ⟨Nat.le_of_ble_eq_true rfl, Nat.le_of_ble_eq_true rfl⟩ dX5_can_46 ⟨Nat.le_of_ble_eq_true rfl, Nat.le_of_ble_eq_true rfl⟩) ?_
      refine lv_if_eq (tgt := 81) hx hb dX5_can_49 (by decide) (fun c4 => ?_) (fun c4 => ?_)
      · have h := (if_pos c4).symm.trans h
        refine lv_iconst (v := 0) hx hb dX5_can_81 (by decide) ?_
        exact retRz hQ S hr hlocks rfl h dX5_can_82
      · have h := (if_neg c4).symm.trans h
        refine lv_aload_n hx hb dX5_can_52 rfl (lv_at hl 0 rfl) ?_
        refine gf_X5_198 S hK hN hP 0 rfl (v := .int u.1.2.2.2.2.2.1) rfl dX5_can_53 ?_
        refine lv_bipush (v := 45) hx hb dX5_can_56 (by decide) ?_
        refine lv_icmp_eq (tgt := 77) hx hb dX5_can_58 (by decide) (fun c5 => ?_) (fun c5 => ?_)
        · have h := (if_pos c5).symm.trans h
          refine lv_iconst (v := 1) hx hb dX5_can_77 (by decide) ?_
          refine lv_goto (tgt := 82) hx hb dX5_can_78 (by decide) ?_
          exact retRz hQ S hr hlocks rfl h dX5_can_82
        · have h := (if_neg c5).symm.trans h
          refine lv_aload_n hx hb dX5_can_61 rfl (lv_at hl 0 rfl) ?_
          refine lv_aload_n hx hb dX5_can_62 rfl (lv_at hl 0 rfl) ?_
          refine gf_X5_195 S hK hN hP 0 rfl (v := .int u.1.2.2.2.2.2.2.1) rfl dX5_can_63 ?_
          refine lv_aload_n hx hb dX5_can_66 rfl (lv_at hl 0 rfl) ?_
          refine gf_X5_85 S hK hN hP 0 rfl (v := .int u.1.2.2.2.1) rfl dX5_can_67 ?_
          obtain ⟨z6, e_z6, h⟩ := bnd h
          refine roI (cc_X5_119 ga S hK hN hP e_z6 hl.1 (Nat.le_of_ble_eq_true rfl) ⟨Nat.le_of_ble_eq_true rfl, Nat.le_of_ble_eq_true rfl⟩ dX5_can_70 ⟨Nat.le_of_ble_eq_true rfl, Nat.le_of_ble_eq_true rfl⟩) ?_
          refine lv_iconst (v := (-1)) hx hb dX5_can_73 (by decide) ?_
          refine lv_icmp_eq (tgt := 81) hx hb dX5_can_74 (by decide) (fun c7 => ?_) (fun c7 => ?_)
          · have h := (if_pos c7).symm.trans h
            refine lv_iconst (v := 0) hx hb dX5_can_81 (by decide) ?_
            exact retRz hQ S hr hlocks rfl h dX5_can_82
          · have h := (if_neg c7).symm.trans h
            refine lv_iconst (v := 1) hx hb dX5_can_77 (by decide) ?_
            refine lv_goto (tgt := 82) hx hb dX5_can_78 (by decide) ?_
            exact retRz hQ S hr hlocks rfl h dX5_can_82
  · have h := (if_pos c1).symm.trans h
    refine lv_aload_n hx hb dX5_can_9 rfl (lv_at hl 0 rfl) ?_
    refine lv_aload_n hx hb dX5_can_10 rfl (lv_at hl 0 rfl) ?_
    refine gf_X5_85 S hK hN hP 0 rfl (v := .int u.1.2.2.2.1) rfl dX5_can_11 ?_
    obtain ⟨z8, e_z8, h⟩ := bnd h
    refine roI (cc_X5_91 S hK hN va_P0 e_z8 hl.1 (Nat.le_of_ble_eq_true rfl) ⟨Nat.le_of_ble_eq_true rfl, Nat.le_of_ble_eq_true rfl⟩ dX5_can_14 ⟨Nat.le_of_ble_eq_true rfl, Nat.le_of_ble_eq_true rfl⟩) ?_
    refine lv_iconst (v := (-1)) hx hb dX5_can_17 (by decide) ?_
    refine lv_iconst (v := (-1)) hx hb dX5_can_18 (by decide) ?_
    obtain ⟨z9, e_z9, h⟩ := bnd h
    refine roI (cc_X5_94 ga S hK hN hP e_z9 hl.1 (Nat.le_of_ble_eq_true rfl) ⟨Nat.le_of_ble_eq_true rfl, Nat.le_of_ble_eq_true rfl⟩ dX5_can_19 ⟨Nat.le_of_ble_eq_true rfl, Nat.le_of_ble_eq_true rfl⟩) ?_
    refine lv_iconst (v := (-1)) hx hb dX5_can_22 (by decide) ?_
    refine lv_icmp_eq (tgt := 30) hx hb dX5_can_23 (by decide) (fun c10 => ?_) (fun c10 => ?_)
    · have h := (if_pos c10).symm.trans h
      refine lv_iconst (v := 0) hx hb dX5_can_30 (by decide) ?_
      exact retRz hQ S hr hlocks rfl h dX5_can_31
    · have h := (if_neg c10).symm.trans h
      refine lv_iconst (v := 1) hx hb dX5_can_26 (by decide) ?_
      refine lv_goto (tgt := 31) hx hb dX5_can_27 (by decide) ?_
      exact retRz hQ S hr hlocks rfl h dX5_can_31

def fX5_does (u : TM) : Option (Int32 × TM) := (if u.1.2.2.2.2.2.1 = 43 then ((fX5_inserts u).bind fun z2 => some (z2.1, z2.2)) else (if u.1.2.2.2.2.2.1 = 45 then ((fX5_deletes u u.1.2.2.2.2.2.2.1).bind fun z4 => some (z4.1, z4.2)) else (if u.1.2.2.2.2.2.1 = 61 then ((fX5_updates u u.1.2.2.2.2.2.2.1).bind fun z6 => some (z6.1, z6.2)) else ((fX5_returnsAll u).bind fun z7 => some (z7.1, z7.2)))))
abbrev rmX5_does : Room := { frames := 8, cells := 0, slots := 0, locals := 183 }
set_option maxRecDepth 100000 in
set_option maxHeartbeats 4000000 in
theorem kX5_does (l : Launch) (G : va_G) (cI cS : ClassId) (ga : Nat → Nat) (sz : Nat) (u : TM) (r : Int32 × TM) (hf : fX5_does u = some r) : Met l yX5_does (.code yX5_does cX5_does 1 (some .int) :: bw) rmX5_does (va_Pc [.ref (ga 0)] (PreM G (tysW cI cS) (wM cI ga u) sz)) (va_Qi (fun r' u' => (r', u') = r) (PoM G (tysW cI cS) (va_A (wM cI ga u) sz) (wM cI ga)) (va_A (wM cI ga u) sz)) 0 0 (va_A (wM cI ga u) sz) := by
  refine enterM (own := RX5) (by decide) rfl (Nat.le_of_ble_eq_true rfl) ?_
  intro p e s m args below meth c A Q hAe hQ S hr hlocks hP hK hN hD hA hS ls hl
  rw [hAe] at hQ
  have hx := S.1; have hb := S.2.1; have hml := S.2.2.1; have hown := S.2.2.2.1; have hq := S.2.2.2.2
  have hl : lv_has ls 1 [(0, .ref (ga 0))] := hl
  have h := hf
  unfold fX5_does at h
  refine lv_aload_n hx hb dX5_does_0 rfl (lv_at hl 0 rfl) ?_
  refine gf_X5_198 S hK hN hP 0 rfl (v := .int u.1.2.2.2.2.2.1) rfl dX5_does_1 ?_
  by_cases c1 : u.1.2.2.2.2.2.1 = 43
  · have h := (if_pos c1).symm.trans h
    refine lv_lookup (off := 36) (tgt := 40) hx hb dX5_does_4 (by decide) (by rw [c1]; rfl) (by decide) ?_
    refine lv_aload_n hx hb dX5_does_40 rfl (lv_at hl 0 rfl) ?_
    obtain ⟨z2, e_z2, h⟩ := bnd h
    refine mui (cc_X5_156 ga S hK hN hP hD e_z2 hl.1 (Nat.le_of_ble_eq_true rfl) ⟨Nat.le_of_ble_eq_true rfl, Nat.le_of_ble_eq_true rfl⟩ dX5_does_41 ⟨Nat.le_of_ble_eq_true rfl, Nat.le_of_ble_eq_true rfl⟩) hS hD (va_free hD hS hA [0, 1, 2, 3, 4] rfl) (fun H locs hP hD hS => ?_)
    have hP : va_P G vwCl (wM cI ga z2.2) H := hP
    have hD : va_D A (wM cI ga z2.2) := hD
    exact retMi hQ S hr hlocks hK hN hP hD hS h dX5_does_44
  have h := (if_neg c1).symm.trans h
  by_cases c3 : u.1.2.2.2.2.2.1 = 45
  · have h := (if_pos c3).symm.trans h
    refine lv_lookup (off := 50) (tgt := 54) hx hb dX5_does_4 (by decide) (by rw [c3]; rfl) (by decide) ?_
    refine lv_aload_n hx hb dX5_does_54 rfl (lv_at hl 0 rfl) ?_
    refine lv_aload_n hx hb dX5_does_55 rfl (lv_at hl 0 rfl) ?_
    refine gf_X5_195 S hK hN hP 0 rfl (v := .int u.1.2.2.2.2.2.2.1) rfl dX5_does_56 ?_
    obtain ⟨z4, e_z4, h⟩ := bnd h
    refine mui (cc_X5_166 ga S hK hN hP hD e_z4 hl.1 (Nat.le_of_ble_eq_true rfl) ⟨Nat.le_of_ble_eq_true rfl, Nat.le_of_ble_eq_true rfl⟩ dX5_does_59 ⟨Nat.le_of_ble_eq_true rfl, Nat.le_of_ble_eq_true rfl⟩) hS hD (va_free hD hS hA [0, 1, 2, 3, 4] rfl) (fun H locs hP hD hS => ?_)
    have hP : va_P G vwCl (wM cI ga z4.2) H := hP
    have hD : va_D A (wM cI ga z4.2) := hD
    exact retMi hQ S hr hlocks hK hN hP hD hS h dX5_does_62
  have h := (if_neg c3).symm.trans h
  by_cases c5 : u.1.2.2.2.2.2.1 = 61
  · have h := (if_pos c5).symm.trans h
    refine lv_lookup (off := 41) (tgt := 45) hx hb dX5_does_4 (by decide) (by rw [c5]; rfl) (by decide) ?_
    refine lv_aload_n hx hb dX5_does_45 rfl (lv_at hl 0 rfl) ?_
    refine lv_aload_n hx hb dX5_does_46 rfl (lv_at hl 0 rfl) ?_
    refine gf_X5_195 S hK hN hP 0 rfl (v := .int u.1.2.2.2.2.2.2.1) rfl dX5_does_47 ?_
    obtain ⟨z6, e_z6, h⟩ := bnd h
    refine mui (cc_X5_163 ga S hK hN hP hD e_z6 hl.1 (Nat.le_of_ble_eq_true rfl) ⟨Nat.le_of_ble_eq_true rfl, Nat.le_of_ble_eq_true rfl⟩ dX5_does_50 ⟨Nat.le_of_ble_eq_true rfl, Nat.le_of_ble_eq_true rfl⟩) hS hD (va_free hD hS hA [0, 1, 2, 3, 4] rfl) (fun H locs hP hD hS => ?_)
    have hP : va_P G vwCl (wM cI ga z6.2) H := hP
    have hD : va_D A (wM cI ga z6.2) := hD
    exact retMi hQ S hr hlocks hK hN hP hD hS h dX5_does_53
  have h := (if_neg c5).symm.trans h
  refine lv_lookup (off := 59) (tgt := 63) hx hb dX5_does_4 (by decide) ((lv_osw c1 (by decide)).trans ((lv_osw c3 (by decide)).trans ((lv_osw c5 (by decide)).trans rfl))) (by decide) ?_
  refine lv_aload_n hx hb dX5_does_63 rfl (lv_at hl 0 rfl) ?_
  obtain ⟨z7, e_z7, h⟩ := bnd h
  refine mui (cc_X5_169 ga S hK hN hP hD e_z7 hl.1 (Nat.le_of_ble_eq_true rfl) ⟨Nat.le_of_ble_eq_true rfl, Nat.le_of_ble_eq_true rfl⟩ dX5_does_64 ⟨Nat.le_of_ble_eq_true rfl, Nat.le_of_ble_eq_true rfl⟩) hS hD (va_free hD hS hA [0, 1, 2, 3, 4] rfl) (fun H locs hP hD hS => ?_)
  have hP : va_P G vwCl (wM cI ga z7.2) H := hP
  have hD : va_D A (wM cI ga z7.2) := hD
  exact retMi hQ S hr hlocks hK hN hP hD hS h dX5_does_67

theorem cc_X5_217 {p : Program} {l : Launch} {e : Env} {R : Room} {s : State} {m : MethodId} {args : Array Value} {below : List Frame} {meth : Method} {c : Code} {H : Heap} {locs : List Loc} {cells slots : Nat} {cc : ByteArray} {pc nL : Nat} {ls : Array Slot} {rest : List Value} {G : va_G} (ga : Nat → Nat) {cI cS : ClassId} {u : TM}  {r : Int32} (S : CallFix p m c cc nL s args bw RX5) (hK : va_K G vwCl (tysW cI cS) s) (hN : NW s) (hP : va_P G vwCl (wM cI ga u) H) (hf : fX5_can u = some r) (hsz : ls.size = nL) (hst : (rest.map fun v => v.category).sum ≤ 8) (hR : rmX5_can.frames + 1 ≤ R.frames ∧ 8 + (1 + 11) + rmX5_can.locals ≤ R.locals) (hdg : decode cc pc = .ok (.invokevirtual 217, 3)) (hcs : cells + 0 ≤ R.cells ∧ slots + 0 ≤ R.slots) : va_Run p l e R s m args below meth c H locs cells slots 0 0 (F0 m pc ls (.ref (ga 0) :: rest)) rest (vp_Si (fun r' => r' = r) (#[.ref (ga 0)] : Array Value)) (fun _ => False) :=
  va_runV (As := []) (rest := rest) S (kX5_can l G cI cS ga u r hf) (cwV 0 S.2.2.2.2 (gdV q_632 q_633 q_634 q_392 q_630) rfl rfl rfl (by decide +kernel) hR) (pvR (q := (RX5, TX5, 12)) hK hN hP (ci := 5) (q0 := 0) rfl rfl) rfl rfl hsz rfl (lv_room hst) hdg hcs
theorem cc_X5_220 {p : Program} {l : Launch} {e : Env} {R : Room} {s : State} {m : MethodId} {args : Array Value} {below : List Frame} {meth : Method} {c : Code} {H : Heap} {locs : List Loc} {cells slots : Nat} {cc : ByteArray} {pc nL : Nat} {ls : Array Slot} {rest : List Value} {G : va_G} {A : Nat → Prop} (ga : Nat → Nat) {cI cS : ClassId} {u : TM}  {r : Int32 × TM} (S : CallFix p m c cc nL s args bw RX5) (hK : va_K G vwCl (tysW cI cS) s) (hN : NW s) (hP : va_P G vwCl (wM cI ga u) H) (hD : va_D A (wM cI ga u)) (hf : fX5_does u = some r) (hsz : ls.size = nL) (hst : (rest.map fun v => v.category).sum ≤ 8) (hR : rmX5_does.frames + 1 ≤ R.frames ∧ 8 + (1 + 11) + rmX5_does.locals ≤ R.locals) (hdg : decode cc pc = .ok (.invokevirtual 220, 3)) (hcs : cells + 0 ≤ R.cells ∧ slots + 0 ≤ R.slots) : va_Run p l e R s m args below meth c H locs cells slots 0 0 (F0 m pc ls (.ref (ga 0) :: rest)) rest (va_Qi (fun r' u' => (r', u') = r) (PoM G (tysW cI cS) (va_A (wM cI ga u) H.size) (wM cI ga)) (va_A (wM cI ga u) H.size) (#[.ref (ga 0)] : Array Value)) (va_A (wM cI ga u) H.size) :=
  va_runV (As := []) (rest := rest) S (kX5_does l G cI cS ga H.size u r hf) (cwV 0 S.2.2.2.2 (gdV q_635 q_636 q_637 q_392 q_631) rfl rfl rfl (by decide +kernel) hR) (pvM (q := (RX5, TX5, 12)) hK hN hP hD (ci := 5) (q0 := 0) rfl rfl) rfl rfl hsz rfl (lv_room hst) hdg hcs
def fX5_run_j71 (u : TM) (x1 : Int32) : Option (Int32 × TM) := some (x1, (u.1.1, u.1.2.1, (0 : Int32), u.1.2.2.2), u.2)
def fX5_run_j59 (u : TM) (t0 : Int32) (t1 : Int32) : Option ((TM × Int32) ⊕ (TM × Int32)) := ((fX5_takes u (59 : Int32)).bind fun z1 => some (.inl (z1.2, (t1 + t0))))
def fX5_run_s32 (u : TM) (x1 : Int32) : Option ((TM × Int32) ⊕ (TM × Int32)) := ((fX5_readsOrder u).bind fun z2 => (if z2.1 = 0 then some (.inr (z2.2, x1)) else ((fX5_can z2.2).bind fun z4 => (if z4 = 0 then some (.inr (z2.2, x1)) else ((fX5_does z2.2).bind fun z6 => (if z6.1 < 0 then fX5_run_j59 z6.2 (0 : Int32) x1 else fX5_run_j59 z6.2 (1 : Int32) x1))))))
def fX5_run_j13 (u : TM) (t0 : Int32) : Option (Int32 × TM) := ((fX5_holds u t0).bind fun z8 => (if z8.1 = 0 then some ((0 : Int32), z8.2) else ((fX5_save z8.2).bind fun z10 => ((itr (fun a : TM × Int32 => fX5_run_s32 a.1 a.2) FU (((z10.1.1, z10.1.2.1, z10.1.2.2.1, z10.1.2.2.2.1, (0 : Int32), z10.1.2.2.2.2.2), z10.2), (0 : Int32))).bind fun b11 => fX5_run_j71 b11.1 b11.2))))
def fX5_run (u : TM) : Option (Int32 × TM) := ((fX5_isComplete u).bind fun z12 => (if z12.1 = 0 then fX5_run_j13 z12.2 (1 : Int32) else fX5_run_j13 z12.2 (0 : Int32)))
abbrev rmX5_run : Room := { frames := 9, cells := 0, slots := 0, locals := 203 }
set_option maxRecDepth 100000 in
set_option maxHeartbeats 4000000 in
theorem kX5_run (l : Launch) (G : va_G) (cI cS : ClassId) (ga : Nat → Nat) (sz : Nat) (u : TM) (r : Int32 × TM) (hf : fX5_run u = some r) : Met l yX5_run (.code yX5_run cX5_run 2 (some .int) :: bw) rmX5_run (va_Pc [.ref (ga 0)] (PreM G (tysW cI cS) (wM cI ga u) sz)) (va_Qi (fun r' u' => (r', u') = r) (PoM G (tysW cI cS) (va_A (wM cI ga u) sz) (wM cI ga)) (va_A (wM cI ga u) sz)) 0 0 (va_A (wM cI ga u) sz) := by
  refine enterM (own := RX5) (by decide) rfl (Nat.le_of_ble_eq_true rfl) ?_
  intro p e s m args below meth c A Q hAe hQ S hr hlocks hP hK hN hD hA hS ls hl
  rw [hAe] at hQ
  have hx := S.1; have hb := S.2.1; have hml := S.2.2.1; have hown := S.2.2.2.1; have hq := S.2.2.2.2
  have hl : lv_has ls 2 [(0, .ref (ga 0))] := hl
  have h := hf
  unfold fX5_run at h
  have J71 : ∀ (u : TM) (x1 : Int32) , fX5_run_j71 u x1 = some r → ∀ (H : Heap) (locs : List Loc), va_P G vwCl (wM cI ga u) H → va_D A (wM cI ga u) → va_S A s.heap H locs → ∀ ls : Array Slot, lv_has ls 2 [(0, .ref (ga 0)), (1, .int x1)] → W p l e rmX5_run s m args below meth c H locs 0 0 Q (F0 m 71 ls []) := by
    intro u x1 h
    unfold fX5_run_j71 at h
    intro H locs hP hD hS ls hl
    refine lv_aload_n hx hb dX5_run_71 rfl (lv_at hl 0 rfl) ?_
    refine lv_iconst (v := 0) hx hb dX5_run_72 (by decide) ?_
    refine pf_X5_143 S hK hN hP hD hS 0 rfl (Nat.le_of_ble_eq_true rfl) dX5_run_73 (fun H locs hP hD hS => ?_)
    have hP : va_P G vwCl (wM cI ga ((u.1.1, u.1.2.1, (0 : Int32), u.1.2.2.2), u.2)) H := hP
    have hD : va_D A (wM cI ga ((u.1.1, u.1.2.1, (0 : Int32), u.1.2.2.2), u.2)) := hD
    refine lv_iload_n hx hb dX5_run_76 rfl (lv_at hl 1 rfl) ?_
    exact retMi hQ S hr hlocks hK hN hP hD hS h dX5_run_77
  have L32 : ∀ (n9 : Nat) (a9 : TM × Int32) (b9 : TM × Int32), itr (fun a : TM × Int32 => fX5_run_s32 a.1 a.2) n9 a9 = some b9 → (fun b : TM × Int32 => ∀ (H : Heap) (locs : List Loc), va_P G vwCl (wM cI ga b.1) H → va_D A (wM cI ga b.1) → va_S A s.heap H locs → ∀ ls : Array Slot, lv_has ls 2 [(0, .ref (ga 0)), (1, .int b.2)] → W p l e rmX5_run s m args below meth c H locs 0 0 Q (F0 m 71 ls [])) b9 → (fun a : TM × Int32 => ∀ (H : Heap) (locs : List Loc), va_P G vwCl (wM cI ga a.1) H → va_D A (wM cI ga a.1) → va_S A s.heap H locs → ∀ ls : Array Slot, lv_has ls 2 [(0, .ref (ga 0)), (1, .int a.2)] → W p l e rmX5_run s m args below meth c H locs 0 0 Q (F0 m 32 ls [])) a9 := by
    refine itr_ind (Inv := (fun a : TM × Int32 => ∀ (H : Heap) (locs : List Loc), va_P G vwCl (wM cI ga a.1) H → va_D A (wM cI ga a.1) → va_S A s.heap H locs → ∀ ls : Array Slot, lv_has ls 2 [(0, .ref (ga 0)), (1, .int a.2)] → W p l e rmX5_run s m args below meth c H locs 0 0 Q (F0 m 32 ls []))) (Ex := (fun b : TM × Int32 => ∀ (H : Heap) (locs : List Loc), va_P G vwCl (wM cI ga b.1) H → va_D A (wM cI ga b.1) → va_S A s.heap H locs → ∀ ls : Array Slot, lv_has ls 2 [(0, .ref (ga 0)), (1, .int b.2)] → W p l e rmX5_run s m args below meth c H locs 0 0 Q (F0 m 71 ls []))) ?_
    rintro ⟨u, x1⟩ z h hI hE
    have h : fX5_run_s32 u x1 = some z := h
    unfold fX5_run_s32 at h
    show ∀ (H : Heap) (locs : List Loc), va_P G vwCl (wM cI ga u) H → va_D A (wM cI ga u) → va_S A s.heap H locs → ∀ ls : Array Slot, lv_has ls 2 [(0, .ref (ga 0)), (1, .int x1)] → W p l e rmX5_run s m args below meth c H locs 0 0 Q (F0 m 32 ls [])
    have J59 : ∀ (u : TM) (t0 : Int32) (t1 : Int32) , fX5_run_j59 u t0 t1 = some z → ∀ (H : Heap) (locs : List Loc), va_P G vwCl (wM cI ga u) H → va_D A (wM cI ga u) → va_S A s.heap H locs → ∀ ls : Array Slot, lv_has ls 2 [(0, .ref (ga 0))] → W p l e rmX5_run s m args below meth c H locs 0 0 Q (F0 m 59 ls [.int t0, .int t1]) := by
      intro u t0 t1 h
      unfold fX5_run_j59 at h
      intro H locs hP hD hS ls hl
      refine lv_iadd hx hb dX5_run_59 ?_
      refine lv_istore_n (lv' := [(1, .int (t1 + t0)), (0, .ref (ga 0))]) hx hb dX5_run_60 rfl hl (by decide) rfl (fun ls hl => ?_)
      refine lv_aload_n hx hb dX5_run_61 rfl (lv_at hl 1 rfl) ?_
      refine lv_bipush (v := 59) hx hb dX5_run_62 (by decide) ?_
      obtain ⟨z1, e_z1, h⟩ := bnd h
      refine mui (cc_X5_201 ga S hK hN hP hD e_z1 hl.1 (Nat.le_of_ble_eq_true rfl) ⟨Nat.le_of_ble_eq_true rfl, Nat.le_of_ble_eq_true rfl⟩ dX5_run_64 ⟨Nat.le_of_ble_eq_true rfl, Nat.le_of_ble_eq_true rfl⟩) hS hD (va_free hD hS hA [0, 1, 2, 3, 4] rfl) (fun H locs hP hD hS => ?_)
      have hP : va_P G vwCl (wM cI ga z1.2) H := hP
      have hD : va_D A (wM cI ga z1.2) := hD
      refine lv_pop hx hb dX5_run_67 rfl ?_
      refine lv_goto (tgt := 32) hx hb dX5_run_68 (by decide) ?_
      exact hI _ (Option.some.inj h) _ _ hP hD hS _ (lv_sub hl [1, 0] rfl)
    intro H locs hP hD hS ls hl
    refine lv_aload_n hx hb dX5_run_32 rfl (lv_at hl 0 rfl) ?_
    obtain ⟨z2, e_z2, h⟩ := bnd h
    refine mui (cc_X5_211 ga S hK hN hP hD e_z2 hl.1 (Nat.le_of_ble_eq_true rfl) ⟨Nat.le_of_ble_eq_true rfl, Nat.le_of_ble_eq_true rfl⟩ dX5_run_33 ⟨Nat.le_of_ble_eq_true rfl, Nat.le_of_ble_eq_true rfl⟩) hS hD (va_free hD hS hA [0, 1, 2, 3, 4] rfl) (fun H locs hP hD hS => ?_)
    have hP : va_P G vwCl (wM cI ga z2.2) H := hP
    have hD : va_D A (wM cI ga z2.2) := hD
    refine lv_if_eq (tgt := 71) hx hb dX5_run_36 (by decide) (fun c3 => ?_) (fun c3 => ?_)
    · have h := (if_pos c3).symm.trans h
      exact hE _ (Option.some.inj h) _ _ hP hD hS _ (lv_sub hl [0, 1] rfl)
    · have h := (if_neg c3).symm.trans h
      refine lv_aload_n hx hb dX5_run_39 rfl (lv_at hl 0 rfl) ?_
      obtain ⟨z4, e_z4, h⟩ := bnd h
      refine roI (cc_X5_217 ga S hK hN hP e_z4 hl.1 (Nat.le_of_ble_eq_true rfl) ⟨Nat.le_of_ble_eq_true rfl, Nat.le_of_ble_eq_true rfl⟩ dX5_run_40 ⟨Nat.le_of_ble_eq_true rfl, Nat.le_of_ble_eq_true rfl⟩) ?_
      refine lv_if_eq (tgt := 71) hx hb dX5_run_43 (by decide) (fun c5 => ?_) (fun c5 => ?_)
      · have h := (if_pos c5).symm.trans h
        exact hE _ (Option.some.inj h) _ _ hP hD hS _ (lv_sub hl [0, 1] rfl)
      · have h := (if_neg c5).symm.trans h
        refine lv_iload_n hx hb dX5_run_46 rfl (lv_at hl 1 rfl) ?_
        refine lv_aload_n hx hb dX5_run_47 rfl (lv_at hl 0 rfl) ?_
        obtain ⟨z6, e_z6, h⟩ := bnd h
        refine mui (cc_X5_220 ga S hK hN hP hD e_z6 hl.1 (Nat.le_of_ble_eq_true rfl) ⟨Nat.le_of_ble_eq_true rfl, Nat.le_of_ble_eq_true rfl⟩ dX5_run_48 ⟨Nat.le_of_ble_eq_true rfl, Nat.le_of_ble_eq_true rfl⟩) hS hD (va_free hD hS hA [0, 1, 2, 3, 4] rfl) (fun H locs hP hD hS => ?_)
        have hP : va_P G vwCl (wM cI ga z6.2) H := hP
        have hD : va_D A (wM cI ga z6.2) := hD
        refine lv_if_lt (tgt := 58) hx hb dX5_run_51 (by decide) (fun c7 => ?_) (fun c7 => ?_)
        · have h := (if_pos c7).symm.trans h
          refine lv_iconst (v := 0) hx hb dX5_run_58 (by decide) ?_
          exact J59 z6.2 (0 : Int32) x1 h _ _ hP hD hS _ (lv_sub hl [0] rfl)
        · have h := (if_neg c7).symm.trans h
          refine lv_iconst (v := 1) hx hb dX5_run_54 (by decide) ?_
          refine lv_goto (tgt := 59) hx hb dX5_run_55 (by decide) ?_
          exact J59 z6.2 (1 : Int32) x1 h _ _ hP hD hS _ (lv_sub hl [0] rfl)
  have J13 : ∀ (u : TM) (t0 : Int32) , fX5_run_j13 u t0 = some r → ∀ (H : Heap) (locs : List Loc), va_P G vwCl (wM cI ga u) H → va_D A (wM cI ga u) → va_S A s.heap H locs → ∀ ls : Array Slot, lv_has ls 2 [(0, .ref (ga 0))] → W p l e rmX5_run s m args below meth c H locs 0 0 Q (F0 m 13 ls [.int t0, .ref (ga 0)]) := by
    intro u t0 h
    unfold fX5_run_j13 at h
    intro H locs hP hD hS ls hl
    obtain ⟨z8, e_z8, h⟩ := bnd h
    refine mui (cc_X5_146 ga S hK hN hP hD e_z8 hl.1 (Nat.le_of_ble_eq_true rfl) ⟨Nat.le_of_ble_eq_true rfl, Nat.le_of_ble_eq_true rfl⟩ dX5_run_13 ⟨Nat.le_of_ble_eq_true rfl, Nat.le_of_ble_eq_true rfl⟩) hS hD (va_free hD hS hA [0, 1, 2, 3, 4] rfl) (fun H locs hP hD hS => ?_)
    have hP : va_P G vwCl (wM cI ga z8.2) H := hP
    have hD : va_D A (wM cI ga z8.2) := hD
    refine lv_if_ne (tgt := 21) hx hb dX5_run_16 (by decide) (fun c9 => ?_) (fun c9 => ?_)
    · have h := (if_neg c9).symm.trans h
      refine lv_aload_n hx hb dX5_run_21 rfl (lv_at hl 0 rfl) ?_
      obtain ⟨z10, e_z10, h⟩ := bnd h
      refine muv (cc_X5_150 ga S hK hN hP hD e_z10 hl.1 (Nat.le_of_ble_eq_true rfl) ⟨Nat.le_of_ble_eq_true rfl, Nat.le_of_ble_eq_true rfl⟩ dX5_run_22 ⟨Nat.le_of_ble_eq_true rfl, Nat.le_of_ble_eq_true rfl⟩) hS hD (va_free hD hS hA [0, 1, 2, 3, 4] rfl) (fun H locs hP hD hS => ?_)
      have hP : va_P G vwCl (wM cI ga z10) H := hP
      have hD : va_D A (wM cI ga z10) := hD
      refine lv_aload_n hx hb dX5_run_25 rfl (lv_at hl 0 rfl) ?_
      refine lv_iconst (v := 0) hx hb dX5_run_26 (by decide) ?_
      refine pf_X5_189 S hK hN hP hD hS 0 rfl (Nat.le_of_ble_eq_true rfl) dX5_run_27 (fun H locs hP hD hS => ?_)
      have hP : va_P G vwCl (wM cI ga ((z10.1.1, z10.1.2.1, z10.1.2.2.1, z10.1.2.2.2.1, (0 : Int32), z10.1.2.2.2.2.2), z10.2)) H := hP
      have hD : va_D A (wM cI ga ((z10.1.1, z10.1.2.1, z10.1.2.2.1, z10.1.2.2.2.1, (0 : Int32), z10.1.2.2.2.2.2), z10.2)) := hD
      refine lv_iconst (v := 0) hx hb dX5_run_30 (by decide) ?_
      refine lv_istore_n (lv' := [(1, .int (0 : Int32)), (0, .ref (ga 0))]) hx hb dX5_run_31 rfl hl (by decide) rfl (fun ls hl => ?_)
      obtain ⟨b11, e_b11, h⟩ := bnd h
      refine L32 _ _ _ e_b11 ?_ _ _ hP hD hS _ (lv_sub hl [1, 0] rfl)
      intro H locs hP hD hS ls hl
      exact J71 b11.1 b11.2 h _ _ hP hD hS _ (lv_sub hl [0, 1] rfl)
    · have h := (if_pos c9).symm.trans h
      refine lv_iconst (v := 0) hx hb dX5_run_19 (by decide) ?_
      exact retMi hQ S hr hlocks hK hN hP hD hS h dX5_run_20
  refine lv_aload_n hx hb dX5_run_0 rfl (lv_at hl 0 rfl) ?_
  refine lv_aload_n hx hb dX5_run_1 rfl (lv_at hl 0 rfl) ?_
  obtain ⟨z12, e_z12, h⟩ := bnd h
  refine mui (cc_X5_214 ga S hK hN hP hD e_z12 hl.1 (Nat.le_of_ble_eq_true rfl) ⟨Nat.le_of_ble_eq_true rfl, Nat.le_of_ble_eq_true rfl⟩ dX5_run_2 ⟨Nat.le_of_ble_eq_true rfl, Nat.le_of_ble_eq_true rfl⟩) hS hD (va_free hD hS hA [0, 1, 2, 3, 4] rfl) (fun H locs hP hD hS => ?_)
  have hP : va_P G vwCl (wM cI ga z12.2) H := hP
  have hD : va_D A (wM cI ga z12.2) := hD
  refine lv_if_eq (tgt := 12) hx hb dX5_run_5 (by decide) (fun c13 => ?_) (fun c13 => ?_)
  · have h := (if_pos c13).symm.trans h
    refine lv_iconst (v := 1) hx hb dX5_run_12 (by decide) ?_
    exact J13 z12.2 (1 : Int32) h _ _ hP hD hS _ (lv_sub hl [0] rfl)
  · have h := (if_neg c13).symm.trans h
    refine lv_iconst (v := 0) hx hb dX5_run_8 (by decide) ?_
    refine lv_goto (tgt := 13) hx hb dX5_run_9 (by decide) ?_
    exact J13 z12.2 (0 : Int32) h _ _ hP hD hS _ (lv_sub hl [0] rfl)

def fX5_undo_j13 (u : TM) (t0 : Int32) : Option (Int32 × TM) := ((fX5_holds u t0).bind fun z1 => (if z1.1 = 0 then some ((0 : Int32), z1.2) else ((fX5_copies z1.2 z1.2.1.2.1 (0 : Int32)).bind fun z3 => some ((z3.1.2.1 - (1 : Int32)), (z3.1.1, (z3.1.2.1 - (1 : Int32)), z3.1.2.2), z3.2))))
def fX5_undo (u : TM) : Option (Int32 × TM) := (if u.1.2.1 ≤ 0 then fX5_undo_j13 u (1 : Int32) else fX5_undo_j13 u (0 : Int32))
abbrev rmX5_undo : Room := { frames := 1, cells := 0, slots := 0, locals := 23 }
set_option maxRecDepth 100000 in
set_option maxHeartbeats 4000000 in
theorem kX5_undo (l : Launch) (G : va_G) (cI cS : ClassId) (ga : Nat → Nat) (sz : Nat) (u : TM) (r : Int32 × TM) (hf : fX5_undo u = some r) : Met l yX5_undo (.code yX5_undo cX5_undo 1 (some .int) :: bw) rmX5_undo (va_Pc [.ref (ga 0)] (PreM G (tysW cI cS) (wM cI ga u) sz)) (va_Qi (fun r' u' => (r', u') = r) (PoM G (tysW cI cS) (va_A (wM cI ga u) sz) (wM cI ga)) (va_A (wM cI ga u) sz)) 0 0 (va_A (wM cI ga u) sz) := by
  refine enterM (own := RX5) (by decide) rfl (Nat.le_of_ble_eq_true rfl) ?_
  intro p e s m args below meth c A Q hAe hQ S hr hlocks hP hK hN hD hA hS ls hl
  rw [hAe] at hQ
  have hx := S.1; have hb := S.2.1; have hml := S.2.2.1; have hown := S.2.2.2.1; have hq := S.2.2.2.2
  have hl : lv_has ls 1 [(0, .ref (ga 0))] := hl
  have h := hf
  unfold fX5_undo at h
  have J13 : ∀ (u : TM) (t0 : Int32) , fX5_undo_j13 u t0 = some r → ∀ (H : Heap) (locs : List Loc), va_P G vwCl (wM cI ga u) H → va_D A (wM cI ga u) → va_S A s.heap H locs → ∀ ls : Array Slot, lv_has ls 1 [(0, .ref (ga 0))] → W p l e rmX5_undo s m args below meth c H locs 0 0 Q (F0 m 13 ls [.int t0, .ref (ga 0)]) := by
    intro u t0 h
    unfold fX5_undo_j13 at h
    intro H locs hP hD hS ls hl
    obtain ⟨z1, e_z1, h⟩ := bnd h
    refine mui (cc_X5_146 ga S hK hN hP hD e_z1 hl.1 (Nat.le_of_ble_eq_true rfl) ⟨Nat.le_of_ble_eq_true rfl, Nat.le_of_ble_eq_true rfl⟩ dX5_undo_13 ⟨Nat.le_of_ble_eq_true rfl, Nat.le_of_ble_eq_true rfl⟩) hS hD (va_free hD hS hA [0, 1, 2, 3, 4] rfl) (fun H locs hP hD hS => ?_)
    have hP : va_P G vwCl (wM cI ga z1.2) H := hP
    have hD : va_D A (wM cI ga z1.2) := hD
    refine lv_if_ne (tgt := 21) hx hb dX5_undo_16 (by decide) (fun c2 => ?_) (fun c2 => ?_)
    · have h := (if_neg c2).symm.trans h
      refine lv_aload_n hx hb dX5_undo_21 rfl (lv_at hl 0 rfl) ?_
      refine lv_aload_n hx hb dX5_undo_22 rfl (lv_at hl 0 rfl) ?_
      refine gf_X5_137 S hK hN hP 0 rfl (v := .int z1.2.1.2.1) rfl dX5_undo_23 ?_
      refine lv_iconst (v := 0) hx hb dX5_undo_26 (by decide) ?_
      obtain ⟨z3, e_z3, h⟩ := bnd h
      refine muv (cc_X5_140 ga S hK hN hP hD e_z3 hl.1 (Nat.le_of_ble_eq_true rfl) ⟨Nat.le_of_ble_eq_true rfl, Nat.le_of_ble_eq_true rfl⟩ dX5_undo_27 ⟨Nat.le_of_ble_eq_true rfl, Nat.le_of_ble_eq_true rfl⟩) hS hD (va_free hD hS hA [0, 1, 2, 3, 4] rfl) (fun H locs hP hD hS => ?_)
      have hP : va_P G vwCl (wM cI ga z3) H := hP
      have hD : va_D A (wM cI ga z3) := hD
      refine lv_aload_n hx hb dX5_undo_30 rfl (lv_at hl 0 rfl) ?_
      refine lv_dup hx hb dX5_undo_31 rfl ?_
      refine gf_X5_137 S hK hN hP 0 rfl (v := .int z3.1.2.1) rfl dX5_undo_32 ?_
      refine lv_iconst (v := 1) hx hb dX5_undo_35 (by decide) ?_
      refine lv_isub hx hb dX5_undo_36 ?_
      refine pf_X5_137 S hK hN hP hD hS 0 rfl (Nat.le_of_ble_eq_true rfl) dX5_undo_37 (fun H locs hP hD hS => ?_)
      have hP : va_P G vwCl (wM cI ga ((z3.1.1, (z3.1.2.1 - (1 : Int32)), z3.1.2.2), z3.2)) H := hP
      have hD : va_D A (wM cI ga ((z3.1.1, (z3.1.2.1 - (1 : Int32)), z3.1.2.2), z3.2)) := hD
      refine lv_aload_n hx hb dX5_undo_40 rfl (lv_at hl 0 rfl) ?_
      refine gf_X5_137 S hK hN hP 0 rfl (v := .int (z3.1.2.1 - (1 : Int32))) rfl dX5_undo_41 ?_
      exact retMi hQ S hr hlocks hK hN hP hD hS h dX5_undo_44
    · have h := (if_pos c2).symm.trans h
      refine lv_iconst (v := 0) hx hb dX5_undo_19 (by decide) ?_
      exact retMi hQ S hr hlocks hK hN hP hD hS h dX5_undo_20
  refine lv_aload_n hx hb dX5_undo_0 rfl (lv_at hl 0 rfl) ?_
  refine lv_aload_n hx hb dX5_undo_1 rfl (lv_at hl 0 rfl) ?_
  refine gf_X5_137 S hK hN hP 0 rfl (v := .int u.1.2.1) rfl dX5_undo_2 ?_
  refine lv_if_le (tgt := 12) hx hb dX5_undo_5 (by decide) (fun c4 => ?_) (fun c4 => ?_)
  · have h := (if_pos c4).symm.trans h
    refine lv_iconst (v := 1) hx hb dX5_undo_12 (by decide) ?_
    exact J13 u (1 : Int32) h _ _ hP hD hS _ (lv_sub hl [0] rfl)
  · have h := (if_neg c4).symm.trans h
    refine lv_iconst (v := 0) hx hb dX5_undo_8 (by decide) ?_
    refine lv_goto (tgt := 13) hx hb dX5_undo_9 (by decide) ?_
    exact J13 u (0 : Int32) h _ _ hP hD hS _ (lv_sub hl [0] rfl)

def fX5_savedStates (u : TM) : Option (Int32 × TM) := some (u.1.2.1, ((0 : Int32), u.1.2), u.2)
abbrev rmX5_savedStates : Room := { frames := 0, cells := 0, slots := 0, locals := 0 }
set_option maxRecDepth 100000 in
set_option maxHeartbeats 4000000 in
theorem kX5_savedStates (l : Launch) (G : va_G) (cI cS : ClassId) (ga : Nat → Nat) (sz : Nat) (u : TM) (r : Int32 × TM) (hf : fX5_savedStates u = some r) : Met l yX5_savedStates (.code yX5_savedStates cX5_savedStates 1 (some .int) :: bw) rmX5_savedStates (va_Pc [.ref (ga 0)] (PreM G (tysW cI cS) (wM cI ga u) sz)) (va_Qi (fun r' u' => (r', u') = r) (PoM G (tysW cI cS) (va_A (wM cI ga u) sz) (wM cI ga)) (va_A (wM cI ga u) sz)) 0 0 (va_A (wM cI ga u) sz) := by
  refine enterM (own := RX5) (by decide) rfl (Nat.le_of_ble_eq_true rfl) ?_
  intro p e s m args below meth c A Q hAe hQ S hr hlocks hP hK hN hD hA hS ls hl
  rw [hAe] at hQ
  have hx := S.1; have hb := S.2.1; have hml := S.2.2.1; have hown := S.2.2.2.1; have hq := S.2.2.2.2
  have hl : lv_has ls 1 [(0, .ref (ga 0))] := hl
  have h := hf
  unfold fX5_savedStates at h
  refine lv_aload_n hx hb dX5_savedStates_0 rfl (lv_at hl 0 rfl) ?_
  refine lv_iconst (v := 0) hx hb dX5_savedStates_1 (by decide) ?_
  refine pf_X5_22 S hK hN hP hD hS 0 rfl (Nat.le_of_ble_eq_true rfl) dX5_savedStates_2 (fun H locs hP hD hS => ?_)
  have hP : va_P G vwCl (wM cI ga (((0 : Int32), u.1.2), u.2)) H := hP
  have hD : va_D A (wM cI ga (((0 : Int32), u.1.2), u.2)) := hD
  refine lv_aload_n hx hb dX5_savedStates_5 rfl (lv_at hl 0 rfl) ?_
  refine gf_X5_137 S hK hN hP 0 rfl (v := .int u.1.2.1) rfl dX5_savedStates_6 ?_
  exact retMi hQ S hr hlocks hK hN hP hD hS h dX5_savedStates_9

theorem gf_X5_225 {p : Program} {l : Launch} {e : Env} {R : Room} {s : State} {m : MethodId} {args : Array Value} {below : List Frame} {meth : Method} {c : Code} {H : Heap} {locs : List Loc} {cells slots : Nat} {cc : ByteArray} {pc nL : Nat} {ls : Array Slot} {rest : List Value} {G : va_G} {Q : State → Prop} {tys : List (ClassId × FieldType)} {ws : va_W} {a : Nat} (S : CallFix p m c cc nL s args bw RX5) (hK : va_K G vwCl tys s) (hN : NW s) (hP : va_P G vwCl ws H) (q0 : Nat) {fs : List Value} (he : ws[q0]? = some (a, .inr (5, fs))) {v : Value} (hv : fs[11]? = some v) (hdg : decode cc pc = .ok (.getfield 225, 3)) (kk : W p l e R s m args below meth c H locs cells slots Q (F0 m (pc + 3) ls (v :: rest))) : W p l e R s m args below meth c H locs cells slots Q (F0 m pc ls (.ref a :: rest)) :=
  va_get (C := RX5) (T := TX5) (N := 12) S.1 S.2.1 S.2.2.2.2 bi_U5 S.2.2.2.1 hK hP q0 he rfl 11 (by decide) (S.2.2.2.2 _ q_643) (fun _ h9 => h9) hv hdg kk
theorem pf_X5_225 {p : Program} {l : Launch} {e : Env} {R : Room} {s : State} {m : MethodId} {args : Array Value} {below : List Frame} {meth : Method} {c : Code} {H : Heap} {locs : List Loc} {cells slots : Nat} {cc : ByteArray} {pc nL : Nat} {ls : Array Slot} {rest : List Value} {G : va_G} {Q : State → Prop} {tys : List (ClassId × FieldType)} {ws : va_W} {a : Nat} {A : Nat → Prop} {H0 : Heap} {x : Int64} (S : CallFix p m c cc nL s args bw RX5) (hK : va_K G vwCl tys s) (hN : NW s) (hP : va_P G vwCl ws H) (hD : va_D A ws) (hS : va_S A H0 H locs) (q0 : Nat) {fs : List Value} (he : ws[q0]? = some (a, .inr (5, fs))) (hl : 11 < fs.length) (hdg : decode cc pc = .ok (.putfield 225, 3)) (kk : ∀ (H1 : Heap) (locs1 : List Loc), va_P G vwCl (ws.set q0 (a, .inr (5, fs.set 11 (.long x)))) H1 → va_D A (ws.set q0 (a, .inr (5, fs.set 11 (.long x)))) → va_S A H0 H1 locs1 → W p l e R s m args below meth c H1 locs1 cells slots Q (F0 m (pc + 3) ls rest)) : W p l e R s m args below meth c H locs cells slots Q (F0 m pc ls (.long x :: .ref a :: rest)) :=
  va_put (ty := .long) (v := .long x) (C := RX5) (T := TX5) (N := 12) S.1 S.2.1 S.2.2.2.2 bi_U5 tyX5 tyX5_ok nmX5 S.2.2.2.1 hK hP hD hS q0 he rfl 11 (by decide) (S.2.2.2.2 _ q_643) (fun _ h9 => h9) rfl rfl rfl rfl hl hdg kk
def fX5_mix (u : TM) (p0 : Int64) : Option (TM) := some ((u.1.1, u.1.2.1, u.1.2.2.1, u.1.2.2.2.1, u.1.2.2.2.2.1, u.1.2.2.2.2.2.1, u.1.2.2.2.2.2.2.1, (((31 : Int64) * u.1.2.2.2.2.2.2.2) + p0)), u.2)
abbrev rmX5_mix : Room := { frames := 0, cells := 0, slots := 0, locals := 0 }
set_option maxRecDepth 100000 in
set_option maxHeartbeats 4000000 in
theorem kX5_mix (l : Launch) (G : va_G) (cI cS : ClassId) (ga : Nat → Nat) (sz : Nat) (u : TM) (p0 : Int64) (r : TM) (hf : fX5_mix u p0 = some r) : Met l yX5_mix (.code yX5_mix cX5_mix 3 none :: bw) rmX5_mix (va_Pc [.ref (ga 0), .long p0] (PreM G (tysW cI cS) (wM cI ga u) sz)) (va_Qv (fun u' => u' = r) (PoM G (tysW cI cS) (va_A (wM cI ga u) sz) (wM cI ga)) (va_A (wM cI ga u) sz)) 0 0 (va_A (wM cI ga u) sz) := by
  refine enterM (own := RX5) (by decide) rfl (Nat.le_of_ble_eq_true rfl) ?_
  intro p e s m args below meth c A Q hAe hQ S hr hlocks hP hK hN hD hA hS ls hl
  rw [hAe] at hQ
  have hx := S.1; have hb := S.2.1; have hml := S.2.2.1; have hown := S.2.2.2.1; have hq := S.2.2.2.2
  have hl : lv_has ls 3 [(0, .ref (ga 0)), (1, .long p0)] := hl
  have h := hf
  unfold fX5_mix at h
  refine lv_aload_n hx hb dX5_mix_0 rfl (lv_at hl 0 rfl) ?_
  refine lv_ldc2 (v := 31) hx hb hown (hq _ q_642) dX5_mix_1 ?_
  refine lv_aload_n hx hb dX5_mix_4 rfl (lv_at hl 0 rfl) ?_
  refine gf_X5_225 S hK hN hP 0 rfl (v := .long u.1.2.2.2.2.2.2.2) rfl dX5_mix_5 ?_
  refine lv_lmul hx hb dX5_mix_8 ?_
  refine lv_lload_n hx hb dX5_mix_9 rfl (lv_at hl 1 rfl) ?_
  refine lv_ladd hx hb dX5_mix_10 ?_
  refine pf_X5_225 S hK hN hP hD hS 0 rfl (Nat.le_of_ble_eq_true rfl) dX5_mix_11 (fun H locs hP hD hS => ?_)
  have hP : va_P G vwCl (wM cI ga ((u.1.1, u.1.2.1, u.1.2.2.1, u.1.2.2.2.1, u.1.2.2.2.2.1, u.1.2.2.2.2.2.1, u.1.2.2.2.2.2.2.1, (((31 : Int64) * u.1.2.2.2.2.2.2.2) + p0)), u.2)) H := hP
  have hD : va_D A (wM cI ga ((u.1.1, u.1.2.1, u.1.2.2.1, u.1.2.2.2.1, u.1.2.2.2.2.1, u.1.2.2.2.2.2.1, u.1.2.2.2.2.2.2.1, (((31 : Int64) * u.1.2.2.2.2.2.2.2) + p0)), u.2)) := hD
  exact retMv hQ S hr hlocks hK hN hP hD hS h dX5_mix_14

def fX5_bits_s13 (x1 : UInt32) (x2 : Int32) : Option ((UInt32 × Int32) ⊕ (UInt32 × Int32)) := (if 0 ≤ (Op.cmpValue (FP.fcmp x1 FP.fconst1) .g) then some (.inr (x1, x2)) else ((nf32 (FP.fmul x1 FP.fconst2)).bind fun z2 => some (.inl (z2, (x2 + (-1))))))
def fX5_bits (p0 : UInt32) : Option (Int32) := (if (Op.cmpValue (FP.fcmp p0 FP.fconst0) .l) = 0 then some (0 : Int32) else ((itr (fun a : UInt32 × Int32 => fX5_bits_s13 a.1 a.2) FU (p0, (127 : Int32))).bind fun b4 => ((nf32 (FP.fsub b4.1 FP.fconst1)).bind fun z5 => ((nf32 (FP.fmul z5 (1258291200 : UInt32))).bind fun z6 => some ((b4.2 * (8388608 : Int32)) + (FP.f2i z6))))))
abbrev rmX5_bits : Room := { frames := 0, cells := 0, slots := 0, locals := 0 }
set_option maxRecDepth 100000 in
set_option maxHeartbeats 4000000 in
theorem kX5_bits (l : Launch) (G : va_G) (cI cS : ClassId) (p0 : UInt32) (r : Int32) (hf : fX5_bits p0 = some r) : Met l yX5_bits (.code yX5_bits cX5_bits 3 (some .int) :: bw) rmX5_bits (va_Pc [.float p0] (PreR G (tysW cI cS) wE)) (vp_Si (fun r' => r' = r)) 0 0 (fun _ => False) := by
  refine enterR (own := RX5) (by decide) rfl rfl (Nat.le_of_ble_eq_true rfl) ?_
  intro p e s m args below meth c Q hQ S hr hlocks hP hK hN ls hl
  have hx := S.1; have hb := S.2.1; have hml := S.2.2.1; have hown := S.2.2.2.1; have hq := S.2.2.2.2
  have hl : lv_has ls 3 [(0, .float p0)] := hl
  have h := hf
  unfold fX5_bits at h
  have L13 : ∀ (n9 : Nat) (a9 : UInt32 × Int32) (b9 : UInt32 × Int32), itr (fun a : UInt32 × Int32 => fX5_bits_s13 a.1 a.2) n9 a9 = some b9 → (fun b : UInt32 × Int32 => ∀ ls : Array Slot, lv_has ls 3 [(1, .float b.1), (2, .int b.2)] → W p l e rmX5_bits s m args below meth c s.heap [] 0 0 Q (F0 m 29 ls [])) b9 → (fun a : UInt32 × Int32 => ∀ ls : Array Slot, lv_has ls 3 [(1, .float a.1), (2, .int a.2)] → W p l e rmX5_bits s m args below meth c s.heap [] 0 0 Q (F0 m 13 ls [])) a9 := by
    refine itr_ind (Inv := (fun a : UInt32 × Int32 => ∀ ls : Array Slot, lv_has ls 3 [(1, .float a.1), (2, .int a.2)] → W p l e rmX5_bits s m args below meth c s.heap [] 0 0 Q (F0 m 13 ls []))) (Ex := (fun b : UInt32 × Int32 => ∀ ls : Array Slot, lv_has ls 3 [(1, .float b.1), (2, .int b.2)] → W p l e rmX5_bits s m args below meth c s.heap [] 0 0 Q (F0 m 29 ls []))) ?_
    rintro ⟨x1, x2⟩ z h hI hE
    have h : fX5_bits_s13 x1 x2 = some z := h
    unfold fX5_bits_s13 at h
    show ∀ ls : Array Slot, lv_has ls 3 [(1, .float x1), (2, .int x2)] → W p l e rmX5_bits s m args below meth c s.heap [] 0 0 Q (F0 m 13 ls [])
    intro ls hl
    refine lv_fload_n hx hb dX5_bits_13 rfl (lv_at hl 0 rfl) ?_
    refine lv_fconst1 hx hb dX5_bits_14 ?_
    refine lv_fcmp hx hb dX5_bits_15 ?_
    refine lv_if_ge (tgt := 29) hx hb dX5_bits_16 (by decide) (fun c1 => ?_) (fun c1 => ?_)
    · have h := (if_pos c1).symm.trans h
      exact hE _ (Option.some.inj h) _ (lv_sub hl [0, 1] rfl)
    · have h := (if_neg c1).symm.trans h
      refine lv_fload_n hx hb dX5_bits_19 rfl (lv_at hl 0 rfl) ?_
      refine lv_fconst2 hx hb dX5_bits_20 ?_
      obtain ⟨z2, e_z2, h⟩ := bnd h
      refine fmO hx hb e_z2 dX5_bits_21 ?_
      refine lv_fstore_n (lv' := [(1, .float z2), (2, .int x2)]) hx hb dX5_bits_22 rfl hl (by decide) rfl (fun ls hl => ?_)
      refine lv_iinc (v := (x2 + (-1))) (lv' := [(2, .int (x2 + (-1))), (1, .float z2)]) hx hb dX5_bits_23 hl (k := 1) rfl rfl (by decide) rfl (fun ls hl => ?_)
      refine lv_goto (tgt := 13) hx hb dX5_bits_26 (by decide) ?_
      exact hI _ (Option.some.inj h) _ (lv_sub hl [1, 0] rfl)
  refine lv_fload_n hx hb dX5_bits_0 rfl (lv_at hl 0 rfl) ?_
  refine lv_fconst0 hx hb dX5_bits_1 ?_
  refine lv_fcmp hx hb dX5_bits_2 ?_
  refine lv_if_ne (tgt := 8) hx hb dX5_bits_3 (by decide) (fun c3 => ?_) (fun c3 => ?_)
  · have h := (if_neg c3).symm.trans h
    refine lv_fload_n hx hb dX5_bits_8 rfl (lv_at hl 0 rfl) ?_
    refine lv_fstore_n (lv' := [(1, .float p0), (0, .float p0)]) hx hb dX5_bits_9 rfl hl (by decide) rfl (fun ls hl => ?_)
    refine lv_bipush (v := 127) hx hb dX5_bits_10 (by decide) ?_
    refine lv_istore_n (lv' := [(2, .int (127 : Int32)), (1, .float p0), (0, .float p0)]) hx hb dX5_bits_12 rfl hl (by decide) rfl (fun ls hl => ?_)
    obtain ⟨b4, e_b4, h⟩ := bnd h
    refine L13 _ _ _ e_b4 ?_ _ (lv_sub hl [1, 0] rfl)
    intro ls hl
    refine lv_iload_n hx hb dX5_bits_29 rfl (lv_at hl 1 rfl) ?_
    refine lv_ldc (v := 8388608) hx hb hown (hq _ q_645) dX5_bits_30 ?_
    refine lv_imul hx hb dX5_bits_32 ?_
    refine lv_fload_n hx hb dX5_bits_33 rfl (lv_at hl 0 rfl) ?_
    refine lv_fconst1 hx hb dX5_bits_34 ?_
    obtain ⟨z5, e_z5, h⟩ := bnd h
    refine fsO hx hb e_z5 dX5_bits_35 ?_
    refine lv_ldcf (v := 1258291200) hx hb hown (hq _ q_646) dX5_bits_36 ?_
    obtain ⟨z6, e_z6, h⟩ := bnd h
    refine fmO hx hb e_z6 dX5_bits_38 ?_
    refine lv_f2i hx hb dX5_bits_39 ?_
    refine lv_iadd hx hb dX5_bits_40 ?_
    exact retR hQ S hr hlocks h dX5_bits_41
  · have h := (if_pos c3).symm.trans h
    refine lv_iconst (v := 0) hx hb dX5_bits_6 (by decide) ?_
    exact retR hQ S hr hlocks h dX5_bits_7

theorem cc_X5_233 {p : Program} {l : Launch} {e : Env} {R : Room} {s : State} {m : MethodId} {args : Array Value} {below : List Frame} {meth : Method} {c : Code} {H : Heap} {locs : List Loc} {cells slots : Nat} {cc : ByteArray} {pc nL : Nat} {ls : Array Slot} {rest : List Value} {G : va_G} {A : Nat → Prop} (ga : Nat → Nat) {cI cS : ClassId} {u : TM}  {p0 : Int64} {r : TM} (S : CallFix p m c cc nL s args bw RX5) (hK : va_K G vwCl (tysW cI cS) s) (hN : NW s) (hP : va_P G vwCl (wM cI ga u) H) (hD : va_D A (wM cI ga u)) (hf : fX5_mix u p0 = some r) (hsz : ls.size = nL) (hst : (rest.map fun v => v.category).sum ≤ 8) (hR : rmX5_mix.frames + 1 ≤ R.frames ∧ 8 + (3 + 11) + rmX5_mix.locals ≤ R.locals) (hdg : decode cc pc = .ok (.invokevirtual 233, 3)) (hcs : cells + 0 ≤ R.cells ∧ slots + 0 ≤ R.slots) : va_Run p l e R s m args below meth c H locs cells slots 0 0 (F0 m pc ls (.long p0 :: .ref (ga 0) :: rest)) rest (va_Qv (fun u' => u' = r) (PoM G (tysW cI cS) (va_A (wM cI ga u) H.size) (wM cI ga)) (va_A (wM cI ga u) H.size) (#[.ref (ga 0), .long p0] : Array Value)) (va_A (wM cI ga u) H.size) :=
  va_runV (As := [.long p0]) (rest := rest) S (kX5_mix l G cI cS ga H.size u p0 r hf) (cwV 1 S.2.2.2.2 (gdV q_648 q_649 q_650 q_392 q_641) rfl rfl rfl (by decide +kernel) hR) (pvM (q := (RX5, TX5, 12)) hK hN hP hD (ci := 5) (q0 := 0) rfl rfl) rfl rfl hsz rfl (lv_room hst) hdg hcs
theorem cc_X5_237 {p : Program} {l : Launch} {e : Env} {R : Room} {s : State} {m : MethodId} {args : Array Value} {below : List Frame} {meth : Method} {c : Code} {H : Heap} {locs : List Loc} {cells slots : Nat} {cc : ByteArray} {pc nL : Nat} {ls : Array Slot} {rest : List Value} {G : va_G}  {cI cS : ClassId}  {p0 : UInt32} {r : Int32} (S : CallFix p m c cc nL s args bw RX5) (hK : va_K G vwCl (tysW cI cS) s) (hN : NW s) (hP : va_P G vwCl wE H) (hf : fX5_bits p0 = some r) (hsz : ls.size = nL) (hst : (rest.map fun v => v.category).sum ≤ 8) (hR : rmX5_bits.frames + 1 ≤ R.frames ∧ 8 + (3 + 11) + rmX5_bits.locals ≤ R.locals) (hdg : decode cc pc = .ok (.invokestatic 237, 3)) (hcs : cells + 0 ≤ R.cells ∧ slots + 0 ≤ R.slots) : va_Run p l e R s m args below meth c H locs cells slots 0 0 (F0 m pc ls (.float p0 :: rest)) rest (vp_Si (fun r' => r' = r) (#[.float p0] : Array Value)) (fun _ => False) :=
  va_runS (As := [.float p0]) (rest := rest) S (kX5_bits l G cI cS p0 r hf) (cwS 1 S.2.2.2.2 (gdS q_651 q_652 q_392 q_644) rfl rfl rfl (by decide +kernel) hR) (psR hK hN hP) rfl rfl hsz rfl (lv_room hst) hdg hcs
def fX5_digest_s112 (u : TM) (x1 : Int32) (x2 : Int32) : Option ((TM × Int32 × Int32) ⊕ (TM × Int32)) := (if (128 : Int32) ≤ x2 then some (.inr (u, x1)) else ((fX5_byteOfPage u x1 x2).bind fun z2 => ((fX5_mix u z2.toInt64).bind fun z3 => some (.inl (z3, x1, (x2 + 1))))))
def fX5_digest_s80 (u : TM) (x1 : Int32) : Option ((TM × Int32) ⊕ (TM)) := ((rd u.2.1 10724 (0 : Int32)).bind fun z4 => (if z4 ≤ x1 then some (.inr u) else ((fX5_freeOf u x1).bind fun z6 => ((fX5_mix u z6.toInt64).bind fun z7 => ((fX5_gapOf z7 x1).bind fun z8 => ((fX5_mix z7 z8.toInt64).bind fun z9 => ((itr (fun a : TM × Int32 × Int32 => fX5_digest_s112 a.1 a.2.1 a.2.2) FU (z9, x1, (0 : Int32))).bind fun b10 => some (.inl (b10.1, (b10.2 + 1))))))))))
def fX5_digest (u : TM) : Option (Int64 × TM) := ((rd u.2.1 10724 (0 : Int32)).bind fun z11 => ((fX5_mix (((0 : Int32), u.1.2.1, u.1.2.2.1, u.1.2.2.2.1, u.1.2.2.2.2.1, u.1.2.2.2.2.2.1, u.1.2.2.2.2.2.2.1, (4436 : Int64)), u.2) z11.toInt64).bind fun z12 => ((fX5_counted z12 (1 : Int32) (2 : Int32)).bind fun z13 => ((fX5_mix z12 z13.toInt64).bind fun z14 => ((fX5_counted z14 (2 : Int32) (2 : Int32)).bind fun z15 => ((fX5_mix z14 z15.toInt64).bind fun z16 => ((rd z16.2.1 10724 (1 : Int32)).bind fun z17 => ((fX5_mix z16 z17.toInt64).bind fun z18 => ((rd z18.2.1 10724 (2 : Int32)).bind fun z19 => ((fX5_mix z18 z19.toInt64).bind fun z20 => ((rd z20.2.1 10724 (3 : Int32)).bind fun z21 => ((fX5_mix z20 z21.toInt64).bind fun z22 => ((itr (fun a : TM × Int32 => fX5_digest_s80 a.1 a.2) FU (z22, (0 : Int32))).bind fun b23 => ((fX5_factor b23).bind fun z24 => ((nf32 (FP.d2f z24)).bind fun z25 => ((fX5_bits z25).bind fun z26 => ((fX5_mix b23 z26.toInt64).bind fun z27 => some (z27.1.2.2.2.2.2.2.2, z27))))))))))))))))))
abbrev rmX5_digest : Room := { frames := 4, cells := 0, slots := 0, locals := 92 }
set_option maxRecDepth 100000 in
set_option maxHeartbeats 4000000 in
theorem kX5_digest (l : Launch) (G : va_G) (cI cS : ClassId) (ga : Nat → Nat) (sz : Nat) (u : TM) (r : Int64 × TM) (hf : fX5_digest u = some r) : Met l yX5_digest (.code yX5_digest cX5_digest 3 (some .long) :: bw) rmX5_digest (va_Pc [.ref (ga 0)] (PreM G (tysW cI cS) (wM cI ga u) sz)) (va_Ql (fun r' u' => (r', u') = r) (PoM G (tysW cI cS) (va_A (wM cI ga u) sz) (wM cI ga)) (va_A (wM cI ga u) sz)) 0 0 (va_A (wM cI ga u) sz) := by
  refine enterM (own := RX5) (by decide) rfl (Nat.le_of_ble_eq_true rfl) ?_
  intro p e s m args below meth c A Q hAe hQ S hr hlocks hP hK hN hD hA hS ls hl
  rw [hAe] at hQ
  have hx := S.1; have hb := S.2.1; have hml := S.2.2.1; have hown := S.2.2.2.1; have hq := S.2.2.2.2
  have hl : lv_has ls 3 [(0, .ref (ga 0))] := hl
  have h := hf
  unfold fX5_digest at h
  have L80 : ∀ (n9 : Nat) (a9 : TM × Int32) (b9 : TM), itr (fun a : TM × Int32 => fX5_digest_s80 a.1 a.2) n9 a9 = some b9 → (fun b : TM => ∀ (H : Heap) (locs : List Loc), va_P G vwCl (wM cI ga b) H → va_D A (wM cI ga b) → va_S A s.heap H locs → ∀ ls : Array Slot, lv_has ls 3 [(0, .ref (ga 0))] → W p l e rmX5_digest s m args below meth c H locs 0 0 Q (F0 m 142 ls [])) b9 → (fun a : TM × Int32 => ∀ (H : Heap) (locs : List Loc), va_P G vwCl (wM cI ga a.1) H → va_D A (wM cI ga a.1) → va_S A s.heap H locs → ∀ ls : Array Slot, lv_has ls 3 [(0, .ref (ga 0)), (1, .int a.2)] → W p l e rmX5_digest s m args below meth c H locs 0 0 Q (F0 m 80 ls [])) a9 := by
    refine itr_ind (Inv := (fun a : TM × Int32 => ∀ (H : Heap) (locs : List Loc), va_P G vwCl (wM cI ga a.1) H → va_D A (wM cI ga a.1) → va_S A s.heap H locs → ∀ ls : Array Slot, lv_has ls 3 [(0, .ref (ga 0)), (1, .int a.2)] → W p l e rmX5_digest s m args below meth c H locs 0 0 Q (F0 m 80 ls []))) (Ex := (fun b : TM => ∀ (H : Heap) (locs : List Loc), va_P G vwCl (wM cI ga b) H → va_D A (wM cI ga b) → va_S A s.heap H locs → ∀ ls : Array Slot, lv_has ls 3 [(0, .ref (ga 0))] → W p l e rmX5_digest s m args below meth c H locs 0 0 Q (F0 m 142 ls []))) ?_
    rintro ⟨u, x1⟩ z h hI hE
    have h : fX5_digest_s80 u x1 = some z := h
    unfold fX5_digest_s80 at h
    show ∀ (H : Heap) (locs : List Loc), va_P G vwCl (wM cI ga u) H → va_D A (wM cI ga u) → va_S A s.heap H locs → ∀ ls : Array Slot, lv_has ls 3 [(0, .ref (ga 0)), (1, .int x1)] → W p l e rmX5_digest s m args below meth c H locs 0 0 Q (F0 m 80 ls [])
    have L112 : ∀ (n9 : Nat) (a9 : TM × Int32 × Int32) (b9 : TM × Int32), itr (fun a : TM × Int32 × Int32 => fX5_digest_s112 a.1 a.2.1 a.2.2) n9 a9 = some b9 → (fun b : TM × Int32 => ∀ (H : Heap) (locs : List Loc), va_P G vwCl (wM cI ga b.1) H → va_D A (wM cI ga b.1) → va_S A s.heap H locs → ∀ ls : Array Slot, lv_has ls 3 [(0, .ref (ga 0)), (1, .int b.2)] → W p l e rmX5_digest s m args below meth c H locs 0 0 Q (F0 m 136 ls [])) b9 → (fun a : TM × Int32 × Int32 => ∀ (H : Heap) (locs : List Loc), va_P G vwCl (wM cI ga a.1) H → va_D A (wM cI ga a.1) → va_S A s.heap H locs → ∀ ls : Array Slot, lv_has ls 3 [(0, .ref (ga 0)), (1, .int a.2.1), (2, .int a.2.2)] → W p l e rmX5_digest s m args below meth c H locs 0 0 Q (F0 m 112 ls [])) a9 := by
      refine itr_ind (Inv := (fun a : TM × Int32 × Int32 => ∀ (H : Heap) (locs : List Loc), va_P G vwCl (wM cI ga a.1) H → va_D A (wM cI ga a.1) → va_S A s.heap H locs → ∀ ls : Array Slot, lv_has ls 3 [(0, .ref (ga 0)), (1, .int a.2.1), (2, .int a.2.2)] → W p l e rmX5_digest s m args below meth c H locs 0 0 Q (F0 m 112 ls []))) (Ex := (fun b : TM × Int32 => ∀ (H : Heap) (locs : List Loc), va_P G vwCl (wM cI ga b.1) H → va_D A (wM cI ga b.1) → va_S A s.heap H locs → ∀ ls : Array Slot, lv_has ls 3 [(0, .ref (ga 0)), (1, .int b.2)] → W p l e rmX5_digest s m args below meth c H locs 0 0 Q (F0 m 136 ls []))) ?_
      rintro ⟨u, x1, x2⟩ z h hI hE
      have h : fX5_digest_s112 u x1 x2 = some z := h
      unfold fX5_digest_s112 at h
      show ∀ (H : Heap) (locs : List Loc), va_P G vwCl (wM cI ga u) H → va_D A (wM cI ga u) → va_S A s.heap H locs → ∀ ls : Array Slot, lv_has ls 3 [(0, .ref (ga 0)), (1, .int x1), (2, .int x2)] → W p l e rmX5_digest s m args below meth c H locs 0 0 Q (F0 m 112 ls [])
      intro H locs hP hD hS ls hl
      refine lv_iload_n hx hb dX5_digest_112 rfl (lv_at hl 2 rfl) ?_
      refine lv_sipush (v := 128) hx hb dX5_digest_113 (by decide) ?_
      refine lv_icmp_ge (tgt := 136) hx hb dX5_digest_116 (by decide) (fun c1 => ?_) (fun c1 => ?_)
      · have h := (if_pos c1).symm.trans h
        exact hE _ (Option.some.inj h) _ _ hP hD hS _ (lv_sub hl [0, 1] rfl)
      · have h := (if_neg c1).symm.trans h
        refine lv_aload_n hx hb dX5_digest_119 rfl (lv_at hl 0 rfl) ?_
        refine lv_aload_n hx hb dX5_digest_120 rfl (lv_at hl 0 rfl) ?_
        refine lv_iload_n hx hb dX5_digest_121 rfl (lv_at hl 1 rfl) ?_
        refine lv_iload_n hx hb dX5_digest_122 rfl (lv_at hl 2 rfl) ?_
        obtain ⟨z2, e_z2, h⟩ := bnd h
        refine roI (cc_X5_178 ga S hK hN hP e_z2 hl.1 (Nat.le_of_ble_eq_true rfl) ⟨Nat.le_of_ble_eq_true rfl, Nat.le_of_ble_eq_true rfl⟩ dX5_digest_123 ⟨Nat.le_of_ble_eq_true rfl, Nat.le_of_ble_eq_true rfl⟩) ?_
        refine lv_i2l hx hb dX5_digest_126 rfl ?_
        obtain ⟨z3, e_z3, h⟩ := bnd h
        refine muv (cc_X5_233 ga S hK hN hP hD e_z3 hl.1 (Nat.le_of_ble_eq_true rfl) ⟨Nat.le_of_ble_eq_true rfl, Nat.le_of_ble_eq_true rfl⟩ dX5_digest_127 ⟨Nat.le_of_ble_eq_true rfl, Nat.le_of_ble_eq_true rfl⟩) hS hD (va_free hD hS hA [0, 1, 2, 3, 4] rfl) (fun H locs hP hD hS => ?_)
        have hP : va_P G vwCl (wM cI ga z3) H := hP
        have hD : va_D A (wM cI ga z3) := hD
        refine lv_iinc (v := (x2 + 1)) (lv' := [(2, .int (x2 + 1)), (0, .ref (ga 0)), (1, .int x1)]) hx hb dX5_digest_130 hl (k := 2) rfl rfl (by decide) rfl (fun ls hl => ?_)
        refine lv_goto (tgt := 112) hx hb dX5_digest_133 (by decide) ?_
        exact hI _ (Option.some.inj h) _ _ hP hD hS _ (lv_sub hl [1, 2, 0] rfl)
    intro H locs hP hD hS ls hl
    refine lv_iload_n hx hb dX5_digest_80 rfl (lv_at hl 1 rfl) ?_
    refine lv_aload_n hx hb dX5_digest_81 rfl (lv_at hl 0 rfl) ?_
    refine gf_X5_7 S hK hN hP 0 rfl (v := .ref (ga 1)) rfl dX5_digest_82 ?_
    refine lv_iconst (v := 0) hx hb dX5_digest_85 (by decide) ?_
    obtain ⟨z4, e_z4, h⟩ := bnd h
    refine iaO (f := u.2.1) hx hb hK hP 1 0 rfl rfl e_z4 dX5_digest_86 ?_
    refine lv_icmp_ge (tgt := 142) hx hb dX5_digest_87 (by decide) (fun c5 => ?_) (fun c5 => ?_)
    · have h := (if_pos c5).symm.trans h
      exact hE _ (Option.some.inj h) _ _ hP hD hS _ (lv_sub hl [0] rfl)
    · have h := (if_neg c5).symm.trans h
      refine lv_aload_n hx hb dX5_digest_90 rfl (lv_at hl 0 rfl) ?_
      refine lv_aload_n hx hb dX5_digest_91 rfl (lv_at hl 0 rfl) ?_
      refine lv_iload_n hx hb dX5_digest_92 rfl (lv_at hl 1 rfl) ?_
      obtain ⟨z6, e_z6, h⟩ := bnd h
      refine roI (cc_X5_47 ga S hK hN hP e_z6 hl.1 (Nat.le_of_ble_eq_true rfl) ⟨Nat.le_of_ble_eq_true rfl, Nat.le_of_ble_eq_true rfl⟩ dX5_digest_93 ⟨Nat.le_of_ble_eq_true rfl, Nat.le_of_ble_eq_true rfl⟩) ?_
      refine lv_i2l hx hb dX5_digest_96 rfl ?_
      obtain ⟨z7, e_z7, h⟩ := bnd h
      refine muv (cc_X5_233 ga S hK hN hP hD e_z7 hl.1 (Nat.le_of_ble_eq_true rfl) ⟨Nat.le_of_ble_eq_true rfl, Nat.le_of_ble_eq_true rfl⟩ dX5_digest_97 ⟨Nat.le_of_ble_eq_true rfl, Nat.le_of_ble_eq_true rfl⟩) hS hD (va_free hD hS hA [0, 1, 2, 3, 4] rfl) (fun H locs hP hD hS => ?_)
      have hP : va_P G vwCl (wM cI ga z7) H := hP
      have hD : va_D A (wM cI ga z7) := hD
      refine lv_aload_n hx hb dX5_digest_100 rfl (lv_at hl 0 rfl) ?_
      refine lv_aload_n hx hb dX5_digest_101 rfl (lv_at hl 0 rfl) ?_
      refine lv_iload_n hx hb dX5_digest_102 rfl (lv_at hl 1 rfl) ?_
      obtain ⟨z8, e_z8, h⟩ := bnd h
      refine roI (cc_X5_62 ga S hK hN hP e_z8 hl.1 (Nat.le_of_ble_eq_true rfl) ⟨Nat.le_of_ble_eq_true rfl, Nat.le_of_ble_eq_true rfl⟩ dX5_digest_103 ⟨Nat.le_of_ble_eq_true rfl, Nat.le_of_ble_eq_true rfl⟩) ?_
      refine lv_i2l hx hb dX5_digest_106 rfl ?_
      obtain ⟨z9, e_z9, h⟩ := bnd h
      refine muv (cc_X5_233 ga S hK hN hP hD e_z9 hl.1 (Nat.le_of_ble_eq_true rfl) ⟨Nat.le_of_ble_eq_true rfl, Nat.le_of_ble_eq_true rfl⟩ dX5_digest_107 ⟨Nat.le_of_ble_eq_true rfl, Nat.le_of_ble_eq_true rfl⟩) hS hD (va_free hD hS hA [0, 1, 2, 3, 4] rfl) (fun H locs hP hD hS => ?_)
      have hP : va_P G vwCl (wM cI ga z9) H := hP
      have hD : va_D A (wM cI ga z9) := hD
      refine lv_iconst (v := 0) hx hb dX5_digest_110 (by decide) ?_
      refine lv_istore_n (lv' := [(2, .int (0 : Int32)), (0, .ref (ga 0)), (1, .int x1)]) hx hb dX5_digest_111 rfl hl (by decide) rfl (fun ls hl => ?_)
      obtain ⟨b10, e_b10, h⟩ := bnd h
      refine L112 _ _ _ e_b10 ?_ _ _ hP hD hS _ (lv_sub hl [1, 2, 0] rfl)
      intro H locs hP hD hS ls hl
      refine lv_iinc (v := (b10.2 + 1)) (lv' := [(1, .int (b10.2 + 1)), (0, .ref (ga 0))]) hx hb dX5_digest_136 hl (k := 1) rfl rfl (by decide) rfl (fun ls hl => ?_)
      refine lv_goto (tgt := 80) hx hb dX5_digest_139 (by decide) ?_
      exact hI _ (Option.some.inj h) _ _ hP hD hS _ (lv_sub hl [1, 0] rfl)
  refine lv_aload_n hx hb dX5_digest_0 rfl (lv_at hl 0 rfl) ?_
  refine lv_iconst (v := 0) hx hb dX5_digest_1 (by decide) ?_
  refine pf_X5_22 S hK hN hP hD hS 0 rfl (Nat.le_of_ble_eq_true rfl) dX5_digest_2 (fun H locs hP hD hS => ?_)
  have hP : va_P G vwCl (wM cI ga (((0 : Int32), u.1.2), u.2)) H := hP
  have hD : va_D A (wM cI ga (((0 : Int32), u.1.2), u.2)) := hD
  refine lv_aload_n hx hb dX5_digest_5 rfl (lv_at hl 0 rfl) ?_
  refine lv_ldc2 (v := 4436) hx hb hown (hq _ q_647) dX5_digest_6 ?_
  refine pf_X5_225 S hK hN hP hD hS 0 rfl (Nat.le_of_ble_eq_true rfl) dX5_digest_9 (fun H locs hP hD hS => ?_)
  have hP : va_P G vwCl (wM cI ga (((0 : Int32), u.1.2.1, u.1.2.2.1, u.1.2.2.2.1, u.1.2.2.2.2.1, u.1.2.2.2.2.2.1, u.1.2.2.2.2.2.2.1, (4436 : Int64)), u.2)) H := hP
  have hD : va_D A (wM cI ga (((0 : Int32), u.1.2.1, u.1.2.2.1, u.1.2.2.2.1, u.1.2.2.2.2.1, u.1.2.2.2.2.2.1, u.1.2.2.2.2.2.2.1, (4436 : Int64)), u.2)) := hD
  refine lv_aload_n hx hb dX5_digest_12 rfl (lv_at hl 0 rfl) ?_
  refine lv_aload_n hx hb dX5_digest_13 rfl (lv_at hl 0 rfl) ?_
  refine gf_X5_7 S hK hN hP 0 rfl (v := .ref (ga 1)) rfl dX5_digest_14 ?_
  refine lv_iconst (v := 0) hx hb dX5_digest_17 (by decide) ?_
  obtain ⟨z11, e_z11, h⟩ := bnd h
  refine iaO (f := u.2.1) hx hb hK hP 1 0 rfl rfl e_z11 dX5_digest_18 ?_
  refine lv_i2l hx hb dX5_digest_19 rfl ?_
  obtain ⟨z12, e_z12, h⟩ := bnd h
  refine muv (cc_X5_233 ga S hK hN hP hD e_z12 hl.1 (Nat.le_of_ble_eq_true rfl) ⟨Nat.le_of_ble_eq_true rfl, Nat.le_of_ble_eq_true rfl⟩ dX5_digest_20 ⟨Nat.le_of_ble_eq_true rfl, Nat.le_of_ble_eq_true rfl⟩) hS hD (va_free hD hS hA [0, 1, 2, 3, 4] rfl) (fun H locs hP hD hS => ?_)
  have hP : va_P G vwCl (wM cI ga z12) H := hP
  have hD : va_D A (wM cI ga z12) := hD
  refine lv_aload_n hx hb dX5_digest_23 rfl (lv_at hl 0 rfl) ?_
  refine lv_aload_n hx hb dX5_digest_24 rfl (lv_at hl 0 rfl) ?_
  refine lv_iconst (v := 1) hx hb dX5_digest_25 (by decide) ?_
  refine lv_iconst (v := 2) hx hb dX5_digest_26 (by decide) ?_
  obtain ⟨z13, e_z13, h⟩ := bnd h
  refine roI (cc_X5_175 ga S hK hN hP e_z13 hl.1 (Nat.le_of_ble_eq_true rfl) ⟨Nat.le_of_ble_eq_true rfl, Nat.le_of_ble_eq_true rfl⟩ dX5_digest_27 ⟨Nat.le_of_ble_eq_true rfl, Nat.le_of_ble_eq_true rfl⟩) ?_
  refine lv_i2l hx hb dX5_digest_30 rfl ?_
  obtain ⟨z14, e_z14, h⟩ := bnd h
  refine muv (cc_X5_233 ga S hK hN hP hD e_z14 hl.1 (Nat.le_of_ble_eq_true rfl) ⟨Nat.le_of_ble_eq_true rfl, Nat.le_of_ble_eq_true rfl⟩ dX5_digest_31 ⟨Nat.le_of_ble_eq_true rfl, Nat.le_of_ble_eq_true rfl⟩) hS hD (va_free hD hS hA [0, 1, 2, 3, 4] rfl) (fun H locs hP hD hS => ?_)
  have hP : va_P G vwCl (wM cI ga z14) H := hP
  have hD : va_D A (wM cI ga z14) := hD
  refine lv_aload_n hx hb dX5_digest_34 rfl (lv_at hl 0 rfl) ?_
  refine lv_aload_n hx hb dX5_digest_35 rfl (lv_at hl 0 rfl) ?_
  refine lv_iconst (v := 2) hx hb dX5_digest_36 (by decide) ?_
  refine lv_iconst (v := 2) hx hb dX5_digest_37 (by decide) ?_
  obtain ⟨z15, e_z15, h⟩ := bnd h
  refine roI (cc_X5_175 ga S hK hN hP e_z15 hl.1 (Nat.le_of_ble_eq_true rfl) ⟨Nat.le_of_ble_eq_true rfl, Nat.le_of_ble_eq_true rfl⟩ dX5_digest_38 ⟨Nat.le_of_ble_eq_true rfl, Nat.le_of_ble_eq_true rfl⟩) ?_
  refine lv_i2l hx hb dX5_digest_41 rfl ?_
  obtain ⟨z16, e_z16, h⟩ := bnd h
  refine muv (cc_X5_233 ga S hK hN hP hD e_z16 hl.1 (Nat.le_of_ble_eq_true rfl) ⟨Nat.le_of_ble_eq_true rfl, Nat.le_of_ble_eq_true rfl⟩ dX5_digest_42 ⟨Nat.le_of_ble_eq_true rfl, Nat.le_of_ble_eq_true rfl⟩) hS hD (va_free hD hS hA [0, 1, 2, 3, 4] rfl) (fun H locs hP hD hS => ?_)
  have hP : va_P G vwCl (wM cI ga z16) H := hP
  have hD : va_D A (wM cI ga z16) := hD
  refine lv_aload_n hx hb dX5_digest_45 rfl (lv_at hl 0 rfl) ?_
  refine lv_aload_n hx hb dX5_digest_46 rfl (lv_at hl 0 rfl) ?_
  refine gf_X5_7 S hK hN hP 0 rfl (v := .ref (ga 1)) rfl dX5_digest_47 ?_
  refine lv_iconst (v := 1) hx hb dX5_digest_50 (by decide) ?_
  obtain ⟨z17, e_z17, h⟩ := bnd h
  refine iaO (f := z16.2.1) hx hb hK hP 1 0 rfl rfl e_z17 dX5_digest_51 ?_
  refine lv_i2l hx hb dX5_digest_52 rfl ?_
  obtain ⟨z18, e_z18, h⟩ := bnd h
  refine muv (cc_X5_233 ga S hK hN hP hD e_z18 hl.1 (Nat.le_of_ble_eq_true rfl) ⟨Nat.le_of_ble_eq_true rfl, Nat.le_of_ble_eq_true rfl⟩ dX5_digest_53 ⟨Nat.le_of_ble_eq_true rfl, Nat.le_of_ble_eq_true rfl⟩) hS hD (va_free hD hS hA [0, 1, 2, 3, 4] rfl) (fun H locs hP hD hS => ?_)
  have hP : va_P G vwCl (wM cI ga z18) H := hP
  have hD : va_D A (wM cI ga z18) := hD
  refine lv_aload_n hx hb dX5_digest_56 rfl (lv_at hl 0 rfl) ?_
  refine lv_aload_n hx hb dX5_digest_57 rfl (lv_at hl 0 rfl) ?_
  refine gf_X5_7 S hK hN hP 0 rfl (v := .ref (ga 1)) rfl dX5_digest_58 ?_
  refine lv_iconst (v := 2) hx hb dX5_digest_61 (by decide) ?_
  obtain ⟨z19, e_z19, h⟩ := bnd h
  refine iaO (f := z18.2.1) hx hb hK hP 1 0 rfl rfl e_z19 dX5_digest_62 ?_
  refine lv_i2l hx hb dX5_digest_63 rfl ?_
  obtain ⟨z20, e_z20, h⟩ := bnd h
  refine muv (cc_X5_233 ga S hK hN hP hD e_z20 hl.1 (Nat.le_of_ble_eq_true rfl) ⟨Nat.le_of_ble_eq_true rfl, Nat.le_of_ble_eq_true rfl⟩ dX5_digest_64 ⟨Nat.le_of_ble_eq_true rfl, Nat.le_of_ble_eq_true rfl⟩) hS hD (va_free hD hS hA [0, 1, 2, 3, 4] rfl) (fun H locs hP hD hS => ?_)
  have hP : va_P G vwCl (wM cI ga z20) H := hP
  have hD : va_D A (wM cI ga z20) := hD
  refine lv_aload_n hx hb dX5_digest_67 rfl (lv_at hl 0 rfl) ?_
  refine lv_aload_n hx hb dX5_digest_68 rfl (lv_at hl 0 rfl) ?_
  refine gf_X5_7 S hK hN hP 0 rfl (v := .ref (ga 1)) rfl dX5_digest_69 ?_
  refine lv_iconst (v := 3) hx hb dX5_digest_72 (by decide) ?_
  obtain ⟨z21, e_z21, h⟩ := bnd h
  refine iaO (f := z20.2.1) hx hb hK hP 1 0 rfl rfl e_z21 dX5_digest_73 ?_
  refine lv_i2l hx hb dX5_digest_74 rfl ?_
  obtain ⟨z22, e_z22, h⟩ := bnd h
  refine muv (cc_X5_233 ga S hK hN hP hD e_z22 hl.1 (Nat.le_of_ble_eq_true rfl) ⟨Nat.le_of_ble_eq_true rfl, Nat.le_of_ble_eq_true rfl⟩ dX5_digest_75 ⟨Nat.le_of_ble_eq_true rfl, Nat.le_of_ble_eq_true rfl⟩) hS hD (va_free hD hS hA [0, 1, 2, 3, 4] rfl) (fun H locs hP hD hS => ?_)
  have hP : va_P G vwCl (wM cI ga z22) H := hP
  have hD : va_D A (wM cI ga z22) := hD
  refine lv_iconst (v := 0) hx hb dX5_digest_78 (by decide) ?_
  refine lv_istore_n (lv' := [(1, .int (0 : Int32)), (0, .ref (ga 0))]) hx hb dX5_digest_79 rfl hl (by decide) rfl (fun ls hl => ?_)
  obtain ⟨b23, e_b23, h⟩ := bnd h
  refine L80 _ _ _ e_b23 ?_ _ _ hP hD hS _ (lv_sub hl [1, 0] rfl)
  intro H locs hP hD hS ls hl
  refine lv_aload_n hx hb dX5_digest_142 rfl (lv_at hl 0 rfl) ?_
  refine lv_aload_n hx hb dX5_digest_143 rfl (lv_at hl 0 rfl) ?_
  obtain ⟨z24, e_z24, h⟩ := bnd h
  refine roD (cc_X5_181 ga S hK hN hP e_z24 hl.1 (Nat.le_of_ble_eq_true rfl) ⟨Nat.le_of_ble_eq_true rfl, Nat.le_of_ble_eq_true rfl⟩ dX5_digest_144 ⟨Nat.le_of_ble_eq_true rfl, Nat.le_of_ble_eq_true rfl⟩) ?_
  obtain ⟨z25, e_z25, h⟩ := bnd h
  refine dfO hx hb e_z25 dX5_digest_147 ?_
  obtain ⟨z26, e_z26, h⟩ := bnd h
  refine roI (cc_X5_237 S hK hN va_P0 e_z26 hl.1 (Nat.le_of_ble_eq_true rfl) ⟨Nat.le_of_ble_eq_true rfl, Nat.le_of_ble_eq_true rfl⟩ dX5_digest_148 ⟨Nat.le_of_ble_eq_true rfl, Nat.le_of_ble_eq_true rfl⟩) ?_
  refine lv_i2l hx hb dX5_digest_151 rfl ?_
  obtain ⟨z27, e_z27, h⟩ := bnd h
  refine muv (cc_X5_233 ga S hK hN hP hD e_z27 hl.1 (Nat.le_of_ble_eq_true rfl) ⟨Nat.le_of_ble_eq_true rfl, Nat.le_of_ble_eq_true rfl⟩ dX5_digest_152 ⟨Nat.le_of_ble_eq_true rfl, Nat.le_of_ble_eq_true rfl⟩) hS hD (va_free hD hS hA [0, 1, 2, 3, 4] rfl) (fun H locs hP hD hS => ?_)
  have hP : va_P G vwCl (wM cI ga z27) H := hP
  have hD : va_D A (wM cI ga z27) := hD
  refine lv_aload_n hx hb dX5_digest_155 rfl (lv_at hl 0 rfl) ?_
  refine gf_X5_225 S hK hN hP 0 rfl (v := .long z27.1.2.2.2.2.2.2.2) rfl dX5_digest_156 ?_
  exact retMl hQ S hr hlocks hK hN hP hD hS h dX5_digest_159
