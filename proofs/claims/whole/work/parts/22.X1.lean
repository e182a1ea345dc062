theorem pf_X1_13 {p : Program} {l : Launch} {e : Env} {R : Room} {s : State} {m : MethodId} {args : Array Value} {below : List Frame} {meth : Method} {c : Code} {H : Heap} {locs : List Loc} {cells slots : Nat} {cc : ByteArray} {pc nL : Nat} {ls : Array Slot} {rest : List Value} {G : va_G} {Q : State → Prop} {tys : List (ClassId × FieldType)} {ws : va_W} {a : Nat} {A : Nat → Prop} {H0 : Heap} {x : Int32} (S : CallFix p m c cc nL s args bw RX1) (hK : va_K G vwCl tys s) (hN : NW s) (hP : va_P G vwCl ws H) (hD : va_D A ws) (hS : va_S A H0 H locs) (q0 : Nat) {fs : List Value} (he : ws[q0]? = some (a, .inr (1, fs))) (hl : 0 < fs.length) (hdg : decode cc pc = .ok (.putfield 13, 3)) (kk : ∀ (H1 : Heap) (locs1 : List Loc), va_P G vwCl (ws.set q0 (a, .inr (1, fs.set 0 (.int x)))) H1 → va_D A (ws.set q0 (a, .inr (1, fs.set 0 (.int x)))) → va_S A H0 H1 locs1 → W p l e R s m args below meth c H1 locs1 cells slots Q (F0 m (pc + 3) ls rest)) : W p l e R s m args below meth c H locs cells slots Q (F0 m pc ls (.int x :: .ref a :: rest)) :=
  va_put (ty := .int) (v := .int x) (C := RX1) (T := TX1) (N := 4) S.1 S.2.1 S.2.2.2.2 bi_U1 tyX1 tyX1_ok nmX1 S.2.2.2.1 hK hP hD hS q0 he rfl 0 (by decide) (S.2.2.2.2 _ q_29) (fun _ h9 => h9) rfl rfl rfl rfl hl hdg kk
theorem pf_X1_17 {p : Program} {l : Launch} {e : Env} {R : Room} {s : State} {m : MethodId} {args : Array Value} {below : List Frame} {meth : Method} {c : Code} {H : Heap} {locs : List Loc} {cells slots : Nat} {cc : ByteArray} {pc nL : Nat} {ls : Array Slot} {rest : List Value} {G : va_G} {Q : State → Prop} {tys : List (ClassId × FieldType)} {ws : va_W} {a : Nat} {A : Nat → Prop} {H0 : Heap} {x : Int32} (S : CallFix p m c cc nL s args bw RX1) (hK : va_K G vwCl tys s) (hN : NW s) (hP : va_P G vwCl ws H) (hD : va_D A ws) (hS : va_S A H0 H locs) (q0 : Nat) {fs : List Value} (he : ws[q0]? = some (a, .inr (1, fs))) (hl : 1 < fs.length) (hdg : decode cc pc = .ok (.putfield 17, 3)) (kk : ∀ (H1 : Heap) (locs1 : List Loc), va_P G vwCl (ws.set q0 (a, .inr (1, fs.set 1 (.int x)))) H1 → va_D A (ws.set q0 (a, .inr (1, fs.set 1 (.int x)))) → va_S A H0 H1 locs1 → W p l e R s m args below meth c H1 locs1 cells slots Q (F0 m (pc + 3) ls rest)) : W p l e R s m args below meth c H locs cells slots Q (F0 m pc ls (.int x :: .ref a :: rest)) :=
  va_put (ty := .int) (v := .int x) (C := RX1) (T := TX1) (N := 4) S.1 S.2.1 S.2.2.2.2 bi_U1 tyX1 tyX1_ok nmX1 S.2.2.2.1 hK hP hD hS q0 he rfl 1 (by decide) (S.2.2.2.2 _ q_30) (fun _ h9 => h9) rfl rfl rfl rfl hl hdg kk
theorem pf_X1_20 {p : Program} {l : Launch} {e : Env} {R : Room} {s : State} {m : MethodId} {args : Array Value} {below : List Frame} {meth : Method} {c : Code} {H : Heap} {locs : List Loc} {cells slots : Nat} {cc : ByteArray} {pc nL : Nat} {ls : Array Slot} {rest : List Value} {G : va_G} {Q : State → Prop} {tys : List (ClassId × FieldType)} {ws : va_W} {a : Nat} {A : Nat → Prop} {H0 : Heap} {x : Int32} (S : CallFix p m c cc nL s args bw RX1) (hK : va_K G vwCl tys s) (hN : NW s) (hP : va_P G vwCl ws H) (hD : va_D A ws) (hS : va_S A H0 H locs) (q0 : Nat) {fs : List Value} (he : ws[q0]? = some (a, .inr (1, fs))) (hl : 2 < fs.length) (hdg : decode cc pc = .ok (.putfield 20, 3)) (kk : ∀ (H1 : Heap) (locs1 : List Loc), va_P G vwCl (ws.set q0 (a, .inr (1, fs.set 2 (.int x)))) H1 → va_D A (ws.set q0 (a, .inr (1, fs.set 2 (.int x)))) → va_S A H0 H1 locs1 → W p l e R s m args below meth c H1 locs1 cells slots Q (F0 m (pc + 3) ls rest)) : W p l e R s m args below meth c H locs cells slots Q (F0 m pc ls (.int x :: .ref a :: rest)) :=
  va_put (ty := .int) (v := .int x) (C := RX1) (T := TX1) (N := 4) S.1 S.2.1 S.2.2.2.2 bi_U1 tyX1 tyX1_ok nmX1 S.2.2.2.1 hK hP hD hS q0 he rfl 2 (by decide) (S.2.2.2.2 _ q_31) (fun _ h9 => h9) rfl rfl rfl rfl hl hdg kk
theorem pf_X1_36 {p : Program} {l : Launch} {e : Env} {R : Room} {s : State} {m : MethodId} {args : Array Value} {below : List Frame} {meth : Method} {c : Code} {H : Heap} {locs : List Loc} {cells slots : Nat} {cc : ByteArray} {pc nL : Nat} {ls : Array Slot} {rest : List Value} {G : va_G} {Q : State → Prop} {tys : List (ClassId × FieldType)} {ws : va_W} {a : Nat} {A : Nat → Prop} {H0 : Heap} {x : Int32} (S : CallFix p m c cc nL s args bw RX1) (hK : va_K G vwCl tys s) (hN : NW s) (hP : va_P G vwCl ws H) (hD : va_D A ws) (hS : va_S A H0 H locs) (q0 : Nat) {fs : List Value} (he : ws[q0]? = some (a, .inr (1, fs))) (hl : 3 < fs.length) (hdg : decode cc pc = .ok (.putfield 36, 3)) (kk : ∀ (H1 : Heap) (locs1 : List Loc), va_P G vwCl (ws.set q0 (a, .inr (1, fs.set 3 (.int x)))) H1 → va_D A (ws.set q0 (a, .inr (1, fs.set 3 (.int x)))) → va_S A H0 H1 locs1 → W p l e R s m args below meth c H1 locs1 cells slots Q (F0 m (pc + 3) ls rest)) : W p l e R s m args below meth c H locs cells slots Q (F0 m pc ls (.int x :: .ref a :: rest)) :=
  va_put (ty := .int) (v := .int x) (C := RX1) (T := TX1) (N := 4) S.1 S.2.1 S.2.2.2.2 bi_U1 tyX1 tyX1_ok nmX1 S.2.2.2.1 hK hP hD hS q0 he rfl 3 (by decide) (S.2.2.2.2 _ q_32) (fun _ h9 => h9) rfl rfl rfl rfl hl hdg kk
def fX1_enter (u : TR) (p0 : Int32) : Option (Int32 × TR) := some ((1 : Int32), p0, (0 : Int32), (0 : Int32), (0 : Int32))
abbrev rmX1_enter : Room := { frames := 0, cells := 0, slots := 0, locals := 0 }
set_option maxRecDepth 100000 in
set_option maxHeartbeats 4000000 in
theorem kX1_enter (l : Launch) (G : va_G) (cI cS : ClassId) (g0 : Nat) (sz : Nat) (u : TR) (p0 : Int32) (r : Int32 × TR) (hf : fX1_enter u p0 = some r) : Met l yX1_enter (.code yX1_enter cX1_enter 2 (some .boolean) :: bw) rmX1_enter (va_Pc [.ref g0, .int p0] (PreM G (tysW cI cS) (wR g0 u) sz)) (va_Qi (fun r' u' => (r', u') = r) (PoM G (tysW cI cS) (va_A (wR g0 u) sz) (wR g0)) (va_A (wR g0 u) sz)) 0 0 (va_A (wR g0 u) sz) := by
  refine enterM (own := RX1) (by decide) rfl (Nat.le_of_ble_eq_true rfl) ?_
  intro p e s m args below meth c A Q hAe hQ S hr hlocks hP hK hN hD hA hS ls hl
  rw [hAe] at hQ
  have hx := S.1; have hb := S.2.1; have hml := S.2.2.1; have hown := S.2.2.2.1; have hq := S.2.2.2.2
  have hl : lv_has ls 2 [(0, .ref g0), (1, .int p0)] := hl
  have h := hf
  unfold fX1_enter at h
  refine lv_aload_n hx hb dX1_enter_0 rfl (lv_at hl 0 rfl) ?_
  refine lv_iload_n hx hb dX1_enter_1 rfl (lv_at hl 1 rfl) ?_
  refine pf_X1_13 S hK hN hP hD hS 0 rfl (Nat.le_of_ble_eq_true rfl) dX1_enter_2 (fun H locs hP hD hS => ?_)
  have hP : va_P G vwCl (wR g0 (p0, u.2)) H := hP
  have hD : va_D A (wR g0 (p0, u.2)) := hD
  refine lv_aload_n hx hb dX1_enter_5 rfl (lv_at hl 0 rfl) ?_
  refine lv_iconst (v := 0) hx hb dX1_enter_6 (by decide) ?_
  refine pf_X1_17 S hK hN hP hD hS 0 rfl (Nat.le_of_ble_eq_true rfl) dX1_enter_7 (fun H locs hP hD hS => ?_)
  have hP : va_P G vwCl (wR g0 (p0, (0 : Int32), u.2.2)) H := hP
  have hD : va_D A (wR g0 (p0, (0 : Int32), u.2.2)) := hD
  refine lv_aload_n hx hb dX1_enter_10 rfl (lv_at hl 0 rfl) ?_
  refine lv_iconst (v := 0) hx hb dX1_enter_11 (by decide) ?_
  refine pf_X1_20 S hK hN hP hD hS 0 rfl (Nat.le_of_ble_eq_true rfl) dX1_enter_12 (fun H locs hP hD hS => ?_)
  have hP : va_P G vwCl (wR g0 (p0, (0 : Int32), (0 : Int32), u.2.2.2)) H := hP
  have hD : va_D A (wR g0 (p0, (0 : Int32), (0 : Int32), u.2.2.2)) := hD
  refine lv_aload_n hx hb dX1_enter_15 rfl (lv_at hl 0 rfl) ?_
  refine lv_iconst (v := 0) hx hb dX1_enter_16 (by decide) ?_
  refine pf_X1_36 S hK hN hP hD hS 0 rfl (Nat.le_of_ble_eq_true rfl) dX1_enter_17 (fun H locs hP hD hS => ?_)
  have hP : va_P G vwCl (wR g0 (p0, (0 : Int32), (0 : Int32), (0 : Int32))) H := hP
  have hD : va_D A (wR g0 (p0, (0 : Int32), (0 : Int32), (0 : Int32))) := hD
  refine lv_iconst (v := 1) hx hb dX1_enter_20 (by decide) ?_
  exact retMz hQ S hr hlocks rfl hK hN hP hD hS h dX1_enter_21

theorem cc_X1_9 {p : Program} {l : Launch} {e : Env} {R : Room} {s : State} {m : MethodId} {args : Array Value} {below : List Frame} {meth : Method} {c : Code} {H : Heap} {locs : List Loc} {cells slots : Nat} {cc : ByteArray} {pc nL : Nat} {ls : Array Slot} {rest : List Value} {G : va_G} {A : Nat → Prop} (g0 : Nat) {cI cS : ClassId} {u : TR}  {p0 : Int32} {r : Int32 × TR} (S : CallFix p m c cc nL s args bw RX1) (hK : va_K G vwCl (tysW cI cS) s) (hN : NW s) (hP : va_P G vwCl (wR g0 u) H) (hD : va_D A (wR g0 u)) (hf : fX1_enter u p0 = some r) (hsz : ls.size = nL) (hst : (rest.map fun v => v.category).sum ≤ 8) (hR : rmX1_enter.frames + 1 ≤ R.frames ∧ 8 + (2 + 11) + rmX1_enter.locals ≤ R.locals) (hdg : decode cc pc = .ok (.invokevirtual 9, 3)) (hcs : cells + 0 ≤ R.cells ∧ slots + 0 ≤ R.slots) : va_Run p l e R s m args below meth c H locs cells slots 0 0 (F0 m pc ls (.int p0 :: .ref g0 :: rest)) rest (va_Qi (fun r' u' => (r', u') = r) (PoM G (tysW cI cS) (va_A (wR g0 u) H.size) (wR g0)) (va_A (wR g0 u) H.size) (#[.ref g0, .int p0] : Array Value)) (va_A (wR g0 u) H.size) :=
  va_runV (As := [.int p0]) (rest := rest) S (kX1_enter l G cI cS g0 H.size u p0 r hf) (cwV 1 S.2.2.2.2 (gdV q_34 q_35 q_36 q_37 q_28) rfl rfl rfl (by decide +kernel) hR) (pvM (q := (RX1, TX1, 4)) hK hN hP hD (ci := 1) (q0 := 0) rfl rfl) rfl rfl hsz rfl (lv_room hst) hdg hcs
def fX1_restart (u : TR) : Option (TR) := ((fX1_enter u (0 : Int32)).bind fun z1 => some z1.2)
abbrev rmX1_restart : Room := { frames := 1, cells := 0, slots := 0, locals := 21 }
set_option maxRecDepth 100000 in
set_option maxHeartbeats 4000000 in
theorem kX1_restart (l : Launch) (G : va_G) (cI cS : ClassId) (g0 : Nat) (sz : Nat) (u : TR) (r : TR) (hf : fX1_restart u = some r) : Met l yX1_restart (.code yX1_restart cX1_restart 1 none :: bw) rmX1_restart (va_Pc [.ref g0] (PreM G (tysW cI cS) (wR g0 u) sz)) (va_Qv (fun u' => u' = r) (PoM G (tysW cI cS) (va_A (wR g0 u) sz) (wR g0)) (va_A (wR g0 u) sz)) 0 0 (va_A (wR g0 u) sz) := by
  refine enterM (own := RX1) (by decide) rfl (Nat.le_of_ble_eq_true rfl) ?_
  intro p e s m args below meth c A Q hAe hQ S hr hlocks hP hK hN hD hA hS ls hl
  rw [hAe] at hQ
  have hx := S.1; have hb := S.2.1; have hml := S.2.2.1; have hown := S.2.2.2.1; have hq := S.2.2.2.2
  have hl : lv_has ls 1 [(0, .ref g0)] := hl
  have h := hf
  unfold fX1_restart at h
  refine lv_aload_n hx hb dX1_restart_0 rfl (lv_at hl 0 rfl) ?_
  refine lv_iconst (v := 0) hx hb dX1_restart_1 (by decide) ?_
  obtain ⟨z1, e_z1, h⟩ := bnd h
  refine mui (cc_X1_9 g0 S hK hN hP hD e_z1 hl.1 (Nat.le_of_ble_eq_true rfl) ⟨Nat.le_of_ble_eq_true rfl, Nat.le_of_ble_eq_true rfl⟩ dX1_restart_2 ⟨Nat.le_of_ble_eq_true rfl, Nat.le_of_ble_eq_true rfl⟩) hS hD (va_free hD hS hA [0] rfl) (fun H locs hP hD hS => ?_)
  have hP : va_P G vwCl (wR g0 z1.2) H := hP
  have hD : va_D A (wR g0 z1.2) := hD
  refine lv_pop hx hb dX1_restart_5 rfl ?_
  exact retMv hQ S hr hlocks hK hN hP hD hS h dX1_restart_6

theorem gf_X1_13 {p : Program} {l : Launch} {e : Env} {R : Room} {s : State} {m : MethodId} {args : Array Value} {below : List Frame} {meth : Method} {c : Code} {H : Heap} {locs : List Loc} {cells slots : Nat} {cc : ByteArray} {pc nL : Nat} {ls : Array Slot} {rest : List Value} {G : va_G} {Q : State → Prop} {tys : List (ClassId × FieldType)} {ws : va_W} {a : Nat} (S : CallFix p m c cc nL s args bw RX1) (hK : va_K G vwCl tys s) (hN : NW s) (hP : va_P G vwCl ws H) (q0 : Nat) {fs : List Value} (he : ws[q0]? = some (a, .inr (1, fs))) {v : Value} (hv : fs[0]? = some v) (hdg : decode cc pc = .ok (.getfield 13, 3)) (kk : W p l e R s m args below meth c H locs cells slots Q (F0 m (pc + 3) ls (v :: rest))) : W p l e R s m args below meth c H locs cells slots Q (F0 m pc ls (.ref a :: rest)) :=
  va_get (C := RX1) (T := TX1) (N := 4) S.1 S.2.1 S.2.2.2.2 bi_U1 S.2.2.2.1 hK hP q0 he rfl 0 (by decide) (S.2.2.2.2 _ q_29) (fun _ h9 => h9) hv hdg kk
theorem gf_X1_17 {p : Program} {l : Launch} {e : Env} {R : Room} {s : State} {m : MethodId} {args : Array Value} {below : List Frame} {meth : Method} {c : Code} {H : Heap} {locs : List Loc} {cells slots : Nat} {cc : ByteArray} {pc nL : Nat} {ls : Array Slot} {rest : List Value} {G : va_G} {Q : State → Prop} {tys : List (ClassId × FieldType)} {ws : va_W} {a : Nat} (S : CallFix p m c cc nL s args bw RX1) (hK : va_K G vwCl tys s) (hN : NW s) (hP : va_P G vwCl ws H) (q0 : Nat) {fs : List Value} (he : ws[q0]? = some (a, .inr (1, fs))) {v : Value} (hv : fs[1]? = some v) (hdg : decode cc pc = .ok (.getfield 17, 3)) (kk : W p l e R s m args below meth c H locs cells slots Q (F0 m (pc + 3) ls (v :: rest))) : W p l e R s m args below meth c H locs cells slots Q (F0 m pc ls (.ref a :: rest)) :=
  va_get (C := RX1) (T := TX1) (N := 4) S.1 S.2.1 S.2.2.2.2 bi_U1 S.2.2.2.1 hK hP q0 he rfl 1 (by decide) (S.2.2.2.2 _ q_30) (fun _ h9 => h9) hv hdg kk
theorem gf_X1_20 {p : Program} {l : Launch} {e : Env} {R : Room} {s : State} {m : MethodId} {args : Array Value} {below : List Frame} {meth : Method} {c : Code} {H : Heap} {locs : List Loc} {cells slots : Nat} {cc : ByteArray} {pc nL : Nat} {ls : Array Slot} {rest : List Value} {G : va_G} {Q : State → Prop} {tys : List (ClassId × FieldType)} {ws : va_W} {a : Nat} (S : CallFix p m c cc nL s args bw RX1) (hK : va_K G vwCl tys s) (hN : NW s) (hP : va_P G vwCl ws H) (q0 : Nat) {fs : List Value} (he : ws[q0]? = some (a, .inr (1, fs))) {v : Value} (hv : fs[2]? = some v) (hdg : decode cc pc = .ok (.getfield 20, 3)) (kk : W p l e R s m args below meth c H locs cells slots Q (F0 m (pc + 3) ls (v :: rest))) : W p l e R s m args below meth c H locs cells slots Q (F0 m pc ls (.ref a :: rest)) :=
  va_get (C := RX1) (T := TX1) (N := 4) S.1 S.2.1 S.2.2.2.2 bi_U1 S.2.2.2.1 hK hP q0 he rfl 2 (by decide) (S.2.2.2.2 _ q_31) (fun _ h9 => h9) hv hdg kk
def fX1_mayEnd (u : TR) : Option (Int32) := (if u.1 = 1 then (if u.2.1 ≤ 0 then some (0 : Int32) else some (1 : Int32)) else (if u.1 = 3 then (if u.2.2.1 ≤ 0 then some (0 : Int32) else some (1 : Int32)) else (if u.1 = (4 : Int32) then some (1 : Int32) else some (0 : Int32))))
abbrev rmX1_mayEnd : Room := { frames := 0, cells := 0, slots := 0, locals := 0 }
set_option maxRecDepth 100000 in
set_option maxHeartbeats 4000000 in
theorem kX1_mayEnd (l : Launch) (G : va_G) (cI cS : ClassId) (g0 : Nat) (u : TR) (r : Int32) (hf : fX1_mayEnd u = some r) : Met l yX1_mayEnd (.code yX1_mayEnd cX1_mayEnd 1 (some .boolean) :: bw) rmX1_mayEnd (va_Pc [.ref g0] (PreR G (tysW cI cS) (wR g0 u))) (vp_Si (fun r' => r' = r)) 0 0 (fun _ => False) := by
  refine enterR (own := RX1) (by decide) rfl rfl (Nat.le_of_ble_eq_true rfl) ?_
  intro p e s m args below meth c Q hQ S hr hlocks hP hK hN ls hl
  have hx := S.1; have hb := S.2.1; have hml := S.2.2.1; have hown := S.2.2.2.1; have hq := S.2.2.2.2
  have hl : lv_has ls 1 [(0, .ref g0)] := hl
  have h := hf
  unfold fX1_mayEnd at h
  refine lv_aload_n hx hb dX1_mayEnd_0 rfl (lv_at hl 0 rfl) ?_
  refine gf_X1_13 S hK hN hP 0 rfl (v := .int u.1) rfl dX1_mayEnd_1 ?_
  by_cases c1 : u.1 = 1
  · have h := (if_pos c1).symm.trans h
    refine lv_lookup (off := 28) (tgt := 32) hx hb dX1_mayEnd_4 (by decide) (by rw [c1]; rfl) (by decide) ?_
    refine lv_aload_n hx hb dX1_mayEnd_32 rfl (lv_at hl 0 rfl) ?_
    refine gf_X1_17 S hK hN hP 0 rfl (v := .int u.2.1) rfl dX1_mayEnd_33 ?_
    refine lv_if_le (tgt := 43) hx hb dX1_mayEnd_36 (by decide) (fun c2 => ?_) (fun c2 => ?_)
    · have h := (if_pos c2).symm.trans h
      refine lv_iconst (v := 0) hx hb dX1_mayEnd_43 (by decide) ?_
      exact retRz hQ S hr hlocks rfl h dX1_mayEnd_44
    · have h := (if_neg c2).symm.trans h
      refine lv_iconst (v := 1) hx hb dX1_mayEnd_39 (by decide) ?_
      refine lv_goto (tgt := 44) hx hb dX1_mayEnd_40 (by decide) ?_
      exact retRz hQ S hr hlocks rfl h dX1_mayEnd_44
  have h := (if_neg c1).symm.trans h
  by_cases c3 : u.1 = 3
  · have h := (if_pos c3).symm.trans h
    refine lv_lookup (off := 41) (tgt := 45) hx hb dX1_mayEnd_4 (by decide) (by rw [c3]; rfl) (by decide) ?_
    refine lv_aload_n hx hb dX1_mayEnd_45 rfl (lv_at hl 0 rfl) ?_
    refine gf_X1_20 S hK hN hP 0 rfl (v := .int u.2.2.1) rfl dX1_mayEnd_46 ?_
    refine lv_if_le (tgt := 56) hx hb dX1_mayEnd_49 (by decide) (fun c4 => ?_) (fun c4 => ?_)
    · have h := (if_pos c4).symm.trans h
      refine lv_iconst (v := 0) hx hb dX1_mayEnd_56 (by decide) ?_
      exact retRz hQ S hr hlocks rfl h dX1_mayEnd_57
    · have h := (if_neg c4).symm.trans h
      refine lv_iconst (v := 1) hx hb dX1_mayEnd_52 (by decide) ?_
      refine lv_goto (tgt := 57) hx hb dX1_mayEnd_53 (by decide) ?_
      exact retRz hQ S hr hlocks rfl h dX1_mayEnd_57
  have h := (if_neg c3).symm.trans h
  refine lv_lookup (off := 54) (tgt := 58) hx hb dX1_mayEnd_4 (by decide) ((lv_osw c1 (by decide)).trans ((lv_osw c3 (by decide)).trans rfl)) (by decide) ?_
  refine lv_aload_n hx hb dX1_mayEnd_58 rfl (lv_at hl 0 rfl) ?_
  refine gf_X1_13 S hK hN hP 0 rfl (v := .int u.1) rfl dX1_mayEnd_59 ?_
  refine lv_iconst (v := 4) hx hb dX1_mayEnd_62 (by decide) ?_
  refine lv_icmp_ne (tgt := 70) hx hb dX1_mayEnd_63 (by decide) (fun c5 => ?_) (fun c5 => ?_)
  · have h := (if_neg c5).symm.trans h
    refine lv_iconst (v := 0) hx hb dX1_mayEnd_70 (by decide) ?_
    exact retRz hQ S hr hlocks rfl h dX1_mayEnd_71
  · have h := (if_pos c5).symm.trans h
    refine lv_iconst (v := 1) hx hb dX1_mayEnd_66 (by decide) ?_
    refine lv_goto (tgt := 71) hx hb dX1_mayEnd_67 (by decide) ?_
    exact retRz hQ S hr hlocks rfl h dX1_mayEnd_71

theorem gf_X1_36 {p : Program} {l : Launch} {e : Env} {R : Room} {s : State} {m : MethodId} {args : Array Value} {below : List Frame} {meth : Method} {c : Code} {H : Heap} {locs : List Loc} {cells slots : Nat} {cc : ByteArray} {pc nL : Nat} {ls : Array Slot} {rest : List Value} {G : va_G} {Q : State → Prop} {tys : List (ClassId × FieldType)} {ws : va_W} {a : Nat} (S : CallFix p m c cc nL s args bw RX1) (hK : va_K G vwCl tys s) (hN : NW s) (hP : va_P G vwCl ws H) (q0 : Nat) {fs : List Value} (he : ws[q0]? = some (a, .inr (1, fs))) {v : Value} (hv : fs[3]? = some v) (hdg : decode cc pc = .ok (.getfield 36, 3)) (kk : W p l e R s m args below meth c H locs cells slots Q (F0 m (pc + 3) ls (v :: rest))) : W p l e R s m args below meth c H locs cells slots Q (F0 m pc ls (.ref a :: rest)) :=
  va_get (C := RX1) (T := TX1) (N := 4) S.1 S.2.1 S.2.2.2.2 bi_U1 S.2.2.2.1 hK hP q0 he rfl 3 (by decide) (S.2.2.2.2 _ q_32) (fun _ h9 => h9) hv hdg kk
def fX1_acceptsDigit_j28 (u : TR) (x1 : Int32) : Option (Int32 × TR) := (if (799 : Int32) < ((((10 : Int32) * u.2.2.2) + x1) - (48 : Int32)) then some ((0 : Int32), u.1, u.2.1, (u.2.2.1 + (1 : Int32)), ((((10 : Int32) * u.2.2.2) + x1) - (48 : Int32))) else some ((1 : Int32), u.1, u.2.1, (u.2.2.1 + (1 : Int32)), ((((10 : Int32) * u.2.2.2) + x1) - (48 : Int32))))
def fX1_acceptsDigit (u : TR) (p0 : Int32) : Option (Int32 × TR) := (if p0 < (48 : Int32) then some ((0 : Int32), u) else (if (57 : Int32) < p0 then some ((0 : Int32), u) else (if u.2.2.1 ≤ 0 then fX1_acceptsDigit_j28 u p0 else (if u.2.2.2 = 0 then some ((0 : Int32), u) else fX1_acceptsDigit_j28 u p0))))
abbrev rmX1_acceptsDigit : Room := { frames := 0, cells := 0, slots := 0, locals := 0 }
set_option maxRecDepth 100000 in
set_option maxHeartbeats 4000000 in
theorem kX1_acceptsDigit (l : Launch) (G : va_G) (cI cS : ClassId) (g0 : Nat) (sz : Nat) (u : TR) (p0 : Int32) (r : Int32 × TR) (hf : fX1_acceptsDigit u p0 = some r) : Met l yX1_acceptsDigit (.code yX1_acceptsDigit cX1_acceptsDigit 2 (some .boolean) :: bw) rmX1_acceptsDigit (va_Pc [.ref g0, .int p0] (PreM G (tysW cI cS) (wR g0 u) sz)) (va_Qi (fun r' u' => (r', u') = r) (PoM G (tysW cI cS) (va_A (wR g0 u) sz) (wR g0)) (va_A (wR g0 u) sz)) 0 0 (va_A (wR g0 u) sz) := by
  refine enterM (own := RX1) (by decide) rfl (Nat.le_of_ble_eq_true rfl) ?_
  intro p e s m args below meth c A Q hAe hQ S hr hlocks hP hK hN hD hA hS ls hl
  rw [hAe] at hQ
  have hx := S.1; have hb := S.2.1; have hml := S.2.2.1; have hown := S.2.2.2.1; have hq := S.2.2.2.2
  have hl : lv_has ls 2 [(0, .ref g0), (1, .int p0)] := hl
  have h := hf
  unfold fX1_acceptsDigit at h
  have J28 : ∀ (u : TR) (x1 : Int32) , fX1_acceptsDigit_j28 u x1 = some r → ∀ (H : Heap) (locs : List Loc), va_P G vwCl (wR g0 u) H → va_D A (wR g0 u) → va_S A s.heap H locs → ∀ ls : Array Slot, lv_has ls 2 [(0, .ref g0), (1, .int x1)] → W p l e rmX1_acceptsDigit s m args below meth c H locs 0 0 Q (F0 m 28 ls []) := by
    intro u x1 h
    unfold fX1_acceptsDigit_j28 at h
    intro H locs hP hD hS ls hl
    refine lv_aload_n hx hb dX1_acceptsDigit_28 rfl (lv_at hl 0 rfl) ?_
    refine lv_dup hx hb dX1_acceptsDigit_29 rfl ?_
    refine gf_X1_20 S hK hN hP 0 rfl (v := .int u.2.2.1) rfl dX1_acceptsDigit_30 ?_
    refine lv_iconst (v := 1) hx hb dX1_acceptsDigit_33 (by decide) ?_
    refine lv_iadd hx hb dX1_acceptsDigit_34 ?_
    refine pf_X1_20 S hK hN hP hD hS 0 rfl (Nat.le_of_ble_eq_true rfl) dX1_acceptsDigit_35 (fun H locs hP hD hS => ?_)
    have hP : va_P G vwCl (wR g0 (u.1, u.2.1, (u.2.2.1 + (1 : Int32)), u.2.2.2)) H := hP
    have hD : va_D A (wR g0 (u.1, u.2.1, (u.2.2.1 + (1 : Int32)), u.2.2.2)) := hD
    refine lv_aload_n hx hb dX1_acceptsDigit_38 rfl (lv_at hl 0 rfl) ?_
    refine lv_bipush (v := 10) hx hb dX1_acceptsDigit_39 (by decide) ?_
    refine lv_aload_n hx hb dX1_acceptsDigit_41 rfl (lv_at hl 0 rfl) ?_
    refine gf_X1_36 S hK hN hP 0 rfl (v := .int u.2.2.2) rfl dX1_acceptsDigit_42 ?_
    refine lv_imul hx hb dX1_acceptsDigit_45 ?_
    refine lv_iload_n hx hb dX1_acceptsDigit_46 rfl (lv_at hl 1 rfl) ?_
    refine lv_iadd hx hb dX1_acceptsDigit_47 ?_
    refine lv_bipush (v := 48) hx hb dX1_acceptsDigit_48 (by decide) ?_
    refine lv_isub hx hb dX1_acceptsDigit_50 ?_
    refine pf_X1_36 S hK hN hP hD hS 0 rfl (Nat.le_of_ble_eq_true rfl) dX1_acceptsDigit_51 (fun H locs hP hD hS => ?_)
    have hP : va_P G vwCl (wR g0 (u.1, u.2.1, (u.2.2.1 + (1 : Int32)), ((((10 : Int32) * u.2.2.2) + x1) - (48 : Int32)))) H := hP
    have hD : va_D A (wR g0 (u.1, u.2.1, (u.2.2.1 + (1 : Int32)), ((((10 : Int32) * u.2.2.2) + x1) - (48 : Int32)))) := hD
    refine lv_aload_n hx hb dX1_acceptsDigit_54 rfl (lv_at hl 0 rfl) ?_
    refine gf_X1_36 S hK hN hP 0 rfl (v := .int ((((10 : Int32) * u.2.2.2) + x1) - (48 : Int32))) rfl dX1_acceptsDigit_55 ?_
    refine lv_sipush (v := 799) hx hb dX1_acceptsDigit_58 (by decide) ?_
    refine lv_icmp_gt (tgt := 68) hx hb dX1_acceptsDigit_61 (by decide) (fun c1 => ?_) (fun c1 => ?_)
    · have h := (if_pos c1).symm.trans h
      refine lv_iconst (v := 0) hx hb dX1_acceptsDigit_68 (by decide) ?_
      exact retMz hQ S hr hlocks rfl hK hN hP hD hS h dX1_acceptsDigit_69
    · have h := (if_neg c1).symm.trans h
      refine lv_iconst (v := 1) hx hb dX1_acceptsDigit_64 (by decide) ?_
      refine lv_goto (tgt := 69) hx hb dX1_acceptsDigit_65 (by decide) ?_
      exact retMz hQ S hr hlocks rfl hK hN hP hD hS h dX1_acceptsDigit_69
  refine lv_iload_n hx hb dX1_acceptsDigit_0 rfl (lv_at hl 1 rfl) ?_
  refine lv_bipush (v := 48) hx hb dX1_acceptsDigit_1 (by decide) ?_
  refine lv_icmp_lt (tgt := 26) hx hb dX1_acceptsDigit_3 (by decide) (fun c2 => ?_) (fun c2 => ?_)
  · have h := (if_pos c2).symm.trans h
    refine lv_iconst (v := 0) hx hb dX1_acceptsDigit_26 (by decide) ?_
    exact retMz hQ S hr hlocks rfl hK hN hP hD hS h dX1_acceptsDigit_27
  · have h := (if_neg c2).symm.trans h
    refine lv_iload_n hx hb dX1_acceptsDigit_6 rfl (lv_at hl 1 rfl) ?_
    refine lv_bipush (v := 57) hx hb dX1_acceptsDigit_7 (by decide) ?_
    refine lv_icmp_gt (tgt := 26) hx hb dX1_acceptsDigit_9 (by decide) (fun c3 => ?_) (fun c3 => ?_)
    · have h := (if_pos c3).symm.trans h
      refine lv_iconst (v := 0) hx hb dX1_acceptsDigit_26 (by decide) ?_
      exact retMz hQ S hr hlocks rfl hK hN hP hD hS h dX1_acceptsDigit_27
    · have h := (if_neg c3).symm.trans h
      refine lv_aload_n hx hb dX1_acceptsDigit_12 rfl (lv_at hl 0 rfl) ?_
      refine gf_X1_20 S hK hN hP 0 rfl (v := .int u.2.2.1) rfl dX1_acceptsDigit_13 ?_
      refine lv_if_le (tgt := 28) hx hb dX1_acceptsDigit_16 (by decide) (fun c4 => ?_) (fun c4 => ?_)
      · have h := (if_pos c4).symm.trans h
        exact J28 u p0 h _ _ hP hD hS _ (lv_sub hl [0, 1] rfl)
      · have h := (if_neg c4).symm.trans h
        refine lv_aload_n hx hb dX1_acceptsDigit_19 rfl (lv_at hl 0 rfl) ?_
        refine gf_X1_36 S hK hN hP 0 rfl (v := .int u.2.2.2) rfl dX1_acceptsDigit_20 ?_
        refine lv_if_ne (tgt := 28) hx hb dX1_acceptsDigit_23 (by decide) (fun c5 => ?_) (fun c5 => ?_)
        · have h := (if_neg c5).symm.trans h
          exact J28 u p0 h _ _ hP hD hS _ (lv_sub hl [0, 1] rfl)
        · have h := (if_pos c5).symm.trans h
          refine lv_iconst (v := 0) hx hb dX1_acceptsDigit_26 (by decide) ?_
          exact retMz hQ S hr hlocks rfl hK hN hP hD hS h dX1_acceptsDigit_27

def fX1_acceptsFirst (u : TR) (p0 : Int32) : Option (Int32 × TR) := (if p0 = 43 then ((fX1_enter u (1 : Int32)).bind fun z2 => ((zO z2.1).bind fun z3 => some (z3, z2.2))) else (if p0 = 45 then ((fX1_enter u (3 : Int32)).bind fun z5 => ((zO z5.1).bind fun z6 => some (z6, z5.2))) else (if p0 = 61 then ((fX1_enter u (2 : Int32)).bind fun z8 => ((zO z8.1).bind fun z9 => some (z9, z8.2))) else (if p0 = 94 then ((fX1_enter u (4 : Int32)).bind fun z11 => ((zO z11.1).bind fun z12 => some (z12, z11.2))) else some ((0 : Int32), u)))))
abbrev rmX1_acceptsFirst : Room := { frames := 1, cells := 0, slots := 0, locals := 21 }
set_option maxRecDepth 100000 in
set_option maxHeartbeats 4000000 in
theorem kX1_acceptsFirst (l : Launch) (G : va_G) (cI cS : ClassId) (g0 : Nat) (sz : Nat) (u : TR) (p0 : Int32) (r : Int32 × TR) (hf : fX1_acceptsFirst u p0 = some r) : Met l yX1_acceptsFirst (.code yX1_acceptsFirst cX1_acceptsFirst 2 (some .boolean) :: bw) rmX1_acceptsFirst (va_Pc [.ref g0, .int p0] (PreM G (tysW cI cS) (wR g0 u) sz)) (va_Qi (fun r' u' => (r', u') = r) (PoM G (tysW cI cS) (va_A (wR g0 u) sz) (wR g0)) (va_A (wR g0 u) sz)) 0 0 (va_A (wR g0 u) sz) := by
  refine enterM (own := RX1) (by decide) rfl (Nat.le_of_ble_eq_true rfl) ?_
  intro p e s m args below meth c A Q hAe hQ S hr hlocks hP hK hN hD hA hS ls hl
  rw [hAe] at hQ
  have hx := S.1; have hb := S.2.1; have hml := S.2.2.1; have hown := S.2.2.2.1; have hq := S.2.2.2.2
  have hl : lv_has ls 2 [(0, .ref g0), (1, .int p0)] := hl
  have h := hf
  unfold fX1_acceptsFirst at h
  refine lv_iload_n hx hb dX1_acceptsFirst_0 rfl (lv_at hl 1 rfl) ?_
  by_cases c1 : p0 = 43
  · have h := (if_pos c1).symm.trans h
    refine lv_lookup (off := 43) (tgt := 44) hx hb dX1_acceptsFirst_1 (by decide) (by rw [c1]; rfl) (by decide) ?_
    refine lv_aload_n hx hb dX1_acceptsFirst_44 rfl (lv_at hl 0 rfl) ?_
    refine lv_iconst (v := 1) hx hb dX1_acceptsFirst_45 (by decide) ?_
    obtain ⟨z2, e_z2, h⟩ := bnd h
    refine mui (cc_X1_9 g0 S hK hN hP hD e_z2 hl.1 (Nat.le_of_ble_eq_true rfl) ⟨Nat.le_of_ble_eq_true rfl, Nat.le_of_ble_eq_true rfl⟩ dX1_acceptsFirst_46 ⟨Nat.le_of_ble_eq_true rfl, Nat.le_of_ble_eq_true rfl⟩) hS hD (va_free hD hS hA [0] rfl) (fun H locs hP hD hS => ?_)
    have hP : va_P G vwCl (wR g0 z2.2) H := hP
    have hD : va_D A (wR g0 z2.2) := hD
    obtain ⟨z3, e_z3, h⟩ := bnd h
    obtain ⟨q_z3, k_z3⟩ := zO_in e_z3
    rw [← q_z3] at h
    exact retMz hQ S hr hlocks (by rcases k_z3 with q | q <;> rw [q] <;> rfl) hK hN hP hD hS h dX1_acceptsFirst_49
  have h := (if_neg c1).symm.trans h
  by_cases c4 : p0 = 45
  · have h := (if_pos c4).symm.trans h
    refine lv_lookup (off := 55) (tgt := 56) hx hb dX1_acceptsFirst_1 (by decide) (by rw [c4]; rfl) (by decide) ?_
    refine lv_aload_n hx hb dX1_acceptsFirst_56 rfl (lv_at hl 0 rfl) ?_
    refine lv_iconst (v := 3) hx hb dX1_acceptsFirst_57 (by decide) ?_
    obtain ⟨z5, e_z5, h⟩ := bnd h
    refine mui (cc_X1_9 g0 S hK hN hP hD e_z5 hl.1 (Nat.le_of_ble_eq_true rfl) ⟨Nat.le_of_ble_eq_true rfl, Nat.le_of_ble_eq_true rfl⟩ dX1_acceptsFirst_58 ⟨Nat.le_of_ble_eq_true rfl, Nat.le_of_ble_eq_true rfl⟩) hS hD (va_free hD hS hA [0] rfl) (fun H locs hP hD hS => ?_)
    have hP : va_P G vwCl (wR g0 z5.2) H := hP
    have hD : va_D A (wR g0 z5.2) := hD
    obtain ⟨z6, e_z6, h⟩ := bnd h
    obtain ⟨q_z6, k_z6⟩ := zO_in e_z6
    rw [← q_z6] at h
    exact retMz hQ S hr hlocks (by rcases k_z6 with q | q <;> rw [q] <;> rfl) hK hN hP hD hS h dX1_acceptsFirst_61
  have h := (if_neg c4).symm.trans h
  by_cases c7 : p0 = 61
  · have h := (if_pos c7).symm.trans h
    refine lv_lookup (off := 49) (tgt := 50) hx hb dX1_acceptsFirst_1 (by decide) (by rw [c7]; rfl) (by decide) ?_
    refine lv_aload_n hx hb dX1_acceptsFirst_50 rfl (lv_at hl 0 rfl) ?_
    refine lv_iconst (v := 2) hx hb dX1_acceptsFirst_51 (by decide) ?_
    obtain ⟨z8, e_z8, h⟩ := bnd h
    refine mui (cc_X1_9 g0 S hK hN hP hD e_z8 hl.1 (Nat.le_of_ble_eq_true rfl) ⟨Nat.le_of_ble_eq_true rfl, Nat.le_of_ble_eq_true rfl⟩ dX1_acceptsFirst_52 ⟨Nat.le_of_ble_eq_true rfl, Nat.le_of_ble_eq_true rfl⟩) hS hD (va_free hD hS hA [0] rfl) (fun H locs hP hD hS => ?_)
    have hP : va_P G vwCl (wR g0 z8.2) H := hP
    have hD : va_D A (wR g0 z8.2) := hD
    obtain ⟨z9, e_z9, h⟩ := bnd h
    obtain ⟨q_z9, k_z9⟩ := zO_in e_z9
    rw [← q_z9] at h
    exact retMz hQ S hr hlocks (by rcases k_z9 with q | q <;> rw [q] <;> rfl) hK hN hP hD hS h dX1_acceptsFirst_55
  have h := (if_neg c7).symm.trans h
  by_cases c10 : p0 = 94
  · have h := (if_pos c10).symm.trans h
    refine lv_lookup (off := 61) (tgt := 62) hx hb dX1_acceptsFirst_1 (by decide) (by rw [c10]; rfl) (by decide) ?_
    refine lv_aload_n hx hb dX1_acceptsFirst_62 rfl (lv_at hl 0 rfl) ?_
    refine lv_iconst (v := 4) hx hb dX1_acceptsFirst_63 (by decide) ?_
    obtain ⟨z11, e_z11, h⟩ := bnd h
    refine mui (cc_X1_9 g0 S hK hN hP hD e_z11 hl.1 (Nat.le_of_ble_eq_true rfl) ⟨Nat.le_of_ble_eq_true rfl, Nat.le_of_ble_eq_true rfl⟩ dX1_acceptsFirst_64 ⟨Nat.le_of_ble_eq_true rfl, Nat.le_of_ble_eq_true rfl⟩) hS hD (va_free hD hS hA [0] rfl) (fun H locs hP hD hS => ?_)
    have hP : va_P G vwCl (wR g0 z11.2) H := hP
    have hD : va_D A (wR g0 z11.2) := hD
    obtain ⟨z12, e_z12, h⟩ := bnd h
    obtain ⟨q_z12, k_z12⟩ := zO_in e_z12
    rw [← q_z12] at h
    exact retMz hQ S hr hlocks (by rcases k_z12 with q | q <;> rw [q] <;> rfl) hK hN hP hD hS h dX1_acceptsFirst_67
  have h := (if_neg c10).symm.trans h
  refine lv_lookup (off := 67) (tgt := 68) hx hb dX1_acceptsFirst_1 (by decide) ((lv_osw c1 (by decide)).trans ((lv_osw c4 (by decide)).trans ((lv_osw c7 (by decide)).trans ((lv_osw c10 (by decide)).trans rfl)))) (by decide) ?_
  refine lv_iconst (v := 0) hx hb dX1_acceptsFirst_68 (by decide) ?_
  exact retMz hQ S hr hlocks rfl hK hN hP hD hS h dX1_acceptsFirst_69

def fX1_acceptsLetter (u : TR) (p0 : Int32) : Option (Int32 × TR) := (if p0 < (97 : Int32) then some ((0 : Int32), u.1, (u.2.1 + (1 : Int32)), u.2.2) else (if (122 : Int32) < p0 then some ((0 : Int32), u.1, (u.2.1 + (1 : Int32)), u.2.2) else (if (40 : Int32) < (u.2.1 + (1 : Int32)) then some ((0 : Int32), u.1, (u.2.1 + (1 : Int32)), u.2.2) else some ((1 : Int32), u.1, (u.2.1 + (1 : Int32)), u.2.2))))
abbrev rmX1_acceptsLetter : Room := { frames := 0, cells := 0, slots := 0, locals := 0 }
set_option maxRecDepth 100000 in
set_option maxHeartbeats 4000000 in
theorem kX1_acceptsLetter (l : Launch) (G : va_G) (cI cS : ClassId) (g0 : Nat) (sz : Nat) (u : TR) (p0 : Int32) (r : Int32 × TR) (hf : fX1_acceptsLetter u p0 = some r) : Met l yX1_acceptsLetter (.code yX1_acceptsLetter cX1_acceptsLetter 2 (some .boolean) :: bw) rmX1_acceptsLetter (va_Pc [.ref g0, .int p0] (PreM G (tysW cI cS) (wR g0 u) sz)) (va_Qi (fun r' u' => (r', u') = r) (PoM G (tysW cI cS) (va_A (wR g0 u) sz) (wR g0)) (va_A (wR g0 u) sz)) 0 0 (va_A (wR g0 u) sz) := by
  refine enterM (own := RX1) (by decide) rfl (Nat.le_of_ble_eq_true rfl) ?_
  intro p e s m args below meth c A Q hAe hQ S hr hlocks hP hK hN hD hA hS ls hl
  rw [hAe] at hQ
  have hx := S.1; have hb := S.2.1; have hml := S.2.2.1; have hown := S.2.2.2.1; have hq := S.2.2.2.2
  have hl : lv_has ls 2 [(0, .ref g0), (1, .int p0)] := hl
  have h := hf
  unfold fX1_acceptsLetter at h
  refine lv_aload_n hx hb dX1_acceptsLetter_0 rfl (lv_at hl 0 rfl) ?_
  refine lv_dup hx hb dX1_acceptsLetter_1 rfl ?_
  refine gf_X1_17 S hK hN hP 0 rfl (v := .int u.2.1) rfl dX1_acceptsLetter_2 ?_
  refine lv_iconst (v := 1) hx hb dX1_acceptsLetter_5 (by decide) ?_
  refine lv_iadd hx hb dX1_acceptsLetter_6 ?_
  refine pf_X1_17 S hK hN hP hD hS 0 rfl (Nat.le_of_ble_eq_true rfl) dX1_acceptsLetter_7 (fun H locs hP hD hS => ?_)
  have hP : va_P G vwCl (wR g0 (u.1, (u.2.1 + (1 : Int32)), u.2.2)) H := hP
  have hD : va_D A (wR g0 (u.1, (u.2.1 + (1 : Int32)), u.2.2)) := hD
  refine lv_iload_n hx hb dX1_acceptsLetter_10 rfl (lv_at hl 1 rfl) ?_
  refine lv_bipush (v := 97) hx hb dX1_acceptsLetter_11 (by decide) ?_
  refine lv_icmp_lt (tgt := 35) hx hb dX1_acceptsLetter_13 (by decide) (fun c1 => ?_) (fun c1 => ?_)
  · have h := (if_pos c1).symm.trans h
    refine lv_iconst (v := 0) hx hb dX1_acceptsLetter_35 (by decide) ?_
    exact retMz hQ S hr hlocks rfl hK hN hP hD hS h dX1_acceptsLetter_36
  · have h := (if_neg c1).symm.trans h
    refine lv_iload_n hx hb dX1_acceptsLetter_16 rfl (lv_at hl 1 rfl) ?_
    refine lv_bipush (v := 122) hx hb dX1_acceptsLetter_17 (by decide) ?_
    refine lv_icmp_gt (tgt := 35) hx hb dX1_acceptsLetter_19 (by decide) (fun c2 => ?_) (fun c2 => ?_)
    · have h := (if_pos c2).symm.trans h
      refine lv_iconst (v := 0) hx hb dX1_acceptsLetter_35 (by decide) ?_
      exact retMz hQ S hr hlocks rfl hK hN hP hD hS h dX1_acceptsLetter_36
    · have h := (if_neg c2).symm.trans h
      refine lv_aload_n hx hb dX1_acceptsLetter_22 rfl (lv_at hl 0 rfl) ?_
      refine gf_X1_17 S hK hN hP 0 rfl (v := .int (u.2.1 + (1 : Int32))) rfl dX1_acceptsLetter_23 ?_
      refine lv_bipush (v := 40) hx hb dX1_acceptsLetter_26 (by decide) ?_
      refine lv_icmp_gt (tgt := 35) hx hb dX1_acceptsLetter_28 (by decide) (fun c3 => ?_) (fun c3 => ?_)
      · have h := (if_pos c3).symm.trans h
        refine lv_iconst (v := 0) hx hb dX1_acceptsLetter_35 (by decide) ?_
        exact retMz hQ S hr hlocks rfl hK hN hP hD hS h dX1_acceptsLetter_36
      · have h := (if_neg c3).symm.trans h
        refine lv_iconst (v := 1) hx hb dX1_acceptsLetter_31 (by decide) ?_
        refine lv_goto (tgt := 36) hx hb dX1_acceptsLetter_32 (by decide) ?_
        exact retMz hQ S hr hlocks rfl hK hN hP hD hS h dX1_acceptsLetter_36

theorem cc_X1_23 {p : Program} {l : Launch} {e : Env} {R : Room} {s : State} {m : MethodId} {args : Array Value} {below : List Frame} {meth : Method} {c : Code} {H : Heap} {locs : List Loc} {cells slots : Nat} {cc : ByteArray} {pc nL : Nat} {ls : Array Slot} {rest : List Value} {G : va_G} (g0 : Nat) {cI cS : ClassId} {u : TR}  {r : Int32} (S : CallFix p m c cc nL s args bw RX1) (hK : va_K G vwCl (tysW cI cS) s) (hN : NW s) (hP : va_P G vwCl (wR g0 u) H) (hf : fX1_mayEnd u = some r) (hsz : ls.size = nL) (hst : (rest.map fun v => v.category).sum ≤ 8) (hR : rmX1_mayEnd.frames + 1 ≤ R.frames ∧ 8 + (1 + 11) + rmX1_mayEnd.locals ≤ R.locals) (hdg : decode cc pc = .ok (.invokevirtual 23, 3)) (hcs : cells + 0 ≤ R.cells ∧ slots + 0 ≤ R.slots) : va_Run p l e R s m args below meth c H locs cells slots 0 0 (F0 m pc ls (.ref g0 :: rest)) rest (vp_Si (fun r' => r' = r) (#[.ref g0] : Array Value)) (fun _ => False) :=
  va_runV (As := []) (rest := rest) S (kX1_mayEnd l G cI cS g0 u r hf) (cwV 0 S.2.2.2.2 (gdV q_42 q_43 q_44 q_37 q_38) rfl rfl rfl (by decide +kernel) hR) (pvR (q := (RX1, TX1, 4)) hK hN hP (ci := 1) (q0 := 0) rfl rfl) rfl rfl hsz rfl (lv_room hst) hdg hcs
theorem cc_X1_27 {p : Program} {l : Launch} {e : Env} {R : Room} {s : State} {m : MethodId} {args : Array Value} {below : List Frame} {meth : Method} {c : Code} {H : Heap} {locs : List Loc} {cells slots : Nat} {cc : ByteArray} {pc nL : Nat} {ls : Array Slot} {rest : List Value} {G : va_G} {A : Nat → Prop} (g0 : Nat) {cI cS : ClassId} {u : TR}  {p0 : Int32} {r : Int32 × TR} (S : CallFix p m c cc nL s args bw RX1) (hK : va_K G vwCl (tysW cI cS) s) (hN : NW s) (hP : va_P G vwCl (wR g0 u) H) (hD : va_D A (wR g0 u)) (hf : fX1_acceptsFirst u p0 = some r) (hsz : ls.size = nL) (hst : (rest.map fun v => v.category).sum ≤ 8) (hR : rmX1_acceptsFirst.frames + 1 ≤ R.frames ∧ 8 + (2 + 11) + rmX1_acceptsFirst.locals ≤ R.locals) (hdg : decode cc pc = .ok (.invokevirtual 27, 3)) (hcs : cells + 0 ≤ R.cells ∧ slots + 0 ≤ R.slots) : va_Run p l e R s m args below meth c H locs cells slots 0 0 (F0 m pc ls (.int p0 :: .ref g0 :: rest)) rest (va_Qi (fun r' u' => (r', u') = r) (PoM G (tysW cI cS) (va_A (wR g0 u) H.size) (wR g0)) (va_A (wR g0 u) H.size) (#[.ref g0, .int p0] : Array Value)) (va_A (wR g0 u) H.size) :=
  va_runV (As := [.int p0]) (rest := rest) S (kX1_acceptsFirst l G cI cS g0 H.size u p0 r hf) (cwV 1 S.2.2.2.2 (gdV q_45 q_46 q_47 q_37 q_39) rfl rfl rfl (by decide +kernel) hR) (pvM (q := (RX1, TX1, 4)) hK hN hP hD (ci := 1) (q0 := 0) rfl rfl) rfl rfl hsz rfl (lv_room hst) hdg hcs
theorem cc_X1_30 {p : Program} {l : Launch} {e : Env} {R : Room} {s : State} {m : MethodId} {args : Array Value} {below : List Frame} {meth : Method} {c : Code} {H : Heap} {locs : List Loc} {cells slots : Nat} {cc : ByteArray} {pc nL : Nat} {ls : Array Slot} {rest : List Value} {G : va_G} {A : Nat → Prop} (g0 : Nat) {cI cS : ClassId} {u : TR}  {p0 : Int32} {r : Int32 × TR} (S : CallFix p m c cc nL s args bw RX1) (hK : va_K G vwCl (tysW cI cS) s) (hN : NW s) (hP : va_P G vwCl (wR g0 u) H) (hD : va_D A (wR g0 u)) (hf : fX1_acceptsLetter u p0 = some r) (hsz : ls.size = nL) (hst : (rest.map fun v => v.category).sum ≤ 8) (hR : rmX1_acceptsLetter.frames + 1 ≤ R.frames ∧ 8 + (2 + 11) + rmX1_acceptsLetter.locals ≤ R.locals) (hdg : decode cc pc = .ok (.invokevirtual 30, 3)) (hcs : cells + 0 ≤ R.cells ∧ slots + 0 ≤ R.slots) : va_Run p l e R s m args below meth c H locs cells slots 0 0 (F0 m pc ls (.int p0 :: .ref g0 :: rest)) rest (va_Qi (fun r' u' => (r', u') = r) (PoM G (tysW cI cS) (va_A (wR g0 u) H.size) (wR g0)) (va_A (wR g0 u) H.size) (#[.ref g0, .int p0] : Array Value)) (va_A (wR g0 u) H.size) :=
  va_runV (As := [.int p0]) (rest := rest) S (kX1_acceptsLetter l G cI cS g0 H.size u p0 r hf) (cwV 1 S.2.2.2.2 (gdV q_48 q_49 q_50 q_37 q_40) rfl rfl rfl (by decide +kernel) hR) (pvM (q := (RX1, TX1, 4)) hK hN hP hD (ci := 1) (q0 := 0) rfl rfl) rfl rfl hsz rfl (lv_room hst) hdg hcs
theorem cc_X1_33 {p : Program} {l : Launch} {e : Env} {R : Room} {s : State} {m : MethodId} {args : Array Value} {below : List Frame} {meth : Method} {c : Code} {H : Heap} {locs : List Loc} {cells slots : Nat} {cc : ByteArray} {pc nL : Nat} {ls : Array Slot} {rest : List Value} {G : va_G} {A : Nat → Prop} (g0 : Nat) {cI cS : ClassId} {u : TR}  {p0 : Int32} {r : Int32 × TR} (S : CallFix p m c cc nL s args bw RX1) (hK : va_K G vwCl (tysW cI cS) s) (hN : NW s) (hP : va_P G vwCl (wR g0 u) H) (hD : va_D A (wR g0 u)) (hf : fX1_acceptsDigit u p0 = some r) (hsz : ls.size = nL) (hst : (rest.map fun v => v.category).sum ≤ 8) (hR : rmX1_acceptsDigit.frames + 1 ≤ R.frames ∧ 8 + (2 + 11) + rmX1_acceptsDigit.locals ≤ R.locals) (hdg : decode cc pc = .ok (.invokevirtual 33, 3)) (hcs : cells + 0 ≤ R.cells ∧ slots + 0 ≤ R.slots) : va_Run p l e R s m args below meth c H locs cells slots 0 0 (F0 m pc ls (.int p0 :: .ref g0 :: rest)) rest (va_Qi (fun r' u' => (r', u') = r) (PoM G (tysW cI cS) (va_A (wR g0 u) H.size) (wR g0)) (va_A (wR g0 u) H.size) (#[.ref g0, .int p0] : Array Value)) (va_A (wR g0 u) H.size) :=
  va_runV (As := [.int p0]) (rest := rest) S (kX1_acceptsDigit l G cI cS g0 H.size u p0 r hf) (cwV 1 S.2.2.2.2 (gdV q_51 q_52 q_53 q_37 q_41) rfl rfl rfl (by decide +kernel) hR) (pvM (q := (RX1, TX1, 4)) hK hN hP hD (ci := 1) (q0 := 0) rfl rfl) rfl rfl hsz rfl (lv_room hst) hdg hcs
def fX1_accepts (u : TR) (p0 : Int32) : Option (Int32 × TR) := (if p0 = (59 : Int32) then ((fX1_mayEnd u).bind fun z18 => (if z18 = 0 then some ((0 : Int32), u) else ((fX1_enter u (0 : Int32)).bind fun z20 => (if z20.1 = 0 then some ((0 : Int32), z20.2) else some ((1 : Int32), z20.2))))) else (if u.1 = 0 then ((fX1_acceptsFirst u p0).bind fun z3 => ((zO z3.1).bind fun z4 => some (z4, z3.2))) else (if u.1 = 1 then ((fX1_acceptsLetter u p0).bind fun z6 => ((zO z6.1).bind fun z7 => some (z7, z6.2))) else (if u.1 = 2 then (if p0 = (58 : Int32) then (if u.2.2.1 ≤ 0 then some ((0 : Int32), u) else ((fX1_enter u (1 : Int32)).bind fun z13 => (if z13.1 = 0 then some ((0 : Int32), z13.2) else some ((1 : Int32), z13.2)))) else ((fX1_acceptsDigit u p0).bind fun z10 => ((zO z10.1).bind fun z11 => some (z11, z10.2)))) else (if u.1 = 3 then ((fX1_acceptsDigit u p0).bind fun z16 => ((zO z16.1).bind fun z17 => some (z17, z16.2))) else some ((0 : Int32), u))))))
abbrev rmX1_accepts : Room := { frames := 2, cells := 0, slots := 0, locals := 42 }
set_option maxRecDepth 100000 in
set_option maxHeartbeats 4000000 in
theorem kX1_accepts (l : Launch) (G : va_G) (cI cS : ClassId) (g0 : Nat) (sz : Nat) (u : TR) (p0 : Int32) (r : Int32 × TR) (hf : fX1_accepts u p0 = some r) : Met l yX1_accepts (.code yX1_accepts cX1_accepts 2 (some .boolean) :: bw) rmX1_accepts (va_Pc [.ref g0, .int p0] (PreM G (tysW cI cS) (wR g0 u) sz)) (va_Qi (fun r' u' => (r', u') = r) (PoM G (tysW cI cS) (va_A (wR g0 u) sz) (wR g0)) (va_A (wR g0 u) sz)) 0 0 (va_A (wR g0 u) sz) := by
  refine enterM (own := RX1) (by decide) rfl (Nat.le_of_ble_eq_true rfl) ?_
  intro p e s m args below meth c A Q hAe hQ S hr hlocks hP hK hN hD hA hS ls hl
  rw [hAe] at hQ
  have hx := S.1; have hb := S.2.1; have hml := S.2.2.1; have hown := S.2.2.2.1; have hq := S.2.2.2.2
  have hl : lv_has ls 2 [(0, .ref g0), (1, .int p0)] := hl
  have h := hf
  unfold fX1_accepts at h
  refine lv_iload_n hx hb dX1_accepts_0 rfl (lv_at hl 1 rfl) ?_
  refine lv_bipush (v := 59) hx hb dX1_accepts_1 (by decide) ?_
  refine lv_icmp_ne (tgt := 27) hx hb dX1_accepts_3 (by decide) (fun c1 => ?_) (fun c1 => ?_)
  · have h := (if_neg c1).symm.trans h
    refine lv_aload_n hx hb dX1_accepts_27 rfl (lv_at hl 0 rfl) ?_
    refine gf_X1_13 S hK hN hP 0 rfl (v := .int u.1) rfl dX1_accepts_28 ?_
    by_cases c2 : u.1 = 0
    · have h := (if_pos c2).symm.trans h
      refine lv_tableIn (off := 29) (tgt := 60) hx hb dX1_accepts_31 (by rw [c2]; decide) (by rw [c2]; decide) (by rw [c2]; rfl) (by decide) ?_
      refine lv_aload_n hx hb dX1_accepts_60 rfl (lv_at hl 0 rfl) ?_
      refine lv_iload_n hx hb dX1_accepts_61 rfl (lv_at hl 1 rfl) ?_
      obtain ⟨z3, e_z3, h⟩ := bnd h
      refine mui (cc_X1_27 g0 S hK hN hP hD e_z3 hl.1 (Nat.le_of_ble_eq_true rfl) ⟨Nat.le_of_ble_eq_true rfl, Nat.le_of_ble_eq_true rfl⟩ dX1_accepts_62 ⟨Nat.le_of_ble_eq_true rfl, Nat.le_of_ble_eq_true rfl⟩) hS hD (va_free hD hS hA [0] rfl) (fun H locs hP hD hS => ?_)
      have hP : va_P G vwCl (wR g0 z3.2) H := hP
      have hD : va_D A (wR g0 z3.2) := hD
      obtain ⟨z4, e_z4, h⟩ := bnd h
      obtain ⟨q_z4, k_z4⟩ := zO_in e_z4
      rw [← q_z4] at h
      exact retMz hQ S hr hlocks (by rcases k_z4 with q | q <;> rw [q] <;> rfl) hK hN hP hD hS h dX1_accepts_65
    have h := (if_neg c2).symm.trans h
    by_cases c5 : u.1 = 1
    · have h := (if_pos c5).symm.trans h
      refine lv_tableIn (off := 35) (tgt := 66) hx hb dX1_accepts_31 (by rw [c5]; decide) (by rw [c5]; decide) (by rw [c5]; rfl) (by decide) ?_
      refine lv_aload_n hx hb dX1_accepts_66 rfl (lv_at hl 0 rfl) ?_
      refine lv_iload_n hx hb dX1_accepts_67 rfl (lv_at hl 1 rfl) ?_
      obtain ⟨z6, e_z6, h⟩ := bnd h
      refine mui (cc_X1_30 g0 S hK hN hP hD e_z6 hl.1 (Nat.le_of_ble_eq_true rfl) ⟨Nat.le_of_ble_eq_true rfl, Nat.le_of_ble_eq_true rfl⟩ dX1_accepts_68 ⟨Nat.le_of_ble_eq_true rfl, Nat.le_of_ble_eq_true rfl⟩) hS hD (va_free hD hS hA [0] rfl) (fun H locs hP hD hS => ?_)
      have hP : va_P G vwCl (wR g0 z6.2) H := hP
      have hD : va_D A (wR g0 z6.2) := hD
      obtain ⟨z7, e_z7, h⟩ := bnd h
      obtain ⟨q_z7, k_z7⟩ := zO_in e_z7
      rw [← q_z7] at h
      exact retMz hQ S hr hlocks (by rcases k_z7 with q | q <;> rw [q] <;> rfl) hK hN hP hD hS h dX1_accepts_71
    have h := (if_neg c5).symm.trans h
    by_cases c8 : u.1 = 2
    · have h := (if_pos c8).symm.trans h
      refine lv_tableIn (off := 41) (tgt := 72) hx hb dX1_accepts_31 (by rw [c8]; decide) (by rw [c8]; decide) (by rw [c8]; rfl) (by decide) ?_
      refine lv_iload_n hx hb dX1_accepts_72 rfl (lv_at hl 1 rfl) ?_
      refine lv_bipush (v := 58) hx hb dX1_accepts_73 (by decide) ?_
      refine lv_icmp_ne (tgt := 101) hx hb dX1_accepts_75 (by decide) (fun c9 => ?_) (fun c9 => ?_)
      · have h := (if_neg c9).symm.trans h
        refine lv_aload_n hx hb dX1_accepts_101 rfl (lv_at hl 0 rfl) ?_
        refine lv_iload_n hx hb dX1_accepts_102 rfl (lv_at hl 1 rfl) ?_
        obtain ⟨z10, e_z10, h⟩ := bnd h
        refine mui (cc_X1_33 g0 S hK hN hP hD e_z10 hl.1 (Nat.le_of_ble_eq_true rfl) ⟨Nat.le_of_ble_eq_true rfl, Nat.le_of_ble_eq_true rfl⟩ dX1_accepts_103 ⟨Nat.le_of_ble_eq_true rfl, Nat.le_of_ble_eq_true rfl⟩) hS hD (va_free hD hS hA [0] rfl) (fun H locs hP hD hS => ?_)
        have hP : va_P G vwCl (wR g0 z10.2) H := hP
        have hD : va_D A (wR g0 z10.2) := hD
        obtain ⟨z11, e_z11, h⟩ := bnd h
        obtain ⟨q_z11, k_z11⟩ := zO_in e_z11
        rw [← q_z11] at h
        exact retMz hQ S hr hlocks (by rcases k_z11 with q | q <;> rw [q] <;> rfl) hK hN hP hD hS h dX1_accepts_106
      · have h := (if_pos c9).symm.trans h
        refine lv_aload_n hx hb dX1_accepts_78 rfl (lv_at hl 0 rfl) ?_
        refine gf_X1_20 S hK hN hP 0 rfl (v := .int u.2.2.1) rfl dX1_accepts_79 ?_
        refine lv_if_le (tgt := 97) hx hb dX1_accepts_82 (by decide) (fun c12 => ?_) (fun c12 => ?_)
        · have h := (if_pos c12).symm.trans h
          refine lv_iconst (v := 0) hx hb dX1_accepts_97 (by decide) ?_
          refine lv_goto (tgt := 106) hx hb dX1_accepts_98 (by decide) ?_
          exact retMz hQ S hr hlocks rfl hK hN hP hD hS h dX1_accepts_106
        · have h := (if_neg c12).symm.trans h
          refine lv_aload_n hx hb dX1_accepts_85 rfl (lv_at hl 0 rfl) ?_
          refine lv_iconst (v := 1) hx hb dX1_accepts_86 (by decide) ?_
          obtain ⟨z13, e_z13, h⟩ := bnd h
          refine mui (cc_X1_9 g0 S hK hN hP hD e_z13 hl.1 (Nat.le_of_ble_eq_true rfl) ⟨Nat.le_of_ble_eq_true rfl, Nat.le_of_ble_eq_true rfl⟩ dX1_accepts_87 ⟨Nat.le_of_ble_eq_true rfl, Nat.le_of_ble_eq_true rfl⟩) hS hD (va_free hD hS hA [0] rfl) (fun H locs hP hD hS => ?_)
          have hP : va_P G vwCl (wR g0 z13.2) H := hP
          have hD : va_D A (wR g0 z13.2) := hD
          refine lv_if_eq (tgt := 97) hx hb dX1_accepts_90 (by decide) (fun c14 => ?_) (fun c14 => ?_)
          · have h := (if_pos c14).symm.trans h
            refine lv_iconst (v := 0) hx hb dX1_accepts_97 (by decide) ?_
            refine lv_goto (tgt := 106) hx hb dX1_accepts_98 (by decide) ?_
            exact retMz hQ S hr hlocks rfl hK hN hP hD hS h dX1_accepts_106
          · have h := (if_neg c14).symm.trans h
            refine lv_iconst (v := 1) hx hb dX1_accepts_93 (by decide) ?_
            refine lv_goto (tgt := 106) hx hb dX1_accepts_94 (by decide) ?_
            exact retMz hQ S hr hlocks rfl hK hN hP hD hS h dX1_accepts_106
    have h := (if_neg c8).symm.trans h
    by_cases c15 : u.1 = 3
    · have h := (if_pos c15).symm.trans h
      refine lv_tableIn (off := 76) (tgt := 107) hx hb dX1_accepts_31 (by rw [c15]; decide) (by rw [c15]; decide) (by rw [c15]; rfl) (by decide) ?_
      refine lv_aload_n hx hb dX1_accepts_107 rfl (lv_at hl 0 rfl) ?_
      refine lv_iload_n hx hb dX1_accepts_108 rfl (lv_at hl 1 rfl) ?_
      obtain ⟨z16, e_z16, h⟩ := bnd h
      refine mui (cc_X1_33 g0 S hK hN hP hD e_z16 hl.1 (Nat.le_of_ble_eq_true rfl) ⟨Nat.le_of_ble_eq_true rfl, Nat.le_of_ble_eq_true rfl⟩ dX1_accepts_109 ⟨Nat.le_of_ble_eq_true rfl, Nat.le_of_ble_eq_true rfl⟩) hS hD (va_free hD hS hA [0] rfl) (fun H locs hP hD hS => ?_)
      have hP : va_P G vwCl (wR g0 z16.2) H := hP
      have hD : va_D A (wR g0 z16.2) := hD
      obtain ⟨z17, e_z17, h⟩ := bnd h
      obtain ⟨q_z17, k_z17⟩ := zO_in e_z17
      rw [← q_z17] at h
      exact retMz hQ S hr hlocks (by rcases k_z17 with q | q <;> rw [q] <;> rfl) hK hN hP hD hS h dX1_accepts_112
    have h := (if_neg c15).symm.trans h
    refine lv_tableOut (tgt := 113) hx hb dX1_accepts_31 (by have w0 := i32ne (a := 0) c2 (by decide); have w1 := i32ne (a := 1) c5 (by decide); have w2 := i32ne (a := 2) c8 (by decide); have w3 := i32ne (a := 3) c15 (by decide); omega) (by decide) ?_
    refine lv_iconst (v := 0) hx hb dX1_accepts_113 (by decide) ?_
    exact retMz hQ S hr hlocks rfl hK hN hP hD hS h dX1_accepts_114
  · have h := (if_pos c1).symm.trans h
    refine lv_aload_n hx hb dX1_accepts_6 rfl (lv_at hl 0 rfl) ?_
    obtain ⟨z18, e_z18, h⟩ := bnd h
    refine roI (cc_X1_23 g0 S hK hN hP e_z18 hl.1 (Nat.le_of_ble_eq_true rfl) ⟨Nat.le_of_ble_eq_true rfl, Nat.le_of_ble_eq_true rfl⟩ dX1_accepts_7 ⟨Nat.le_of_ble_eq_true rfl, Nat.le_of_ble_eq_true rfl⟩) ?_
    refine lv_if_eq (tgt := 25) hx hb dX1_accepts_10 (by decide) (fun c19 => ?_) (fun c19 => ?_)
    · have h := (if_pos c19).symm.trans h
      refine lv_iconst (v := 0) hx hb dX1_accepts_25 (by decide) ?_
      exact retMz hQ S hr hlocks rfl hK hN hP hD hS h dX1_accepts_26
    · have h := (if_neg c19).symm.trans h
      refine lv_aload_n hx hb dX1_accepts_13 rfl (lv_at hl 0 rfl) ?_
      refine lv_iconst (v := 0) hx hb dX1_accepts_14 (by decide) ?_
      obtain ⟨z20, e_z20, h⟩ := bnd h
      refine mui (cc_X1_9 g0 S hK hN hP hD e_z20 hl.1 (Nat.le_of_ble_eq_true rfl) ⟨Nat.le_of_ble_eq_true rfl, Nat.le_of_ble_eq_true rfl⟩ dX1_accepts_15 ⟨Nat.le_of_ble_eq_true rfl, Nat.le_of_ble_eq_true rfl⟩) hS hD (va_free hD hS hA [0] rfl) (fun H locs hP hD hS => ?_)
      have hP : va_P G vwCl (wR g0 z20.2) H := hP
      have hD : va_D A (wR g0 z20.2) := hD
      refine lv_if_eq (tgt := 25) hx hb dX1_accepts_18 (by decide) (fun c21 => ?_) (fun c21 => ?_)
      · have h := (if_pos c21).symm.trans h
        refine lv_iconst (v := 0) hx hb dX1_accepts_25 (by decide) ?_
        exact retMz hQ S hr hlocks rfl hK hN hP hD hS h dX1_accepts_26
      · have h := (if_neg c21).symm.trans h
        refine lv_iconst (v := 1) hx hb dX1_accepts_21 (by decide) ?_
        refine lv_goto (tgt := 26) hx hb dX1_accepts_22 (by decide) ?_
        exact retMz hQ S hr hlocks rfl hK hN hP hD hS h dX1_accepts_26
