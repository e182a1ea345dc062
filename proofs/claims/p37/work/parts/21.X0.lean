theorem gf_X0_13 {p : Program} {l : Launch} {e : Env} {R : Room} {s : State} {m : MethodId} {args : Array Value} {below : List Frame} {meth : Method} {c : Code} {H : Heap} {locs : List Loc} {cells slots : Nat} {cc : ByteArray} {pc nL : Nat} {ls : Array Slot} {rest : List Value} {G : va_G} {Q : State → Prop} {tys : List (ClassId × FieldType)} {ws : va_W} {a : Nat} (S : CallFix p m c cc nL s args bw RX0) (hK : va_K G vwCl tys s) (hN : NW s) (hP : va_P G vwCl ws H) (q0 : Nat) {fs : List Value} (he : ws[q0]? = some (a, .inr (0, fs))) {v : Value} (hv : fs[0]? = some v) (hdg : decode cc pc = .ok (.getfield 13, 3)) (kk : W p l e R s m args below meth c H locs cells slots Q (F0 m (pc + 3) ls (v :: rest))) : W p l e R s m args below meth c H locs cells slots Q (F0 m pc ls (.ref a :: rest)) :=
  va_get (C := RX0) (T := TX0) (N := 2) S.1 S.2.1 S.2.2.2.2 bi_U0 S.2.2.2.1 hK hP q0 he rfl 0 (by decide) (S.2.2.2.2 _ q_9) (fun _ h9 => h9) hv hdg kk
theorem gf_X0_19 {p : Program} {l : Launch} {e : Env} {R : Room} {s : State} {m : MethodId} {args : Array Value} {below : List Frame} {meth : Method} {c : Code} {H : Heap} {locs : List Loc} {cells slots : Nat} {cc : ByteArray} {pc nL : Nat} {ls : Array Slot} {rest : List Value} {G : va_G} {Q : State → Prop} {tys : List (ClassId × FieldType)} {ws : va_W} {a : Nat} (S : CallFix p m c cc nL s args bw RX0) (hK : va_K G vwCl tys s) (hN : NW s) (hP : va_P G vwCl ws H) (q0 : Nat) {fs : List Value} (he : ws[q0]? = some (a, .inr (0, fs))) {v : Value} (hv : fs[1]? = some v) (hdg : decode cc pc = .ok (.getfield 19, 3)) (kk : W p l e R s m args below meth c H locs cells slots Q (F0 m (pc + 3) ls (v :: rest))) : W p l e R s m args below meth c H locs cells slots Q (F0 m pc ls (.ref a :: rest)) :=
  va_get (C := RX0) (T := TX0) (N := 2) S.1 S.2.1 S.2.2.2.2 bi_U0 S.2.2.2.1 hK hP q0 he rfl 1 (by decide) (S.2.2.2.2 _ q_11) (fun _ h9 => h9) hv hdg kk
def fX0_at (n : Nat) (u : TB) (p0 : Int32) : Option (Int32) := (if p0 < 0 then some (0 : Int32) else (if u.1 ≤ p0 then some (0 : Int32) else (if (Int32.ofNat n) ≤ p0 then some (0 : Int32) else ((rd u.2 n p0).bind fun z4 => some z4))))
abbrev rmX0_at : Room := { frames := 0, cells := 0, slots := 0, locals := 0 }
set_option maxRecDepth 100000 in
set_option maxHeartbeats 4000000 in
theorem kX0_at (l : Launch) (G : va_G) (cI cS : ClassId) (g0 g1 n : Nat) (u : TB) (p0 : Int32) (r : Int32) (hf : fX0_at n u p0 = some r) : Met l yX0_at (.code yX0_at cX0_at 2 (some .int) :: bw) rmX0_at (va_Pc [.ref g0, .int p0] (PreR G (tysW cI cS) (wB cI g0 g1 n u))) (vp_Si (fun r' => r' = r)) 0 0 (fun _ => False) := by
  refine enterR (own := RX0) (by decide) rfl rfl (Nat.le_of_ble_eq_true rfl) ?_
  intro p e s m args below meth c Q hQ S hr hlocks hP hK hN ls hl
  have hx := S.1; have hb := S.2.1; have hml := S.2.2.1; have hown := S.2.2.2.1; have hq := S.2.2.2.2
  have hl : lv_has ls 2 [(0, .ref g0), (1, .int p0)] := hl
  have h := hf
  unfold fX0_at at h
  refine lv_iload_n hx hb dX0_at_0 rfl (lv_at hl 1 rfl) ?_
  refine lv_if_lt (tgt := 30) hx hb dX0_at_1 (by decide) (fun c1 => ?_) (fun c1 => ?_)
  · have h := (if_pos c1).symm.trans h
    refine lv_iconst (v := 0) hx hb dX0_at_30 (by decide) ?_
    exact retR hQ S hr hlocks h dX0_at_31
  · have h := (if_neg c1).symm.trans h
    refine lv_iload_n hx hb dX0_at_4 rfl (lv_at hl 1 rfl) ?_
    refine lv_aload_n hx hb dX0_at_5 rfl (lv_at hl 0 rfl) ?_
    refine gf_X0_19 S hK hN hP 0 rfl (v := .int u.1) rfl dX0_at_6 ?_
    refine lv_icmp_ge (tgt := 30) hx hb dX0_at_9 (by decide) (fun c2 => ?_) (fun c2 => ?_)
    · have h := (if_pos c2).symm.trans h
      refine lv_iconst (v := 0) hx hb dX0_at_30 (by decide) ?_
      exact retR hQ S hr hlocks h dX0_at_31
    · have h := (if_neg c2).symm.trans h
      refine lv_iload_n hx hb dX0_at_12 rfl (lv_at hl 1 rfl) ?_
      refine lv_aload_n hx hb dX0_at_13 rfl (lv_at hl 0 rfl) ?_
      refine gf_X0_13 S hK hN hP 0 rfl (v := .ref g1) rfl dX0_at_14 ?_
      refine va_alen hx hb hK hP 1 0 rfl rfl (v := (Int32.ofNat n)) rfl dX0_at_17 ?_
      refine lv_icmp_ge (tgt := 30) hx hb dX0_at_18 (by decide) (fun c3 => ?_) (fun c3 => ?_)
      · have h := (if_pos c3).symm.trans h
        refine lv_iconst (v := 0) hx hb dX0_at_30 (by decide) ?_
        exact retR hQ S hr hlocks h dX0_at_31
      · have h := (if_neg c3).symm.trans h
        refine lv_aload_n hx hb dX0_at_21 rfl (lv_at hl 0 rfl) ?_
        refine gf_X0_13 S hK hN hP 0 rfl (v := .ref g1) rfl dX0_at_22 ?_
        refine lv_iload_n hx hb dX0_at_25 rfl (lv_at hl 1 rfl) ?_
        obtain ⟨z4, e_z4, h⟩ := bnd h
        refine iaO (f := u.2) hx hb hK hP 1 0 rfl rfl e_z4 dX0_at_26 ?_
        refine lv_goto (tgt := 31) hx hb dX0_at_27 (by decide) ?_
        exact retR hQ S hr hlocks h dX0_at_31

theorem pf_X0_19 {p : Program} {l : Launch} {e : Env} {R : Room} {s : State} {m : MethodId} {args : Array Value} {below : List Frame} {meth : Method} {c : Code} {H : Heap} {locs : List Loc} {cells slots : Nat} {cc : ByteArray} {pc nL : Nat} {ls : Array Slot} {rest : List Value} {G : va_G} {Q : State → Prop} {tys : List (ClassId × FieldType)} {ws : va_W} {a : Nat} {A : Nat → Prop} {H0 : Heap} {x : Int32} (S : CallFix p m c cc nL s args bw RX0) (hK : va_K G vwCl tys s) (hN : NW s) (hP : va_P G vwCl ws H) (hD : va_D A ws) (hS : va_S A H0 H locs) (q0 : Nat) {fs : List Value} (he : ws[q0]? = some (a, .inr (0, fs))) (hl : 1 < fs.length) (hdg : decode cc pc = .ok (.putfield 19, 3)) (kk : ∀ (H1 : Heap) (locs1 : List Loc), va_P G vwCl (ws.set q0 (a, .inr (0, fs.set 1 (.int x)))) H1 → va_D A (ws.set q0 (a, .inr (0, fs.set 1 (.int x)))) → va_S A H0 H1 locs1 → W p l e R s m args below meth c H1 locs1 cells slots Q (F0 m (pc + 3) ls rest)) : W p l e R s m args below meth c H locs cells slots Q (F0 m pc ls (.int x :: .ref a :: rest)) :=
  va_put (ty := .int) (v := .int x) (C := RX0) (T := TX0) (N := 2) S.1 S.2.1 S.2.2.2.2 bi_U0 tyX0 tyX0_ok nmX0 S.2.2.2.1 hK hP hD hS q0 he rfl 1 (by decide) (S.2.2.2.2 _ q_11) (fun _ h9 => h9) rfl rfl rfl rfl hl hdg kk
def fX0_add (n : Nat) (u : TB) (p0 : Int32) : Option (TB) := (if u.1 < 0 then some u else (if (Int32.ofNat n) ≤ u.1 then some u else ((wr u.2 n u.1 p0).bind fun z3 => some ((u.1 + (1 : Int32)), z3))))
abbrev rmX0_add : Room := { frames := 0, cells := 0, slots := 0, locals := 0 }
set_option maxRecDepth 100000 in
set_option maxHeartbeats 4000000 in
theorem kX0_add (l : Launch) (G : va_G) (cI cS : ClassId) (g0 g1 n : Nat) (sz : Nat) (u : TB) (p0 : Int32) (r : TB) (hf : fX0_add n u p0 = some r) : Met l yX0_add (.code yX0_add cX0_add 2 none :: bw) rmX0_add (va_Pc [.ref g0, .int p0] (PreM G (tysW cI cS) (wB cI g0 g1 n u) sz)) (va_Qv (fun u' => u' = r) (PoM G (tysW cI cS) (va_A (wB cI g0 g1 n u) sz) (wB cI g0 g1 n)) (va_A (wB cI g0 g1 n u) sz)) 0 0 (va_A (wB cI g0 g1 n u) sz) := by
  refine enterM (own := RX0) (by decide) rfl (Nat.le_of_ble_eq_true rfl) ?_
  intro p e s m args below meth c A Q hAe hQ S hr hlocks hP hK hN hD hA hS ls hl
  rw [hAe] at hQ
  have hx := S.1; have hb := S.2.1; have hml := S.2.2.1; have hown := S.2.2.2.1; have hq := S.2.2.2.2
  have hl : lv_has ls 2 [(0, .ref g0), (1, .int p0)] := hl
  have h := hf
  unfold fX0_add at h
  refine lv_aload_n hx hb dX0_add_0 rfl (lv_at hl 0 rfl) ?_
  refine gf_X0_19 S hK hN hP 0 rfl (v := .int u.1) rfl dX0_add_1 ?_
  refine lv_if_lt (tgt := 39) hx hb dX0_add_4 (by decide) (fun c1 => ?_) (fun c1 => ?_)
  · have h := (if_pos c1).symm.trans h
    exact retMv hQ S hr hlocks hK hN hP hD hS h dX0_add_39
  · have h := (if_neg c1).symm.trans h
    refine lv_aload_n hx hb dX0_add_7 rfl (lv_at hl 0 rfl) ?_
    refine gf_X0_19 S hK hN hP 0 rfl (v := .int u.1) rfl dX0_add_8 ?_
    refine lv_aload_n hx hb dX0_add_11 rfl (lv_at hl 0 rfl) ?_
    refine gf_X0_13 S hK hN hP 0 rfl (v := .ref g1) rfl dX0_add_12 ?_
    refine va_alen hx hb hK hP 1 0 rfl rfl (v := (Int32.ofNat n)) rfl dX0_add_15 ?_
    refine lv_icmp_ge (tgt := 39) hx hb dX0_add_16 (by decide) (fun c2 => ?_) (fun c2 => ?_)
    · have h := (if_pos c2).symm.trans h
      exact retMv hQ S hr hlocks hK hN hP hD hS h dX0_add_39
    · have h := (if_neg c2).symm.trans h
      refine lv_aload_n hx hb dX0_add_19 rfl (lv_at hl 0 rfl) ?_
      refine gf_X0_13 S hK hN hP 0 rfl (v := .ref g1) rfl dX0_add_20 ?_
      refine lv_aload_n hx hb dX0_add_23 rfl (lv_at hl 0 rfl) ?_
      refine gf_X0_19 S hK hN hP 0 rfl (v := .int u.1) rfl dX0_add_24 ?_
      refine lv_iload_n hx hb dX0_add_27 rfl (lv_at hl 1 rfl) ?_
      obtain ⟨z3, e_z3, h⟩ := bnd h
      refine iaS (f := u.2) hx hb hK hP hD hS 1 0 rfl rfl e_z3 dX0_add_28 (fun H locs hP hD hS => ?_)
      have hP : va_P G vwCl (wB cI g0 g1 n (u.1, z3)) H := hP
      have hD : va_D A (wB cI g0 g1 n (u.1, z3)) := hD
      refine lv_aload_n hx hb dX0_add_29 rfl (lv_at hl 0 rfl) ?_
      refine lv_dup hx hb dX0_add_30 rfl ?_
      refine gf_X0_19 S hK hN hP 0 rfl (v := .int u.1) rfl dX0_add_31 ?_
      refine lv_iconst (v := 1) hx hb dX0_add_34 (by decide) ?_
      refine lv_iadd hx hb dX0_add_35 ?_
      refine pf_X0_19 S hK hN hP hD hS 0 rfl (Nat.le_of_ble_eq_true rfl) dX0_add_36 (fun H locs hP hD hS => ?_)
      have hP : va_P G vwCl (wB cI g0 g1 n ((u.1 + (1 : Int32)), z3)) H := hP
      have hD : va_D A (wB cI g0 g1 n ((u.1 + (1 : Int32)), z3)) := hD
      exact retMv hQ S hr hlocks hK hN hP hD hS h dX0_add_39

theorem cc_X0_23 {p : Program} {l : Launch} {e : Env} {R : Room} {s : State} {m : MethodId} {args : Array Value} {below : List Frame} {meth : Method} {c : Code} {H : Heap} {locs : List Loc} {cells slots : Nat} {cc : ByteArray} {pc nL : Nat} {ls : Array Slot} {rest : List Value} {G : va_G} (g0 g1 n : Nat) {cI cS : ClassId} {u : TB}  {p0 : Int32} {r : Int32} (S : CallFix p m c cc nL s args bw RX0) (hK : va_K G vwCl (tysW cI cS) s) (hN : NW s) (hP : va_P G vwCl (wB cI g0 g1 n u) H) (hf : fX0_at n u p0 = some r) (hsz : ls.size = nL) (hst : (rest.map fun v => v.category).sum ≤ 8) (hR : rmX0_at.frames + 1 ≤ R.frames ∧ 8 + (2 + 11) + rmX0_at.locals ≤ R.locals) (hdg : decode cc pc = .ok (.invokevirtual 23, 3)) (hcs : cells + 0 ≤ R.cells ∧ slots + 0 ≤ R.slots) : va_Run p l e R s m args below meth c H locs cells slots 0 0 (F0 m pc ls (.int p0 :: .ref g0 :: rest)) rest (vp_Si (fun r' => r' = r) (#[.ref g0, .int p0] : Array Value)) (fun _ => False) :=
  va_runV (As := [.int p0]) (rest := rest) S (kX0_at l G cI cS g0 g1 n u p0 r hf) (cwV 1 S.2.2.2.2 (gdV q_14 q_15 q_16 q_17 q_10) rfl rfl rfl (by decide +kernel) hR) (pvR (q := (RX0, TX0, 2)) hK hN hP (ci := 0) (q0 := 0) rfl rfl) rfl rfl hsz rfl (lv_room hst) hdg hcs
theorem cc_X0_27 {p : Program} {l : Launch} {e : Env} {R : Room} {s : State} {m : MethodId} {args : Array Value} {below : List Frame} {meth : Method} {c : Code} {H : Heap} {locs : List Loc} {cells slots : Nat} {cc : ByteArray} {pc nL : Nat} {ls : Array Slot} {rest : List Value} {G : va_G} {A : Nat → Prop} (g0 g1 n : Nat) {cI cS : ClassId} {u : TB}  {p0 : Int32} {r : TB} (S : CallFix p m c cc nL s args bw RX0) (hK : va_K G vwCl (tysW cI cS) s) (hN : NW s) (hP : va_P G vwCl (wB cI g0 g1 n u) H) (hD : va_D A (wB cI g0 g1 n u)) (hf : fX0_add n u p0 = some r) (hsz : ls.size = nL) (hst : (rest.map fun v => v.category).sum ≤ 8) (hR : rmX0_add.frames + 1 ≤ R.frames ∧ 8 + (2 + 11) + rmX0_add.locals ≤ R.locals) (hdg : decode cc pc = .ok (.invokevirtual 27, 3)) (hcs : cells + 0 ≤ R.cells ∧ slots + 0 ≤ R.slots) : va_Run p l e R s m args below meth c H locs cells slots 0 0 (F0 m pc ls (.int p0 :: .ref g0 :: rest)) rest (va_Qv (fun u' => u' = r) (PoM G (tysW cI cS) (va_A (wB cI g0 g1 n u) H.size) (wB cI g0 g1 n)) (va_A (wB cI g0 g1 n u) H.size) (#[.ref g0, .int p0] : Array Value)) (va_A (wB cI g0 g1 n u) H.size) :=
  va_runV (As := [.int p0]) (rest := rest) S (kX0_add l G cI cS g0 g1 n H.size u p0 r hf) (cwV 1 S.2.2.2.2 (gdV q_18 q_19 q_20 q_17 q_12) rfl rfl rfl (by decide +kernel) hR) (pvM (q := (RX0, TX0, 2)) hK hN hP hD (ci := 0) (q0 := 0) rfl rfl) rfl rfl hsz rfl (lv_room hst) hdg hcs
def fX0_addAll_s2 (n n2 : Nat) (u : TB × TB) (x2 : Int32) : Option (((TB × TB) × Int32) ⊕ (TB × TB)) := (if u.2.1 ≤ x2 then some (.inr u) else ((fX0_at n2 u.2 x2).bind fun z2 => ((fX0_add n u.1 z2).bind fun z3 => some (.inl ((z3, u.2), (x2 + 1))))))
def fX0_addAll (n n2 : Nat) (u : TB × TB) : Option (TB × TB) := ((itr (fun a : (TB × TB) × Int32 => fX0_addAll_s2 n n2 a.1 a.2) FU (u, (0 : Int32))).bind fun b4 => some b4)
abbrev rmX0_addAll : Room := { frames := 1, cells := 0, slots := 0, locals := 21 }
set_option maxRecDepth 100000 in
set_option maxHeartbeats 4000000 in
theorem kX0_addAll (l : Launch) (G : va_G) (cI cS : ClassId) (g0 g1 n g2 g3 n2 : Nat) (sz : Nat) (u : TB × TB) (r : TB × TB) (hf : fX0_addAll n n2 u = some r) : Met l yX0_addAll (.code yX0_addAll cX0_addAll 3 none :: bw) rmX0_addAll (va_Pc [.ref g0, .ref g2] (PreM G (tysW cI cS) (wBB cI g0 g1 n g2 g3 n2 u) sz)) (va_Qv (fun u' => u' = r) (PoM G (tysW cI cS) (va_A (wBB cI g0 g1 n g2 g3 n2 u) sz) (wBB cI g0 g1 n g2 g3 n2)) (va_A (wBB cI g0 g1 n g2 g3 n2 u) sz)) 0 0 (va_A (wBB cI g0 g1 n g2 g3 n2 u) sz) := by
  refine enterM (own := RX0) (by decide) rfl (Nat.le_of_ble_eq_true rfl) ?_
  intro p e s m args below meth c A Q hAe hQ S hr hlocks hP hK hN hD hA hS ls hl
  rw [hAe] at hQ
  have hx := S.1; have hb := S.2.1; have hml := S.2.2.1; have hown := S.2.2.2.1; have hq := S.2.2.2.2
  have hl : lv_has ls 3 [(0, .ref g0), (1, .ref g2)] := hl
  have h := hf
  unfold fX0_addAll at h
  have L2 : ∀ (n9 : Nat) (a9 : (TB × TB) × Int32) (b9 : TB × TB), itr (fun a : (TB × TB) × Int32 => fX0_addAll_s2 n n2 a.1 a.2) n9 a9 = some b9 → (fun b : TB × TB => ∀ (H : Heap) (locs : List Loc), va_P G vwCl (wBB cI g0 g1 n g2 g3 n2 b) H → va_D A (wBB cI g0 g1 n g2 g3 n2 b) → va_S A s.heap H locs → ∀ ls : Array Slot, lv_has ls 3 [] → W p l e rmX0_addAll s m args below meth c H locs 0 0 Q (F0 m 25 ls [])) b9 → (fun a : (TB × TB) × Int32 => ∀ (H : Heap) (locs : List Loc), va_P G vwCl (wBB cI g0 g1 n g2 g3 n2 a.1) H → va_D A (wBB cI g0 g1 n g2 g3 n2 a.1) → va_S A s.heap H locs → ∀ ls : Array Slot, lv_has ls 3 [(0, .ref g0), (1, .ref g2), (2, .int a.2)] → W p l e rmX0_addAll s m args below meth c H locs 0 0 Q (F0 m 2 ls [])) a9 := by
    refine itr_ind (Inv := (fun a : (TB × TB) × Int32 => ∀ (H : Heap) (locs : List Loc), va_P G vwCl (wBB cI g0 g1 n g2 g3 n2 a.1) H → va_D A (wBB cI g0 g1 n g2 g3 n2 a.1) → va_S A s.heap H locs → ∀ ls : Array Slot, lv_has ls 3 [(0, .ref g0), (1, .ref g2), (2, .int a.2)] → W p l e rmX0_addAll s m args below meth c H locs 0 0 Q (F0 m 2 ls []))) (Ex := (fun b : TB × TB => ∀ (H : Heap) (locs : List Loc), va_P G vwCl (wBB cI g0 g1 n g2 g3 n2 b) H → va_D A (wBB cI g0 g1 n g2 g3 n2 b) → va_S A s.heap H locs → ∀ ls : Array Slot, lv_has ls 3 [] → W p l e rmX0_addAll s m args below meth c H locs 0 0 Q (F0 m 25 ls []))) ?_
    rintro ⟨u, x2⟩ z h hI hE
    have h : fX0_addAll_s2 n n2 u x2 = some z := h
    unfold fX0_addAll_s2 at h
    show ∀ (H : Heap) (locs : List Loc), va_P G vwCl (wBB cI g0 g1 n g2 g3 n2 u) H → va_D A (wBB cI g0 g1 n g2 g3 n2 u) → va_S A s.heap H locs → ∀ ls : Array Slot, lv_has ls 3 [(0, .ref g0), (1, .ref g2), (2, .int x2)] → W p l e rmX0_addAll s m args below meth c H locs 0 0 Q (F0 m 2 ls [])
    intro H locs hP hD hS ls hl
    refine lv_iload_n hx hb dX0_addAll_2 rfl (lv_at hl 2 rfl) ?_
    refine lv_aload_n hx hb dX0_addAll_3 rfl (lv_at hl 1 rfl) ?_
    refine gf_X0_19 S hK hN hP 2 rfl (v := .int u.2.1) rfl dX0_addAll_4 ?_
    refine lv_icmp_ge (tgt := 25) hx hb dX0_addAll_7 (by decide) (fun c1 => ?_) (fun c1 => ?_)
    · have h := (if_pos c1).symm.trans h
      exact hE _ (Option.some.inj h) _ _ hP hD hS _ (lv_sub hl [] rfl)
    · have h := (if_neg c1).symm.trans h
      refine lv_aload_n hx hb dX0_addAll_10 rfl (lv_at hl 0 rfl) ?_
      refine lv_aload_n hx hb dX0_addAll_11 rfl (lv_at hl 1 rfl) ?_
      refine lv_iload_n hx hb dX0_addAll_12 rfl (lv_at hl 2 rfl) ?_
      obtain ⟨z2, e_z2, h⟩ := bnd h
      refine roI (cc_X0_23 g2 g3 n2 S hK hN (hP.sub [2, 3] rfl) e_z2 hl.1 (Nat.le_of_ble_eq_true rfl) ⟨Nat.le_of_ble_eq_true rfl, Nat.le_of_ble_eq_true rfl⟩ dX0_addAll_13 ⟨Nat.le_of_ble_eq_true rfl, Nat.le_of_ble_eq_true rfl⟩) ?_
      obtain ⟨z3, e_z3, h⟩ := bnd h
      refine mjv (cc_X0_27 g0 g1 n S hK hN (hP.sub [0, 1] rfl) (hD.sub [0, 1] (by decide) rfl) e_z3 hl.1 (Nat.le_of_ble_eq_true rfl) ⟨Nat.le_of_ble_eq_true rfl, Nat.le_of_ble_eq_true rfl⟩ dX0_addAll_16 ⟨Nat.le_of_ble_eq_true rfl, Nat.le_of_ble_eq_true rfl⟩) hS hP hD hA [0, 1] [2, 3] rfl rfl (by decide) (by decide) [2, 3, 0, 1] (by decide) (wBB cI g0 g1 n g2 g3 n2 (z3, u.2)) rfl (fun H locs hP hD hS => ?_)
      refine lv_iinc (v := (x2 + 1)) (lv' := [(2, .int (x2 + 1)), (0, .ref g0), (1, .ref g2)]) hx hb dX0_addAll_19 hl (k := 2) rfl rfl (by decide) rfl (fun ls hl => ?_)
      refine lv_goto (tgt := 2) hx hb dX0_addAll_22 (by decide) ?_
      exact hI _ (Option.some.inj h) _ _ hP hD hS _ (lv_sub hl [1, 2, 0] rfl)
  refine lv_iconst (v := 0) hx hb dX0_addAll_0 (by decide) ?_
  refine lv_istore_n (lv' := [(2, .int (0 : Int32)), (0, .ref g0), (1, .ref g2)]) hx hb dX0_addAll_1 rfl hl (by decide) rfl (fun ls hl => ?_)
  obtain ⟨b4, e_b4, h⟩ := bnd h
  refine L2 _ _ _ e_b4 ?_ _ _ hP hD hS _ (lv_sub hl [1, 2, 0] rfl)
  intro H locs hP hD hS ls hl
  exact retMv hQ S hr hlocks hK hN hP hD hS h dX0_addAll_25

def fX0_empty (n : Nat) (u : TB) : Option (TB) := some ((0 : Int32), u.2)
abbrev rmX0_empty : Room := { frames := 0, cells := 0, slots := 0, locals := 0 }
set_option maxRecDepth 100000 in
set_option maxHeartbeats 4000000 in
theorem kX0_empty (l : Launch) (G : va_G) (cI cS : ClassId) (g0 g1 n : Nat) (sz : Nat) (u : TB) (r : TB) (hf : fX0_empty n u = some r) : Met l yX0_empty (.code yX0_empty cX0_empty 1 none :: bw) rmX0_empty (va_Pc [.ref g0] (PreM G (tysW cI cS) (wB cI g0 g1 n u) sz)) (va_Qv (fun u' => u' = r) (PoM G (tysW cI cS) (va_A (wB cI g0 g1 n u) sz) (wB cI g0 g1 n)) (va_A (wB cI g0 g1 n u) sz)) 0 0 (va_A (wB cI g0 g1 n u) sz) := by
  refine enterM (own := RX0) (by decide) rfl (Nat.le_of_ble_eq_true rfl) ?_
  intro p e s m args below meth c A Q hAe hQ S hr hlocks hP hK hN hD hA hS ls hl
  rw [hAe] at hQ
  have hx := S.1; have hb := S.2.1; have hml := S.2.2.1; have hown := S.2.2.2.1; have hq := S.2.2.2.2
  have hl : lv_has ls 1 [(0, .ref g0)] := hl
  have h := hf
  unfold fX0_empty at h
  refine lv_aload_n hx hb dX0_empty_0 rfl (lv_at hl 0 rfl) ?_
  refine lv_iconst (v := 0) hx hb dX0_empty_1 (by decide) ?_
  refine pf_X0_19 S hK hN hP hD hS 0 rfl (Nat.le_of_ble_eq_true rfl) dX0_empty_2 (fun H locs hP hD hS => ?_)
  have hP : va_P G vwCl (wB cI g0 g1 n ((0 : Int32), u.2)) H := hP
  have hD : va_D A (wB cI g0 g1 n ((0 : Int32), u.2)) := hD
  exact retMv hQ S hr hlocks hK hN hP hD hS h dX0_empty_5

theorem cc_X0_31 {p : Program} {l : Launch} {e : Env} {R : Room} {s : State} {m : MethodId} {args : Array Value} {below : List Frame} {meth : Method} {c : Code} {H : Heap} {locs : List Loc} {cells slots : Nat} {cc : ByteArray} {pc nL : Nat} {ls : Array Slot} {rest : List Value} {G : va_G} {A : Nat → Prop} (g0 g1 n : Nat) {cI cS : ClassId} {u : TB}  {r : TB} (S : CallFix p m c cc nL s args bw RX0) (hK : va_K G vwCl (tysW cI cS) s) (hN : NW s) (hP : va_P G vwCl (wB cI g0 g1 n u) H) (hD : va_D A (wB cI g0 g1 n u)) (hf : fX0_empty n u = some r) (hsz : ls.size = nL) (hst : (rest.map fun v => v.category).sum ≤ 8) (hR : rmX0_empty.frames + 1 ≤ R.frames ∧ 8 + (1 + 11) + rmX0_empty.locals ≤ R.locals) (hdg : decode cc pc = .ok (.invokevirtual 31, 3)) (hcs : cells + 0 ≤ R.cells ∧ slots + 0 ≤ R.slots) : va_Run p l e R s m args below meth c H locs cells slots 0 0 (F0 m pc ls (.ref g0 :: rest)) rest (va_Qv (fun u' => u' = r) (PoM G (tysW cI cS) (va_A (wB cI g0 g1 n u) H.size) (wB cI g0 g1 n)) (va_A (wB cI g0 g1 n u) H.size) (#[.ref g0] : Array Value)) (va_A (wB cI g0 g1 n u) H.size) :=
  va_runV (As := []) (rest := rest) S (kX0_empty l G cI cS g0 g1 n H.size u r hf) (cwV 0 S.2.2.2.2 (gdV q_23 q_24 q_25 q_17 q_21) rfl rfl rfl (by decide +kernel) hR) (pvM (q := (RX0, TX0, 2)) hK hN hP hD (ci := 0) (q0 := 0) rfl rfl) rfl rfl hsz rfl (lv_room hst) hdg hcs
def fX0_takePart_s7 (n n2 : Nat) (u : TB × TB) (x3 : Int32) (x4 : Int32) : Option (((TB × TB) × Int32 × Int32) ⊕ (TB × TB)) := (if x3 ≤ x4 then some (.inr u) else ((fX0_at n2 u.2 x4).bind fun z2 => ((fX0_add n u.1 z2).bind fun z3 => some (.inl ((z3, u.2), x3, (x4 + 1))))))
def fX0_takePart (n n2 : Nat) (u : TB × TB) (p1 : Int32) (p2 : Int32) : Option (TB × TB) := ((fX0_empty n u.1).bind fun z4 => ((itr (fun a : (TB × TB) × Int32 × Int32 => fX0_takePart_s7 n n2 a.1 a.2.1 a.2.2) FU ((z4, u.2), p2, p1)).bind fun b5 => some b5))
abbrev rmX0_takePart : Room := { frames := 1, cells := 0, slots := 0, locals := 21 }
set_option maxRecDepth 100000 in
set_option maxHeartbeats 4000000 in
theorem kX0_takePart (l : Launch) (G : va_G) (cI cS : ClassId) (g0 g1 n g2 g3 n2 : Nat) (sz : Nat) (u : TB × TB) (p1 : Int32) (p2 : Int32) (r : TB × TB) (hf : fX0_takePart n n2 u p1 p2 = some r) : Met l yX0_takePart (.code yX0_takePart cX0_takePart 5 none :: bw) rmX0_takePart (va_Pc [.ref g0, .ref g2, .int p1, .int p2] (PreM G (tysW cI cS) (wBB cI g0 g1 n g2 g3 n2 u) sz)) (va_Qv (fun u' => u' = r) (PoM G (tysW cI cS) (va_A (wBB cI g0 g1 n g2 g3 n2 u) sz) (wBB cI g0 g1 n g2 g3 n2)) (va_A (wBB cI g0 g1 n g2 g3 n2 u) sz)) 0 0 (va_A (wBB cI g0 g1 n g2 g3 n2 u) sz) := by
  refine enterM (own := RX0) (by decide) rfl (Nat.le_of_ble_eq_true rfl) ?_
  intro p e s m args below meth c A Q hAe hQ S hr hlocks hP hK hN hD hA hS ls hl
  rw [hAe] at hQ
  have hx := S.1; have hb := S.2.1; have hml := S.2.2.1; have hown := S.2.2.2.1; have hq := S.2.2.2.2
  have hl : lv_has ls 5 [(0, .ref g0), (1, .ref g2), (2, .int p1), (3, .int p2)] := hl
  have h := hf
  unfold fX0_takePart at h
  have L7 : ∀ (n9 : Nat) (a9 : (TB × TB) × Int32 × Int32) (b9 : TB × TB), itr (fun a : (TB × TB) × Int32 × Int32 => fX0_takePart_s7 n n2 a.1 a.2.1 a.2.2) n9 a9 = some b9 → (fun b : TB × TB => ∀ (H : Heap) (locs : List Loc), va_P G vwCl (wBB cI g0 g1 n g2 g3 n2 b) H → va_D A (wBB cI g0 g1 n g2 g3 n2 b) → va_S A s.heap H locs → ∀ ls : Array Slot, lv_has ls 5 [] → W p l e rmX0_takePart s m args below meth c H locs 0 0 Q (F0 m 29 ls [])) b9 → (fun a : (TB × TB) × Int32 × Int32 => ∀ (H : Heap) (locs : List Loc), va_P G vwCl (wBB cI g0 g1 n g2 g3 n2 a.1) H → va_D A (wBB cI g0 g1 n g2 g3 n2 a.1) → va_S A s.heap H locs → ∀ ls : Array Slot, lv_has ls 5 [(0, .ref g0), (1, .ref g2), (3, .int a.2.1), (4, .int a.2.2)] → W p l e rmX0_takePart s m args below meth c H locs 0 0 Q (F0 m 7 ls [])) a9 := by
    refine itr_ind (Inv := (fun a : (TB × TB) × Int32 × Int32 => ∀ (H : Heap) (locs : List Loc), va_P G vwCl (wBB cI g0 g1 n g2 g3 n2 a.1) H → va_D A (wBB cI g0 g1 n g2 g3 n2 a.1) → va_S A s.heap H locs → ∀ ls : Array Slot, lv_has ls 5 [(0, .ref g0), (1, .ref g2), (3, .int a.2.1), (4, .int a.2.2)] → W p l e rmX0_takePart s m args below meth c H locs 0 0 Q (F0 m 7 ls []))) (Ex := (fun b : TB × TB => ∀ (H : Heap) (locs : List Loc), va_P G vwCl (wBB cI g0 g1 n g2 g3 n2 b) H → va_D A (wBB cI g0 g1 n g2 g3 n2 b) → va_S A s.heap H locs → ∀ ls : Array Slot, lv_has ls 5 [] → W p l e rmX0_takePart s m args below meth c H locs 0 0 Q (F0 m 29 ls []))) ?_
    rintro ⟨u, x3, x4⟩ z h hI hE
    have h : fX0_takePart_s7 n n2 u x3 x4 = some z := h
    unfold fX0_takePart_s7 at h
    show ∀ (H : Heap) (locs : List Loc), va_P G vwCl (wBB cI g0 g1 n g2 g3 n2 u) H → va_D A (wBB cI g0 g1 n g2 g3 n2 u) → va_S A s.heap H locs → ∀ ls : Array Slot, lv_has ls 5 [(0, .ref g0), (1, .ref g2), (3, .int x3), (4, .int x4)] → W p l e rmX0_takePart s m args below meth c H locs 0 0 Q (F0 m 7 ls [])
    intro H locs hP hD hS ls hl
    refine lv_iload hx hb dX0_takePart_7 (lv_at hl 3 rfl) ?_
    refine lv_iload_n hx hb dX0_takePart_9 rfl (lv_at hl 2 rfl) ?_
    refine lv_icmp_ge (tgt := 29) hx hb dX0_takePart_10 (by decide) (fun c1 => ?_) (fun c1 => ?_)
    · have h := (if_pos c1).symm.trans h
      exact hE _ (Option.some.inj h) _ _ hP hD hS _ (lv_sub hl [] rfl)
    · have h := (if_neg c1).symm.trans h
      refine lv_aload_n hx hb dX0_takePart_13 rfl (lv_at hl 0 rfl) ?_
      refine lv_aload_n hx hb dX0_takePart_14 rfl (lv_at hl 1 rfl) ?_
      refine lv_iload hx hb dX0_takePart_15 (lv_at hl 3 rfl) ?_
      obtain ⟨z2, e_z2, h⟩ := bnd h
      refine roI (cc_X0_23 g2 g3 n2 S hK hN (hP.sub [2, 3] rfl) e_z2 hl.1 (Nat.le_of_ble_eq_true rfl) ⟨Nat.le_of_ble_eq_true rfl, Nat.le_of_ble_eq_true rfl⟩ dX0_takePart_17 ⟨Nat.le_of_ble_eq_true rfl, Nat.le_of_ble_eq_true rfl⟩) ?_
      obtain ⟨z3, e_z3, h⟩ := bnd h
      refine mjv (cc_X0_27 g0 g1 n S hK hN (hP.sub [0, 1] rfl) (hD.sub [0, 1] (by decide) rfl) e_z3 hl.1 (Nat.le_of_ble_eq_true rfl) ⟨Nat.le_of_ble_eq_true rfl, Nat.le_of_ble_eq_true rfl⟩ dX0_takePart_20 ⟨Nat.le_of_ble_eq_true rfl, Nat.le_of_ble_eq_true rfl⟩) hS hP hD hA [0, 1] [2, 3] rfl rfl (by decide) (by decide) [2, 3, 0, 1] (by decide) (wBB cI g0 g1 n g2 g3 n2 (z3, u.2)) rfl (fun H locs hP hD hS => ?_)
      refine lv_iinc (v := (x4 + 1)) (lv' := [(4, .int (x4 + 1)), (0, .ref g0), (1, .ref g2), (3, .int x3)]) hx hb dX0_takePart_23 hl (k := 3) rfl rfl (by decide) rfl (fun ls hl => ?_)
      refine lv_goto (tgt := 7) hx hb dX0_takePart_26 (by decide) ?_
      exact hI _ (Option.some.inj h) _ _ hP hD hS _ (lv_sub hl [1, 2, 3, 0] rfl)
  refine lv_aload_n hx hb dX0_takePart_0 rfl (lv_at hl 0 rfl) ?_
  obtain ⟨z4, e_z4, h⟩ := bnd h
  refine mjv (cc_X0_31 g0 g1 n S hK hN (hP.sub [0, 1] rfl) (hD.sub [0, 1] (by decide) rfl) e_z4 hl.1 (Nat.le_of_ble_eq_true rfl) ⟨Nat.le_of_ble_eq_true rfl, Nat.le_of_ble_eq_true rfl⟩ dX0_takePart_1 ⟨Nat.le_of_ble_eq_true rfl, Nat.le_of_ble_eq_true rfl⟩) hS hP hD hA [0, 1] [2, 3] rfl rfl (by decide) (by decide) [2, 3, 0, 1] (by decide) (wBB cI g0 g1 n g2 g3 n2 (z4, u.2)) rfl (fun H locs hP hD hS => ?_)
  refine lv_iload_n hx hb dX0_takePart_4 rfl (lv_at hl 2 rfl) ?_
  refine lv_istore (lv' := [(4, .int p1), (0, .ref g0), (1, .ref g2), (2, .int p1), (3, .int p2)]) hx hb dX0_takePart_5 hl (by decide) rfl (fun ls hl => ?_)
  obtain ⟨b5, e_b5, h⟩ := bnd h
  refine L7 _ _ _ e_b5 ?_ _ _ hP hD hS _ (lv_sub hl [1, 2, 4, 0] rfl)
  intro H locs hP hD hS ls hl
  exact retMv hQ S hr hlocks hK hN hP hD hS h dX0_takePart_29
