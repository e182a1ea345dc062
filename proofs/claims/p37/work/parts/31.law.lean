theorem cc_L_108 {p : Program} {l : Launch} {e : Env} {R : Room} {s : State} {m : MethodId} {args : Array Value} {below : List Frame} {meth : Method} {c : Code} {H : Heap} {locs : List Loc} {cells slots : Nat} {cc : ByteArray} {pc nL : Nat} {ls : Array Slot} {rest : List Value} {G : va_G} (sv : Nat) (ga : Nat → Nat) {cI cS : ClassId} {u : TH}  {r : Int32} (S : CallFix p m c cc nL s args bw RL) (hK : va_K G vwCl (tysW cI cS) s) (hN : NW s) (hP : va_P G vwCl (wH cI sv ga u) H) (hf : fL_holds u = some r) (hsz : ls.size = nL) (hst : (rest.map fun v => v.category).sum ≤ 8) (hR : rmL_holds.frames + 1 ≤ R.frames ∧ 8 + (9 + 11) + rmL_holds.locals ≤ R.locals) (hdg : decode cc pc = .ok (.invokestatic 108, 3)) (hcs : cells + 0 ≤ R.cells ∧ slots + 0 ≤ R.slots) : va_Run p l e R s m args below meth c H locs cells slots 0 0 (F0 m pc ls (.ref (ga 0) :: rest)) rest (vp_Si (fun r' => r' = r) (#[.ref (ga 0)] : Array Value)) (fun _ => False) :=
  va_runS (As := [.ref (ga 0)]) (rest := rest) S (kL_holds l G cI cS sv ga u r hf) (cwS 1 S.2.2.2.2 (gdS q_406 q_407 q_357 q_354) rfl rfl rfl (by decide +kernel) hR) (psR hK hN hP) rfl rfl hsz rfl (lv_room hst) hdg hcs
theorem cc_L_116 {p : Program} {l : Launch} {e : Env} {R : Room} {s : State} {m : MethodId} {args : Array Value} {below : List Frame} {meth : Method} {c : Code} {H : Heap} {locs : List Loc} {cells slots : Nat} {cc : ByteArray} {pc nL : Nat} {ls : Array Slot} {rest : List Value} {G : va_G} (sv : Nat) (ga : Nat → Nat) {cI cS : ClassId} {u : TH}  {r : Int64} (S : CallFix p m c cc nL s args bw RL) (hK : va_K G vwCl (tysW cI cS) s) (hN : NW s) (hP : va_P G vwCl (wH cI sv ga u) H) (hf : fX4_digest u = some r) (hsz : ls.size = nL) (hst : (rest.map fun v => v.category).sum ≤ 8) (hR : rmX4_digest.frames + 1 ≤ R.frames ∧ 8 + (5 + 11) + rmX4_digest.locals ≤ R.locals) (hdg : decode cc pc = .ok (.invokevirtual 116, 3)) (hcs : cells + 0 ≤ R.cells ∧ slots + 0 ≤ R.slots) : va_Run p l e R s m args below meth c H locs cells slots 0 0 (F0 m pc ls (.ref (ga 0) :: rest)) rest (vp_Sl (fun r' => r' = r) (#[.ref (ga 0)] : Array Value)) (fun _ => False) :=
  va_runV (As := []) (rest := rest) S (kX4_digest l G cI cS sv ga u r hf) (cwV 0 S.2.2.2.2 (gdV q_410 q_411 q_412 q_49 q_323) rfl rfl rfl (by decide +kernel) hR) (pvR (q := (RX4, TX4, 8)) hK hN hP (ci := 4) (q0 := 0) rfl rfl) rfl rfl hsz rfl (lv_room hst) hdg hcs
theorem cc_L_120 {p : Program} {l : Launch} {e : Env} {R : Room} {s : State} {m : MethodId} {args : Array Value} {below : List Frame} {meth : Method} {c : Code} {H : Heap} {locs : List Loc} {cells slots : Nat} {cc : ByteArray} {pc nL : Nat} {ls : Array Slot} {rest : List Value} {G : va_G} (sv : Nat) (ga : Nat → Nat) {cI cS : ClassId} {u : TH}  {r : Int32} (S : CallFix p m c cc nL s args bw RL) (hK : va_K G vwCl (tysW cI cS) s) (hN : NW s) (hP : va_P G vwCl (wH cI sv ga u) H) (hf : fX4_savedStates u = some r) (hsz : ls.size = nL) (hst : (rest.map fun v => v.category).sum ≤ 8) (hR : rmX4_savedStates.frames + 1 ≤ R.frames ∧ 8 + (1 + 11) + rmX4_savedStates.locals ≤ R.locals) (hdg : decode cc pc = .ok (.invokevirtual 120, 3)) (hcs : cells + 0 ≤ R.cells ∧ slots + 0 ≤ R.slots) : va_Run p l e R s m args below meth c H locs cells slots 0 0 (F0 m pc ls (.ref (ga 0) :: rest)) rest (vp_Si (fun r' => r' = r) (#[.ref (ga 0)] : Array Value)) (fun _ => False) :=
  va_runV (As := []) (rest := rest) S (kX4_savedStates l G cI cS sv ga u r hf) (cwV 0 S.2.2.2.2 (gdV q_413 q_414 q_415 q_49 q_307) rfl rfl rfl (by decide +kernel) hR) (pvR (q := (RX4, TX4, 8)) hK hN hP (ci := 4) (q0 := 0) rfl rfl) rfl rfl hsz rfl (lv_room hst) hdg hcs
theorem cc_L_123 {p : Program} {l : Launch} {e : Env} {R : Room} {s : State} {m : MethodId} {args : Array Value} {below : List Frame} {meth : Method} {c : Code} {H : Heap} {locs : List Loc} {cells slots : Nat} {cc : ByteArray} {pc nL : Nat} {ls : Array Slot} {rest : List Value} {G : va_G} {A : Nat → Prop} (sv : Nat) (ga : Nat → Nat) {cI cS : ClassId} {u : THS}  {p1 : Int32} {p2 : Int32} {r : Int32 × THS} (S : CallFix p m c cc nL s args bw RL) (hK : va_K G vwCl (tysW cI cS) s) (hN : NW s) (hP : va_P G vwCl (wHS cI cS sv ga u) H) (hD : va_D A (wHS cI cS sv ga u)) (hf : fL_acts u p1 p2 = some r) (hsz : ls.size = nL) (hst : (rest.map fun v => v.category).sum ≤ 8) (hR : rmL_acts.frames + 1 ≤ R.frames ∧ 8 + (14 + 11) + rmL_acts.locals ≤ R.locals) (hdg : decode cc pc = .ok (.invokestatic 123, 3)) (hcs : cells + 0 ≤ R.cells ∧ slots + 0 ≤ R.slots) : va_Run p l e R s m args below meth c H locs cells slots 0 0 (F0 m pc ls (.int p2 :: .int p1 :: .ref (ga 0) :: rest)) rest (va_Qi (fun r' u' => (r', u') = r) (PoM G (tysW cI cS) (va_A (wHS cI cS sv ga u) H.size) (wHS cI cS sv ga)) (va_A (wHS cI cS sv ga u) H.size) (#[.ref (ga 0), .int p1, .int p2] : Array Value)) (va_A (wHS cI cS sv ga u) H.size) :=
  va_runS (As := [.ref (ga 0), .int p1, .int p2]) (rest := rest) S (kL_acts l G cI cS sv ga H.size u p1 p2 r hf) (cwS 3 S.2.2.2.2 (gdS q_416 q_417 q_357 q_401) rfl rfl rfl (by decide +kernel) hR) (psM hK hN hP hD) rfl rfl hsz rfl (lv_room hst) hdg hcs
theorem cc_L_127 {p : Program} {l : Launch} {e : Env} {R : Room} {s : State} {m : MethodId} {args : Array Value} {below : List Frame} {meth : Method} {c : Code} {H : Heap} {locs : List Loc} {cells slots : Nat} {cc : ByteArray} {pc nL : Nat} {ls : Array Slot} {rest : List Value} {G : va_G} {A : Nat → Prop} (sv : Nat) (ga : Nat → Nat) {cI cS : ClassId} {u : THS}  {r : Int32 × THS} (S : CallFix p m c cc nL s args bw RL) (hK : va_K G vwCl (tysW cI cS) s) (hN : NW s) (hP : va_P G vwCl (wHS cI cS sv ga u) H) (hD : va_D A (wHS cI cS sv ga u)) (hf : fX4_undo u = some r) (hsz : ls.size = nL) (hst : (rest.map fun v => v.category).sum ≤ 8) (hR : rmX4_undo.frames + 1 ≤ R.frames ∧ 8 + (1 + 11) + rmX4_undo.locals ≤ R.locals) (hdg : decode cc pc = .ok (.invokevirtual 127, 3)) (hcs : cells + 0 ≤ R.cells ∧ slots + 0 ≤ R.slots) : va_Run p l e R s m args below meth c H locs cells slots 0 0 (F0 m pc ls (.ref (ga 0) :: rest)) rest (va_Qi (fun r' u' => (r', u') = r) (PoM G (tysW cI cS) (va_A (wHS cI cS sv ga u) H.size) (wHS cI cS sv ga)) (va_A (wHS cI cS sv ga u) H.size) (#[.ref (ga 0)] : Array Value)) (va_A (wHS cI cS sv ga u) H.size) :=
  va_runV (As := []) (rest := rest) S (kX4_undo l G cI cS sv ga H.size u r hf) (cwV 0 S.2.2.2.2 (gdV q_418 q_419 q_420 q_49 q_306) rfl rfl rfl (by decide +kernel) hR) (pvM (q := (RX4, TX4, 8)) hK hN hP hD (ci := 4) (q0 := 0) rfl rfl) rfl rfl hsz rfl (lv_room hst) hdg hcs
def fL_law_j219 (L : Nat) (xs : Nat → Int32) (u : THS) (x3 : Int32) (t0 : Int32) : Option ((THS × Int32 × Int32) ⊕ (THS × Int32)) := some (.inl (u, t0, (x3 + 1)))
def fL_law_j218 (L : Nat) (xs : Nat → Int32) (u : THS) (x3 : Int32) : Option ((THS × Int32 × Int32) ⊕ (THS × Int32)) := fL_law_j219 L xs u x3 (0 : Int32)
def fL_law_j203 (L : Nat) (xs : Nat → Int32) (u : THS) (x2 : Int32) (x3 : Int32) : Option ((THS × Int32 × Int32) ⊕ (THS × Int32)) := (if x2 = 0 then fL_law_j218 L xs u x3 else ((fL_holds u.1).bind fun z2 => (if z2 = 0 then fL_law_j218 L xs u x3 else fL_law_j219 L xs u x3 (1 : Int32))))
def fL_law_j202 (L : Nat) (xs : Nat → Int32) (u : THS) (x3 : Int32) (t0 : Int32) : Option ((THS × Int32 × Int32) ⊕ (THS × Int32)) := fL_law_j203 L xs u t0 x3
def fL_law_j201 (L : Nat) (xs : Nat → Int32) (u : THS) (x3 : Int32) : Option ((THS × Int32 × Int32) ⊕ (THS × Int32)) := fL_law_j202 L xs u x3 (0 : Int32)
def fL_law_j122 (L : Nat) (xs : Nat → Int32) (u : THS) (x2 : Int32) (x3 : Int32) (x4 : Int32) (x5 : Int32) (x6 : Int64) (t0 : Int32) : Option ((THS × Int32 × Int32) ⊕ (THS × Int32)) := (if x2 = 0 then fL_law_j203 L xs u x2 x3 else (if t0 = 0 then fL_law_j203 L xs u x2 x3 else (if ((x4 >>> ((8 : Int32) &&& 31)) &&& (3 : Int32)) = 0 then ((fX4_digest u.1).bind fun z7 => ((fX4_savedStates u.1).bind fun z8 => ((fX4_undo u).bind fun z9 => (if z9.1 = (z8 - (1 : Int32)) then ((fX4_digest z9.2.1).bind fun z11 => (if (lg_cmp z11 x6) = 0 then ((fL_acts z9.2 x4 x5).bind fun z13 => (if z13.1 = 0 then fL_law_j201 L xs z13.2 x3 else ((fX4_digest z13.2.1).bind fun z15 => (if (lg_cmp z15 z7) = 0 then fL_law_j202 L xs z13.2 x3 (1 : Int32) else fL_law_j201 L xs z13.2 x3)))) else fL_law_j201 L xs z9.2 x3)) else fL_law_j201 L xs z9.2 x3)))) else fL_law_j203 L xs u x2 x3)))
def fL_law_j121 (L : Nat) (xs : Nat → Int32) (u : THS) (x2 : Int32) (x3 : Int32) (x4 : Int32) (x5 : Int32) (x6 : Int64) : Option ((THS × Int32 × Int32) ⊕ (THS × Int32)) := fL_law_j122 L xs u x2 x3 x4 x5 x6 (0 : Int32)
def fL_law_j117 (L : Nat) (xs : Nat → Int32) (u : THS) (x2 : Int32) (x3 : Int32) (x4 : Int32) (x5 : Int32) (x6 : Int64) : Option ((THS × Int32 × Int32) ⊕ (THS × Int32)) := fL_law_j122 L xs u x2 x3 x4 x5 x6 (1 : Int32)
def fL_law_s40 (L : Nat) (xs : Nat → Int32) (u : THS) (x2 : Int32) (x3 : Int32) : Option ((THS × Int32 × Int32) ⊕ (THS × Int32)) := (if (44 : Int32) ≤ x3 then some (.inr (u, x2)) else (if x2 = 0 then some (.inr (u, x2)) else ((fL_cell L xs ((2 : Int32) * x3)).bind fun z19 => ((fL_cell L xs (((2 : Int32) * x3) + (1 : Int32))).bind fun z20 => ((fX4_digest u.1).bind fun z21 => ((fX4_savedStates u.1).bind fun z22 => ((fL_acts u z19 z20).bind fun z23 => ((fX4_savedStates z23.2.1).bind fun z24 => (if z24 = z22 then (if z22 = (6 : Int32) then ((fX4_digest z23.2.1).bind fun z27 => (if (lg_cmp z27 z21) = 0 then fL_law_j121 L xs z23.2 z23.1 x3 z19 z20 z21 else fL_law_j117 L xs z23.2 z23.1 x3 z19 z20 z21)) else fL_law_j121 L xs z23.2 z23.1 x3 z19 z20 z21) else fL_law_j117 L xs z23.2 z23.1 x3 z19 z20 z21)))))))))
def fL_law_j37 (L : Nat) (xs : Nat → Int32) (u : THS) (t0 : Int32) : Option (Int32) := ((itr (fun a : THS × Int32 × Int32 => fL_law_s40 L xs a.1 a.2.1 a.2.2) FU (u, t0, (0 : Int32))).bind fun b29 => some b29.2)
def fL_law_j36 (L : Nat) (xs : Nat → Int32) (u : THS) : Option (Int32) := fL_law_j37 L xs u (0 : Int32)
def fL_law (L : Nat) (xs : Nat → Int32) (u : THS) : Option Int32 := ((fL_holds u.1).bind fun z30 => (if z30 = 0 then fL_law_j36 L xs u else ((fX4_next u.1 (0 : Int32)).bind fun z32 => (if z32 = ((-1) : Int32) then ((fX4_ifInserted u.1 (0 : Int32)).bind fun z34 => (if z34 = 0 then fL_law_j37 L xs u (1 : Int32) else fL_law_j36 L xs u)) else fL_law_j36 L xs u))))
set_option maxRecDepth 100000 in
set_option maxHeartbeats 4000000 in
theorem kL_law {p : Program} {l : Launch} {e : Env} {s : State} {m : MethodId} {below : List Frame} {meth : Method} {c : Code} {bs L : Nat} {xs : Nat → Int32} {G : va_G} {cI cS : ClassId} {A : Nat → Prop} (hAe : A = fun q : Nat => s.heap.size ≤ q) (S : CallFix p m c code 13 s #[Value.ref bs] bw RL) (hr : meth.sig.returnType = ret) (hlocks : meth.locks = false) (hK : va_K G vwCl (tysW cI cS) s) (hN : NW s) (hA : ∀ q, s.heap.size ≤ q → A q) (hX0 : va_X bs L xs s s.heap) (hbl : bs < s.heap.size) (hbA : ¬ A bs) (sv : Nat) (ga : Nat → Nat) (u : THS) (r : Int32) (hr1 : r = 1) (hf : fL_law L xs u = some r) (Q : State → Prop) (hQ : Q = lw_Z below #[Value.ref bs] s) (H : Heap) (locs : List Loc) (hP : va_P G vwCl (wHS cI cS sv ga u) H) (hD : va_D A (wHS cI cS sv ga u)) (hS : va_S A s.heap H locs) (ls : Array Slot) (hl : lv_has ls 13 [(0, .ref bs), (1, .ref (ga 0))]) : W p l e room_1 s m #[Value.ref bs] below meth c H locs 26 7542 Q (F0 m 8 ls []) := by
  have hx := S.1; have hb := S.2.1; have hml := S.2.2.1; have hown := S.2.2.2.1; have hq := S.2.2.2.2
  have h := hf
  unfold fL_law at h
  have L40 : ∀ (n9 : Nat) (a9 : THS × Int32 × Int32) (b9 : THS × Int32), itr (fun a : THS × Int32 × Int32 => fL_law_s40 L xs a.1 a.2.1 a.2.2) n9 a9 = some b9 → (fun b : THS × Int32 => ∀ (H : Heap) (locs : List Loc), va_P G vwCl (wHS cI cS sv ga b.1) H → va_D A (wHS cI cS sv ga b.1) → va_S A s.heap H locs → ∀ ls : Array Slot, lv_has ls 13 [(2, .int b.2)] → W p l e room_1 s m #[Value.ref bs] below meth c H locs 26 7542 Q (F0 m 226 ls [])) b9 → (fun a : THS × Int32 × Int32 => ∀ (H : Heap) (locs : List Loc), va_P G vwCl (wHS cI cS sv ga a.1) H → va_D A (wHS cI cS sv ga a.1) → va_S A s.heap H locs → ∀ ls : Array Slot, lv_has ls 13 [(0, .ref bs), (1, .ref (ga 0)), (2, .int a.2.1), (3, .int a.2.2)] → W p l e room_1 s m #[Value.ref bs] below meth c H locs 26 7542 Q (F0 m 40 ls [])) a9 := by
    refine itr_ind (Inv := (fun a : THS × Int32 × Int32 => ∀ (H : Heap) (locs : List Loc), va_P G vwCl (wHS cI cS sv ga a.1) H → va_D A (wHS cI cS sv ga a.1) → va_S A s.heap H locs → ∀ ls : Array Slot, lv_has ls 13 [(0, .ref bs), (1, .ref (ga 0)), (2, .int a.2.1), (3, .int a.2.2)] → W p l e room_1 s m #[Value.ref bs] below meth c H locs 26 7542 Q (F0 m 40 ls []))) (Ex := (fun b : THS × Int32 => ∀ (H : Heap) (locs : List Loc), va_P G vwCl (wHS cI cS sv ga b.1) H → va_D A (wHS cI cS sv ga b.1) → va_S A s.heap H locs → ∀ ls : Array Slot, lv_has ls 13 [(2, .int b.2)] → W p l e room_1 s m #[Value.ref bs] below meth c H locs 26 7542 Q (F0 m 226 ls []))) ?_
    rintro ⟨u, x2, x3⟩ z h hI hE
    have h : fL_law_s40 L xs u x2 x3 = some z := h
    unfold fL_law_s40 at h
    show ∀ (H : Heap) (locs : List Loc), va_P G vwCl (wHS cI cS sv ga u) H → va_D A (wHS cI cS sv ga u) → va_S A s.heap H locs → ∀ ls : Array Slot, lv_has ls 13 [(0, .ref bs), (1, .ref (ga 0)), (2, .int x2), (3, .int x3)] → W p l e room_1 s m #[Value.ref bs] below meth c H locs 26 7542 Q (F0 m 40 ls [])
    have J219 : ∀ (u : THS) (x3 : Int32) (t0 : Int32) , fL_law_j219 L xs u x3 t0 = some z → ∀ (H : Heap) (locs : List Loc), va_P G vwCl (wHS cI cS sv ga u) H → va_D A (wHS cI cS sv ga u) → va_S A s.heap H locs → ∀ ls : Array Slot, lv_has ls 13 [(0, .ref bs), (1, .ref (ga 0)), (3, .int x3)] → W p l e room_1 s m #[Value.ref bs] below meth c H locs 26 7542 Q (F0 m 219 ls [.int t0]) := by
      intro u x3 t0 h
      unfold fL_law_j219 at h
      intro H locs hP hD hS ls hl
      refine lv_istore_n (lv' := [(2, .int t0), (0, .ref bs), (1, .ref (ga 0)), (3, .int x3)]) hx hb dL_law_219 rfl hl (by decide) rfl (fun ls hl => ?_)
      refine lv_iinc (v := (x3 + 1)) (lv' := [(3, .int (x3 + 1)), (2, .int t0), (0, .ref bs), (1, .ref (ga 0))]) hx hb dL_law_220 hl (k := 3) rfl rfl (by decide) rfl (fun ls hl => ?_)
      refine lv_goto (tgt := 40) hx hb dL_law_223 (by decide) ?_
      exact hI _ (Option.some.inj h) _ _ hP hD hS _ (lv_sub hl [2, 3, 1, 0] rfl)
    have J218 : ∀ (u : THS) (x3 : Int32) , fL_law_j218 L xs u x3 = some z → ∀ (H : Heap) (locs : List Loc), va_P G vwCl (wHS cI cS sv ga u) H → va_D A (wHS cI cS sv ga u) → va_S A s.heap H locs → ∀ ls : Array Slot, lv_has ls 13 [(0, .ref bs), (1, .ref (ga 0)), (3, .int x3)] → W p l e room_1 s m #[Value.ref bs] below meth c H locs 26 7542 Q (F0 m 218 ls []) := by
      intro u x3 h
      unfold fL_law_j218 at h
      intro H locs hP hD hS ls hl
      refine lv_iconst (v := 0) hx hb dL_law_218 (by decide) ?_
      exact J219 u x3 (0 : Int32) h _ _ hP hD hS _ (lv_sub hl [0, 1, 2] rfl)
    have J203 : ∀ (u : THS) (x2 : Int32) (x3 : Int32) , fL_law_j203 L xs u x2 x3 = some z → ∀ (H : Heap) (locs : List Loc), va_P G vwCl (wHS cI cS sv ga u) H → va_D A (wHS cI cS sv ga u) → va_S A s.heap H locs → ∀ ls : Array Slot, lv_has ls 13 [(0, .ref bs), (1, .ref (ga 0)), (2, .int x2), (3, .int x3)] → W p l e room_1 s m #[Value.ref bs] below meth c H locs 26 7542 Q (F0 m 203 ls []) := by
      intro u x2 x3 h
      unfold fL_law_j203 at h
      intro H locs hP hD hS ls hl
      refine lv_iload_n hx hb dL_law_203 rfl (lv_at hl 2 rfl) ?_
      refine lv_if_eq (tgt := 218) hx hb dL_law_204 (by decide) (fun c1 => ?_) (fun c1 => ?_)
      · have h := (if_pos c1).symm.trans h
        exact J218 u x3 h _ _ hP hD hS _ (lv_sub hl [0, 1, 3] rfl)
      · have h := (if_neg c1).symm.trans h
        refine lv_aload_n hx hb dL_law_207 rfl (lv_at hl 1 rfl) ?_
        obtain ⟨z2, e_z2, h⟩ := bnd h
        refine roI (cc_L_108 sv ga S hK hN (hP.sub [0, 1, 2, 3, 4, 5, 6, 7, 8, 9, 10, 11, 12] rfl) e_z2 hl.1 (Nat.le_of_ble_eq_true rfl) ⟨Nat.le_of_ble_eq_true rfl, Nat.le_of_ble_eq_true rfl⟩ dL_law_208 ⟨Nat.le_of_ble_eq_true rfl, Nat.le_of_ble_eq_true rfl⟩) ?_
        refine lv_if_eq (tgt := 218) hx hb dL_law_211 (by decide) (fun c3 => ?_) (fun c3 => ?_)
        · have h := (if_pos c3).symm.trans h
          exact J218 u x3 h _ _ hP hD hS _ (lv_sub hl [0, 1, 3] rfl)
        · have h := (if_neg c3).symm.trans h
          refine lv_iconst (v := 1) hx hb dL_law_214 (by decide) ?_
          refine lv_goto (tgt := 219) hx hb dL_law_215 (by decide) ?_
          exact J219 u x3 (1 : Int32) h _ _ hP hD hS _ (lv_sub hl [0, 1, 3] rfl)
    have J202 : ∀ (u : THS) (x3 : Int32) (t0 : Int32) , fL_law_j202 L xs u x3 t0 = some z → ∀ (H : Heap) (locs : List Loc), va_P G vwCl (wHS cI cS sv ga u) H → va_D A (wHS cI cS sv ga u) → va_S A s.heap H locs → ∀ ls : Array Slot, lv_has ls 13 [(0, .ref bs), (1, .ref (ga 0)), (3, .int x3)] → W p l e room_1 s m #[Value.ref bs] below meth c H locs 26 7542 Q (F0 m 202 ls [.int t0]) := by
      intro u x3 t0 h
      unfold fL_law_j202 at h
      intro H locs hP hD hS ls hl
      refine lv_istore_n (lv' := [(2, .int t0), (0, .ref bs), (1, .ref (ga 0)), (3, .int x3)]) hx hb dL_law_202 rfl hl (by decide) rfl (fun ls hl => ?_)
      exact J203 u t0 x3 h _ _ hP hD hS _ (lv_sub hl [1, 2, 0, 3] rfl)
    have J201 : ∀ (u : THS) (x3 : Int32) , fL_law_j201 L xs u x3 = some z → ∀ (H : Heap) (locs : List Loc), va_P G vwCl (wHS cI cS sv ga u) H → va_D A (wHS cI cS sv ga u) → va_S A s.heap H locs → ∀ ls : Array Slot, lv_has ls 13 [(0, .ref bs), (1, .ref (ga 0)), (3, .int x3)] → W p l e room_1 s m #[Value.ref bs] below meth c H locs 26 7542 Q (F0 m 201 ls []) := by
      intro u x3 h
      unfold fL_law_j201 at h
      intro H locs hP hD hS ls hl
      refine lv_iconst (v := 0) hx hb dL_law_201 (by decide) ?_
      exact J202 u x3 (0 : Int32) h _ _ hP hD hS _ (lv_sub hl [0, 1, 2] rfl)
    have J122 : ∀ (u : THS) (x2 : Int32) (x3 : Int32) (x4 : Int32) (x5 : Int32) (x6 : Int64) (t0 : Int32) , fL_law_j122 L xs u x2 x3 x4 x5 x6 t0 = some z → ∀ (H : Heap) (locs : List Loc), va_P G vwCl (wHS cI cS sv ga u) H → va_D A (wHS cI cS sv ga u) → va_S A s.heap H locs → ∀ ls : Array Slot, lv_has ls 13 [(0, .ref bs), (1, .ref (ga 0)), (2, .int x2), (3, .int x3), (4, .int x4), (5, .int x5), (6, .long x6)] → W p l e room_1 s m #[Value.ref bs] below meth c H locs 26 7542 Q (F0 m 122 ls [.int t0]) := by
      intro u x2 x3 x4 x5 x6 t0 h
      unfold fL_law_j122 at h
      intro H locs hP hD hS ls hl
      refine lv_istore (lv' := [(9, .int t0), (0, .ref bs), (1, .ref (ga 0)), (2, .int x2), (3, .int x3), (4, .int x4), (5, .int x5), (6, .long x6)]) hx hb dL_law_122 hl (by decide) rfl (fun ls hl => ?_)
      refine lv_iload_n hx hb dL_law_124 rfl (lv_at hl 3 rfl) ?_
      refine lv_if_eq (tgt := 203) hx hb dL_law_125 (by decide) (fun c4 => ?_) (fun c4 => ?_)
      · have h := (if_pos c4).symm.trans h
        exact J203 u x2 x3 h _ _ hP hD hS _ (lv_sub hl [1, 2, 3, 4] rfl)
      · have h := (if_neg c4).symm.trans h
        refine lv_iload hx hb dL_law_128 (lv_at hl 0 rfl) ?_
        refine lv_if_eq (tgt := 203) hx hb dL_law_130 (by decide) (fun c5 => ?_) (fun c5 => ?_)
        · have h := (if_pos c5).symm.trans h
          exact J203 u x2 x3 h _ _ hP hD hS _ (lv_sub hl [1, 2, 3, 4] rfl)
        · have h := (if_neg c5).symm.trans h
          refine lv_iload hx hb dL_law_133 (lv_at hl 5 rfl) ?_
          refine lv_bipush (v := 8) hx hb dL_law_135 (by decide) ?_
          refine lv_ishr hx hb dL_law_137 ?_
          refine lv_iconst (v := 3) hx hb dL_law_138 (by decide) ?_
          refine lv_iand hx hb dL_law_139 ?_
          refine lv_if_ne (tgt := 203) hx hb dL_law_140 (by decide) (fun c6 => ?_) (fun c6 => ?_)
          · have h := (if_neg c6).symm.trans h
            exact J203 u x2 x3 h _ _ hP hD hS _ (lv_sub hl [1, 2, 3, 4] rfl)
          · have h := (if_pos c6).symm.trans h
            refine lv_aload_n hx hb dL_law_143 rfl (lv_at hl 2 rfl) ?_
            obtain ⟨z7, e_z7, h⟩ := bnd h
            refine roL (cc_L_116 sv ga S hK hN (hP.sub [0, 1, 2, 3, 4, 5, 6, 7, 8, 9, 10, 11, 12] rfl) e_z7 hl.1 (Nat.le_of_ble_eq_true rfl) ⟨Nat.le_of_ble_eq_true rfl, Nat.le_of_ble_eq_true rfl⟩ dL_law_144 ⟨Nat.le_of_ble_eq_true rfl, Nat.le_of_ble_eq_true rfl⟩) ?_
            refine lv_lstore (lv' := [(10, .long z7), (9, .int t0), (0, .ref bs), (1, .ref (ga 0)), (2, .int x2), (3, .int x3), (4, .int x4), (5, .int x5), (6, .long x6)]) hx hb dL_law_147 hl (by decide) rfl (fun ls hl => ?_)
            refine lv_aload_n hx hb dL_law_149 rfl (lv_at hl 3 rfl) ?_
            obtain ⟨z8, e_z8, h⟩ := bnd h
            refine roI (cc_L_120 sv ga S hK hN (hP.sub [0, 1, 2, 3, 4, 5, 6, 7, 8, 9, 10, 11, 12] rfl) e_z8 hl.1 (Nat.le_of_ble_eq_true rfl) ⟨Nat.le_of_ble_eq_true rfl, Nat.le_of_ble_eq_true rfl⟩ dL_law_150 ⟨Nat.le_of_ble_eq_true rfl, Nat.le_of_ble_eq_true rfl⟩) ?_
            refine lv_iconst (v := 1) hx hb dL_law_153 (by decide) ?_
            refine lv_isub hx hb dL_law_154 ?_
            refine lv_istore (lv' := [(12, .int (z8 - (1 : Int32))), (10, .long z7), (9, .int t0), (0, .ref bs), (1, .ref (ga 0)), (2, .int x2), (3, .int x3), (4, .int x4), (5, .int x5), (6, .long x6)]) hx hb dL_law_155 hl (by decide) rfl (fun ls hl => ?_)
            refine lv_aload_n hx hb dL_law_157 rfl (lv_at hl 4 rfl) ?_
            obtain ⟨z9, e_z9, h⟩ := bnd h
            refine mui (cc_L_127 sv ga S hK hN hP hD e_z9 hl.1 (Nat.le_of_ble_eq_true rfl) ⟨Nat.le_of_ble_eq_true rfl, Nat.le_of_ble_eq_true rfl⟩ dL_law_158 ⟨Nat.le_of_ble_eq_true rfl, Nat.le_of_ble_eq_true rfl⟩) hS hD (va_free hD hS hA [0, 1, 2, 3, 4, 5, 6, 7, 8, 9, 10, 11, 12, 13, 14, 15, 16, 17, 18, 19, 20, 21, 22, 23, 24, 25] rfl) (fun H locs hP hD hS => ?_)
            have hP : va_P G vwCl (wHS cI cS sv ga z9.2) H := hP
            have hD : va_D A (wHS cI cS sv ga z9.2) := hD
            refine lv_iload hx hb dL_law_161 (lv_at hl 0 rfl) ?_
            refine lv_icmp_ne (tgt := 201) hx hb dL_law_163 (by decide) (fun c10 => ?_) (fun c10 => ?_)
            · have h := (if_neg c10).symm.trans h
              exact J201 z9.2 x3 h _ _ hP hD hS _ (lv_sub hl [3, 4, 6] rfl)
            · have h := (if_pos c10).symm.trans h
              refine lv_aload_n hx hb dL_law_166 rfl (lv_at hl 4 rfl) ?_
              obtain ⟨z11, e_z11, h⟩ := bnd h
              refine roL (cc_L_116 sv ga S hK hN (hP.sub [0, 1, 2, 3, 4, 5, 6, 7, 8, 9, 10, 11, 12] rfl) e_z11 hl.1 (Nat.le_of_ble_eq_true rfl) ⟨Nat.le_of_ble_eq_true rfl, Nat.le_of_ble_eq_true rfl⟩ dL_law_167 ⟨Nat.le_of_ble_eq_true rfl, Nat.le_of_ble_eq_true rfl⟩) ?_
              refine lv_lload hx hb dL_law_170 (lv_at hl 9 rfl) ?_
              refine W.lcmp hx hb dL_law_172 ?_
              refine lv_if_ne (tgt := 201) hx hb dL_law_173 (by decide) (fun c12 => ?_) (fun c12 => ?_)
              · have h := (if_neg c12).symm.trans h
                exact J201 z9.2 x3 h _ _ hP hD hS _ (lv_sub hl [3, 4, 6] rfl)
              · have h := (if_pos c12).symm.trans h
                refine lv_aload_n hx hb dL_law_176 rfl (lv_at hl 4 rfl) ?_
                refine lv_iload hx hb dL_law_177 (lv_at hl 7 rfl) ?_
                refine lv_iload hx hb dL_law_179 (lv_at hl 8 rfl) ?_
                obtain ⟨z13, e_z13, h⟩ := bnd h
                refine mui (cc_L_123 sv ga S hK hN hP hD e_z13 hl.1 (Nat.le_of_ble_eq_true rfl) ⟨Nat.le_of_ble_eq_true rfl, Nat.le_of_ble_eq_true rfl⟩ dL_law_181 ⟨Nat.le_of_ble_eq_true rfl, Nat.le_of_ble_eq_true rfl⟩) hS hD (va_free hD hS hA [0, 1, 2, 3, 4, 5, 6, 7, 8, 9, 10, 11, 12, 13, 14, 15, 16, 17, 18, 19, 20, 21, 22, 23, 24, 25] rfl) (fun H locs hP hD hS => ?_)
                have hP : va_P G vwCl (wHS cI cS sv ga z13.2) H := hP
                have hD : va_D A (wHS cI cS sv ga z13.2) := hD
                refine lv_if_eq (tgt := 201) hx hb dL_law_184 (by decide) (fun c14 => ?_) (fun c14 => ?_)
                · have h := (if_pos c14).symm.trans h
                  exact J201 z13.2 x3 h _ _ hP hD hS _ (lv_sub hl [3, 4, 6] rfl)
                · have h := (if_neg c14).symm.trans h
                  refine lv_aload_n hx hb dL_law_187 rfl (lv_at hl 4 rfl) ?_
                  obtain ⟨z15, e_z15, h⟩ := bnd h
                  refine roL (cc_L_116 sv ga S hK hN (hP.sub [0, 1, 2, 3, 4, 5, 6, 7, 8, 9, 10, 11, 12] rfl) e_z15 hl.1 (Nat.le_of_ble_eq_true rfl) ⟨Nat.le_of_ble_eq_true rfl, Nat.le_of_ble_eq_true rfl⟩ dL_law_188 ⟨Nat.le_of_ble_eq_true rfl, Nat.le_of_ble_eq_true rfl⟩) ?_
                  refine lv_lload hx hb dL_law_191 (lv_at hl 1 rfl) ?_
                  refine W.lcmp hx hb dL_law_193 ?_
                  refine lv_if_ne (tgt := 201) hx hb dL_law_194 (by decide) (fun c16 => ?_) (fun c16 => ?_)
                  · have h := (if_neg c16).symm.trans h
                    exact J201 z13.2 x3 h _ _ hP hD hS _ (lv_sub hl [3, 4, 6] rfl)
                  · have h := (if_pos c16).symm.trans h
                    refine lv_iconst (v := 1) hx hb dL_law_197 (by decide) ?_
                    refine lv_goto (tgt := 202) hx hb dL_law_198 (by decide) ?_
                    exact J202 z13.2 x3 (1 : Int32) h _ _ hP hD hS _ (lv_sub hl [3, 4, 6] rfl)
    have J121 : ∀ (u : THS) (x2 : Int32) (x3 : Int32) (x4 : Int32) (x5 : Int32) (x6 : Int64) , fL_law_j121 L xs u x2 x3 x4 x5 x6 = some z → ∀ (H : Heap) (locs : List Loc), va_P G vwCl (wHS cI cS sv ga u) H → va_D A (wHS cI cS sv ga u) → va_S A s.heap H locs → ∀ ls : Array Slot, lv_has ls 13 [(0, .ref bs), (1, .ref (ga 0)), (2, .int x2), (3, .int x3), (4, .int x4), (5, .int x5), (6, .long x6)] → W p l e room_1 s m #[Value.ref bs] below meth c H locs 26 7542 Q (F0 m 121 ls []) := by
      intro u x2 x3 x4 x5 x6 h
      unfold fL_law_j121 at h
      intro H locs hP hD hS ls hl
      refine lv_iconst (v := 0) hx hb dL_law_121 (by decide) ?_
      exact J122 u x2 x3 x4 x5 x6 (0 : Int32) h _ _ hP hD hS _ (lv_sub hl [0, 1, 2, 3, 4, 5, 6] rfl)
    have J117 : ∀ (u : THS) (x2 : Int32) (x3 : Int32) (x4 : Int32) (x5 : Int32) (x6 : Int64) , fL_law_j117 L xs u x2 x3 x4 x5 x6 = some z → ∀ (H : Heap) (locs : List Loc), va_P G vwCl (wHS cI cS sv ga u) H → va_D A (wHS cI cS sv ga u) → va_S A s.heap H locs → ∀ ls : Array Slot, lv_has ls 13 [(0, .ref bs), (1, .ref (ga 0)), (2, .int x2), (3, .int x3), (4, .int x4), (5, .int x5), (6, .long x6)] → W p l e room_1 s m #[Value.ref bs] below meth c H locs 26 7542 Q (F0 m 117 ls []) := by
      intro u x2 x3 x4 x5 x6 h
      unfold fL_law_j117 at h
      intro H locs hP hD hS ls hl
      refine lv_iconst (v := 1) hx hb dL_law_117 (by decide) ?_
      refine lv_goto (tgt := 122) hx hb dL_law_118 (by decide) ?_
      exact J122 u x2 x3 x4 x5 x6 (1 : Int32) h _ _ hP hD hS _ (lv_sub hl [0, 1, 2, 3, 4, 5, 6] rfl)
    intro H locs hP hD hS ls hl
    refine lv_iload_n hx hb dL_law_40 rfl (lv_at hl 3 rfl) ?_
    refine lv_bipush (v := 44) hx hb dL_law_41 (by decide) ?_
    refine lv_icmp_ge (tgt := 226) hx hb dL_law_43 (by decide) (fun c17 => ?_) (fun c17 => ?_)
    · have h := (if_pos c17).symm.trans h
      exact hE _ (Option.some.inj h) _ _ hP hD hS _ (lv_sub hl [2] rfl)
    · have h := (if_neg c17).symm.trans h
      refine lv_iload_n hx hb dL_law_46 rfl (lv_at hl 2 rfl) ?_
      refine lv_if_eq (tgt := 226) hx hb dL_law_47 (by decide) (fun c18 => ?_) (fun c18 => ?_)
      · have h := (if_pos c18).symm.trans h
        exact hE _ (Option.some.inj h) _ _ hP hD hS _ (lv_sub hl [2] rfl)
      · have h := (if_neg c18).symm.trans h
        refine lv_aload_n hx hb dL_law_50 rfl (lv_at hl 0 rfl) ?_
        refine lv_iconst (v := 2) hx hb dL_law_51 (by decide) ?_
        refine lv_iload_n hx hb dL_law_52 rfl (lv_at hl 3 rfl) ?_
        refine lv_imul hx hb dL_law_53 ?_
        obtain ⟨z19, e_z19, h⟩ := bnd h
        refine roI (cc_L_112 S (hX0.kept (hS.2.1 bs hbl hbA)) (Nat.lt_of_lt_of_le hbl hS.1) e_z19 hl.1 (Nat.le_of_ble_eq_true rfl) ⟨(Nat.le_of_ble_eq_true rfl), (Nat.le_of_ble_eq_true rfl)⟩ dL_law_54 ⟨(Nat.le_of_ble_eq_true rfl), (Nat.le_of_ble_eq_true rfl)⟩) ?_
        refine lv_istore (lv' := [(4, .int z19), (0, .ref bs), (1, .ref (ga 0)), (2, .int x2), (3, .int x3)]) hx hb dL_law_57 hl (by decide) rfl (fun ls hl => ?_)
        refine lv_aload_n hx hb dL_law_59 rfl (lv_at hl 1 rfl) ?_
        refine lv_iconst (v := 2) hx hb dL_law_60 (by decide) ?_
        refine lv_iload_n hx hb dL_law_61 rfl (lv_at hl 4 rfl) ?_
        refine lv_imul hx hb dL_law_62 ?_
        refine lv_iconst (v := 1) hx hb dL_law_63 (by decide) ?_
        refine lv_iadd hx hb dL_law_64 ?_
        obtain ⟨z20, e_z20, h⟩ := bnd h
        refine roI (cc_L_112 S (hX0.kept (hS.2.1 bs hbl hbA)) (Nat.lt_of_lt_of_le hbl hS.1) e_z20 hl.1 (Nat.le_of_ble_eq_true rfl) ⟨(Nat.le_of_ble_eq_true rfl), (Nat.le_of_ble_eq_true rfl)⟩ dL_law_65 ⟨(Nat.le_of_ble_eq_true rfl), (Nat.le_of_ble_eq_true rfl)⟩) ?_
        refine lv_istore (lv' := [(5, .int z20), (4, .int z19), (0, .ref bs), (1, .ref (ga 0)), (2, .int x2), (3, .int x3)]) hx hb dL_law_68 hl (by decide) rfl (fun ls hl => ?_)
        refine lv_aload_n hx hb dL_law_70 rfl (lv_at hl 3 rfl) ?_
        obtain ⟨z21, e_z21, h⟩ := bnd h
        refine roL (cc_L_116 sv ga S hK hN (hP.sub [0, 1, 2, 3, 4, 5, 6, 7, 8, 9, 10, 11, 12] rfl) e_z21 hl.1 (Nat.le_of_ble_eq_true rfl) ⟨Nat.le_of_ble_eq_true rfl, Nat.le_of_ble_eq_true rfl⟩ dL_law_71 ⟨Nat.le_of_ble_eq_true rfl, Nat.le_of_ble_eq_true rfl⟩) ?_
        refine lv_lstore (lv' := [(6, .long z21), (5, .int z20), (4, .int z19), (0, .ref bs), (1, .ref (ga 0)), (2, .int x2), (3, .int x3)]) hx hb dL_law_74 hl (by decide) rfl (fun ls hl => ?_)
        refine lv_aload_n hx hb dL_law_76 rfl (lv_at hl 4 rfl) ?_
        obtain ⟨z22, e_z22, h⟩ := bnd h
        refine roI (cc_L_120 sv ga S hK hN (hP.sub [0, 1, 2, 3, 4, 5, 6, 7, 8, 9, 10, 11, 12] rfl) e_z22 hl.1 (Nat.le_of_ble_eq_true rfl) ⟨Nat.le_of_ble_eq_true rfl, Nat.le_of_ble_eq_true rfl⟩ dL_law_77 ⟨Nat.le_of_ble_eq_true rfl, Nat.le_of_ble_eq_true rfl⟩) ?_
        refine lv_istore (lv' := [(8, .int z22), (6, .long z21), (5, .int z20), (4, .int z19), (0, .ref bs), (1, .ref (ga 0)), (2, .int x2), (3, .int x3)]) hx hb dL_law_80 hl (by decide) rfl (fun ls hl => ?_)
        refine lv_aload_n hx hb dL_law_82 rfl (lv_at hl 5 rfl) ?_
        refine lv_iload hx hb dL_law_83 (lv_at hl 3 rfl) ?_
        refine lv_iload hx hb dL_law_85 (lv_at hl 2 rfl) ?_
        obtain ⟨z23, e_z23, h⟩ := bnd h
        refine mui (cc_L_123 sv ga S hK hN hP hD e_z23 hl.1 (Nat.le_of_ble_eq_true rfl) ⟨Nat.le_of_ble_eq_true rfl, Nat.le_of_ble_eq_true rfl⟩ dL_law_87 ⟨Nat.le_of_ble_eq_true rfl, Nat.le_of_ble_eq_true rfl⟩) hS hD (va_free hD hS hA [0, 1, 2, 3, 4, 5, 6, 7, 8, 9, 10, 11, 12, 13, 14, 15, 16, 17, 18, 19, 20, 21, 22, 23, 24, 25] rfl) (fun H locs hP hD hS => ?_)
        have hP : va_P G vwCl (wHS cI cS sv ga z23.2) H := hP
        have hD : va_D A (wHS cI cS sv ga z23.2) := hD
        refine lv_istore_n (lv' := [(2, .int z23.1), (8, .int z22), (6, .long z21), (5, .int z20), (4, .int z19), (0, .ref bs), (1, .ref (ga 0)), (3, .int x3)]) hx hb dL_law_90 rfl hl (by decide) rfl (fun ls hl => ?_)
        refine lv_aload_n hx hb dL_law_91 rfl (lv_at hl 6 rfl) ?_
        obtain ⟨z24, e_z24, h⟩ := bnd h
        refine roI (cc_L_120 sv ga S hK hN (hP.sub [0, 1, 2, 3, 4, 5, 6, 7, 8, 9, 10, 11, 12] rfl) e_z24 hl.1 (Nat.le_of_ble_eq_true rfl) ⟨Nat.le_of_ble_eq_true rfl, Nat.le_of_ble_eq_true rfl⟩ dL_law_92 ⟨Nat.le_of_ble_eq_true rfl, Nat.le_of_ble_eq_true rfl⟩) ?_
        refine lv_iload hx hb dL_law_95 (lv_at hl 1 rfl) ?_
        refine lv_icmp_ne (tgt := 117) hx hb dL_law_97 (by decide) (fun c25 => ?_) (fun c25 => ?_)
        · have h := (if_neg c25).symm.trans h
          exact J117 z23.2 z23.1 x3 z19 z20 z21 h _ _ hP hD hS _ (lv_sub hl [5, 6, 0, 7, 4, 3, 2] rfl)
        · have h := (if_pos c25).symm.trans h
          refine lv_iload hx hb dL_law_100 (lv_at hl 1 rfl) ?_
          refine lv_bipush (v := 6) hx hb dL_law_102 (by decide) ?_
          refine lv_icmp_ne (tgt := 121) hx hb dL_law_104 (by decide) (fun c26 => ?_) (fun c26 => ?_)
          · have h := (if_neg c26).symm.trans h
            exact J121 z23.2 z23.1 x3 z19 z20 z21 h _ _ hP hD hS _ (lv_sub hl [5, 6, 0, 7, 4, 3, 2] rfl)
          · have h := (if_pos c26).symm.trans h
            refine lv_aload_n hx hb dL_law_107 rfl (lv_at hl 6 rfl) ?_
            obtain ⟨z27, e_z27, h⟩ := bnd h
            refine roL (cc_L_116 sv ga S hK hN (hP.sub [0, 1, 2, 3, 4, 5, 6, 7, 8, 9, 10, 11, 12] rfl) e_z27 hl.1 (Nat.le_of_ble_eq_true rfl) ⟨Nat.le_of_ble_eq_true rfl, Nat.le_of_ble_eq_true rfl⟩ dL_law_108 ⟨Nat.le_of_ble_eq_true rfl, Nat.le_of_ble_eq_true rfl⟩) ?_
            refine lv_lload hx hb dL_law_111 (lv_at hl 2 rfl) ?_
            refine W.lcmp hx hb dL_law_113 ?_
            refine lv_if_eq (tgt := 121) hx hb dL_law_114 (by decide) (fun c28 => ?_) (fun c28 => ?_)
            · have h := (if_pos c28).symm.trans h
              exact J121 z23.2 z23.1 x3 z19 z20 z21 h _ _ hP hD hS _ (lv_sub hl [5, 6, 0, 7, 4, 3, 2] rfl)
            · have h := (if_neg c28).symm.trans h
              exact J117 z23.2 z23.1 x3 z19 z20 z21 h _ _ hP hD hS _ (lv_sub hl [5, 6, 0, 7, 4, 3, 2] rfl)
  have J37 : ∀ (u : THS) (t0 : Int32) , fL_law_j37 L xs u t0 = some r → ∀ (H : Heap) (locs : List Loc), va_P G vwCl (wHS cI cS sv ga u) H → va_D A (wHS cI cS sv ga u) → va_S A s.heap H locs → ∀ ls : Array Slot, lv_has ls 13 [(0, .ref bs), (1, .ref (ga 0))] → W p l e room_1 s m #[Value.ref bs] below meth c H locs 26 7542 Q (F0 m 37 ls [.int t0]) := by
    intro u t0 h
    unfold fL_law_j37 at h
    intro H locs hP hD hS ls hl
    refine lv_istore_n (lv' := [(2, .int t0), (0, .ref bs), (1, .ref (ga 0))]) hx hb dL_law_37 rfl hl (by decide) rfl (fun ls hl => ?_)
    refine lv_iconst (v := 0) hx hb dL_law_38 (by decide) ?_
    refine lv_istore_n (lv' := [(3, .int (0 : Int32)), (2, .int t0), (0, .ref bs), (1, .ref (ga 0))]) hx hb dL_law_39 rfl hl (by decide) rfl (fun ls hl => ?_)
    obtain ⟨b29, e_b29, h⟩ := bnd h
    refine L40 _ _ _ e_b29 ?_ _ _ hP hD hS _ (lv_sub hl [2, 3, 1, 0] rfl)
    intro H locs hP hD hS ls hl
    refine lv_iload_n hx hb dL_law_226 rfl (lv_at hl 0 rfl) ?_
    have e9 := Option.some.inj h
    rw [e9, hr1, hQ]
    rw [hAe] at hS
    refine va_forget (fun q hq => hS.2.2 q hq) ?_
    refine W.widen (k := 600172) (n := 7300668) (Nat.le_of_ble_eq_true rfl) (Nat.le_of_ble_eq_true rfl) ?_
    exact lw_ret (Drawn.sameBut.refl s.drawn lw_cs) hx hb hr hlocks dL_law_227
  have J36 : ∀ (u : THS) , fL_law_j36 L xs u = some r → ∀ (H : Heap) (locs : List Loc), va_P G vwCl (wHS cI cS sv ga u) H → va_D A (wHS cI cS sv ga u) → va_S A s.heap H locs → ∀ ls : Array Slot, lv_has ls 13 [(0, .ref bs), (1, .ref (ga 0))] → W p l e room_1 s m #[Value.ref bs] below meth c H locs 26 7542 Q (F0 m 36 ls []) := by
    intro u h
    unfold fL_law_j36 at h
    intro H locs hP hD hS ls hl
    refine lv_iconst (v := 0) hx hb dL_law_36 (by decide) ?_
    exact J37 u (0 : Int32) h _ _ hP hD hS _ (lv_sub hl [0, 1] rfl)
  refine lv_aload_n hx hb dL_law_8 rfl (lv_at hl 1 rfl) ?_
  obtain ⟨z30, e_z30, h⟩ := bnd h
  refine roI (cc_L_108 sv ga S hK hN (hP.sub [0, 1, 2, 3, 4, 5, 6, 7, 8, 9, 10, 11, 12] rfl) e_z30 hl.1 (Nat.le_of_ble_eq_true rfl) ⟨Nat.le_of_ble_eq_true rfl, Nat.le_of_ble_eq_true rfl⟩ dL_law_9 ⟨Nat.le_of_ble_eq_true rfl, Nat.le_of_ble_eq_true rfl⟩) ?_
  refine lv_if_eq (tgt := 36) hx hb dL_law_12 (by decide) (fun c31 => ?_) (fun c31 => ?_)
  · have h := (if_pos c31).symm.trans h
    exact J36 u h _ _ hP hD hS _ (lv_sub hl [0, 1] rfl)
  · have h := (if_neg c31).symm.trans h
    refine lv_aload_n hx hb dL_law_15 rfl (lv_at hl 1 rfl) ?_
    refine lv_iconst (v := 0) hx hb dL_law_16 (by decide) ?_
    obtain ⟨z32, e_z32, h⟩ := bnd h
    refine roI (cc_L_15 sv ga S hK hN (hP.sub [0, 1, 2, 3, 4, 5, 6, 7, 8, 9, 10, 11, 12] rfl) e_z32 hl.1 (Nat.le_of_ble_eq_true rfl) ⟨Nat.le_of_ble_eq_true rfl, Nat.le_of_ble_eq_true rfl⟩ dL_law_17 ⟨Nat.le_of_ble_eq_true rfl, Nat.le_of_ble_eq_true rfl⟩) ?_
    refine lv_iconst (v := (-1)) hx hb dL_law_20 (by decide) ?_
    refine lv_icmp_ne (tgt := 36) hx hb dL_law_21 (by decide) (fun c33 => ?_) (fun c33 => ?_)
    · have h := (if_neg c33).symm.trans h
      exact J36 u h _ _ hP hD hS _ (lv_sub hl [0, 1] rfl)
    · have h := (if_pos c33).symm.trans h
      refine lv_aload_n hx hb dL_law_24 rfl (lv_at hl 1 rfl) ?_
      refine lv_iconst (v := 0) hx hb dL_law_25 (by decide) ?_
      obtain ⟨z34, e_z34, h⟩ := bnd h
      refine roI (cc_L_71 sv ga S hK hN (hP.sub [0, 1, 2, 3, 4, 5, 6, 7, 8, 9, 10, 11, 12] rfl) e_z34 hl.1 (Nat.le_of_ble_eq_true rfl) ⟨Nat.le_of_ble_eq_true rfl, Nat.le_of_ble_eq_true rfl⟩ dL_law_26 ⟨Nat.le_of_ble_eq_true rfl, Nat.le_of_ble_eq_true rfl⟩) ?_
      refine lv_if_ne (tgt := 36) hx hb dL_law_29 (by decide) (fun c35 => ?_) (fun c35 => ?_)
      · have h := (if_neg c35).symm.trans h
        exact J36 u h _ _ hP hD hS _ (lv_sub hl [0, 1] rfl)
      · have h := (if_pos c35).symm.trans h
        refine lv_iconst (v := 1) hx hb dL_law_32 (by decide) ?_
        refine lv_goto (tgt := 37) hx hb dL_law_33 (by decide) ?_
        exact J37 u (1 : Int32) h _ _ hP hD hS _ (lv_sub hl [0, 1] rfl)
theorem fbK2 {G : va_G} {tys : List (ClassId × FieldType)} {ws : va_W} {sz : Nat} {As : List Value} : FrameBlind (va_Pc As (fun U => PreM G tys ws sz U ∧ va_AO RX3 U)) := by
  intro a U g mk q
  obtain ⟨q0, qM, qA⟩ := q
  exact ⟨q0, (fbM a U g mk ⟨q0, qM⟩).2, va_AO.moved (u := U) (U := U.calling g mk a) (Vm.Alike.refl U.vm) qA⟩
set_option maxRecDepth 100000 in
set_option maxHeartbeats 8000000 in
theorem start_law {p : Program} {e : Env} {s : State} {m : MethodId} {below : List Frame} {meth : Method} {c : Code} (l : Launch) {b L : Nat} {xs : Nat → Int32} (C0 : lw_At p s m meth c b L xs) (h09 : ∀ rf ra : Nat → Nat, fL_law L xs (zTH, (fun _ => zTS), rf, ra) = some 1) : W p l e room_1 s m #[Value.ref b] below meth c s.heap [] 0 0 (lw_Z below #[Value.ref b] s) (entryFrame m ([Value.ref b] : List Value).toArray 13) := by
  obtain ⟨hx, hb, hr, hml, hown, hts, hX0, hbl, hlocks, hgv⟩ := id C0
  have hq : ∀ w ∈ bw, w.before #[Value.ref b] s = true := fun w h => hts w (bw_tbl w h)
  have S : CallFix p m c code 13 s #[Value.ref b] bw RL := ⟨hx, hb, hml, hown, hq⟩
  have hN : NW s := fun w hw => va_Nw.of (List.all_eq_true.mp nests_on w hw) (hts w (nests_tbl w hw))
  have hA : ∀ q : Nat, s.heap.size ≤ q → (fun q : Nat => s.heap.size ≤ q) q := fun _ h => h
  have hbA : ¬ (fun q : Nat => s.heap.size ≤ q) b := Nat.not_le.mpr hbl
  obtain ⟨cc0, i0, k0⟩ := u_known (C := RX0) (T := TX0) (N := 2) (n := 2) hts (fun w h => bw_tbl w (bi_U0 w h)) (hts (.instantiable RX0 2) (by decide +kernel))
  obtain ⟨cc1, i1, k1⟩ := u_known (C := RX1) (T := TX1) (N := 4) (n := 4) hts (fun w h => bw_tbl w (bi_U1 w h)) (hts (.instantiable RX1 4) (by decide +kernel))
  obtain ⟨cc2, i2, k2⟩ := u_known (C := RX2) (T := TX2) (N := 2) (n := 2) hts (fun w h => bw_tbl w (bi_U2 w h)) (hts (.instantiable RX2 2) (by decide +kernel))
  obtain ⟨cc3, i3, k3⟩ := u_known (C := RX3) (T := TX3) (N := 5) (n := 5) hts (fun w h => bw_tbl w (bi_U3 w h)) (hts (.instantiable RX3 5) (by decide +kernel))
  obtain ⟨cc4, i4, k4⟩ := u_known (C := RX4) (T := TX4) (N := 8) (n := 8) hts (fun w h => bw_tbl w (bi_U4 w h)) (hts (.instantiable RX4 8) (by decide +kernel))
  obtain ⟨G, hKc⟩ : ∃ G : va_G, ∀ (k : Nat) (q : vw_C), vwCl[k]? = some q → u_Kn s q.1 q.2.1 q.2.2 (G.1 k) (G.2 k) := by
    refine ⟨(fun k => match k with | 0 => cc0 | 1 => cc1 | 2 => cc2 | 3 => cc3 | _ => cc4, fun k => match k with | 0 => i0 | 1 => i1 | 2 => i2 | 3 => i3 | _ => i4), ?_⟩
    intro k q hq9
    match k, hq9 with
    | 0, hq9 => cases hq9; exact k0
    | 1, hq9 => cases hq9; exact k1
    | 2, hq9 => cases hq9; exact k2
    | 3, hq9 => cases hq9; exact k3
    | 4, hq9 => cases hq9; exact k4
    | k + 5, hq9 => simp [vwCl] at hq9
  obtain ⟨cI, kA, comp, hfc, hka, hkd⟩ := Cond.arrayClass_spec (hts (.arrayClass .int) (by decide +kernel))
  have hAI : ArrOfT s cI .int := fun n z => ⟨fun k h => (by cases h), kA, hka, comp, hkd⟩
  have hK1 : va_K G vwCl [(cI, .int)] s := ⟨hKc, fun k q h => by
    match k, h with
    | 0, h => cases h; exact ⟨hAI, hfc⟩
    | k + 1, h => simp at h⟩
  have hAO : va_AO RX3 s := va_AO.of (A := #[Value.ref b]) (hts _ (by decide +kernel))
  have hS : va_S (fun q : Nat => s.heap.size ≤ q) s.heap s.heap [] := va_S.rf
  have hP : va_P G vwCl [] s.heap := fun k q h => by simp at h
  have hD : va_D (fun q : Nat => s.heap.size ≤ q) [] := ⟨fun i j p q h => by simp at h, fun k q h => by simp at h⟩
  have hl := lv_entry ([.ref b]) (n := 13) (Nat.le_of_ble_eq_true rfl)
  rw [lg_entry_eq]
  generalize (lg_sl ([.ref b]) ++ List.replicate (13 - (lg_sl ([.ref b])).length) Slot.unset).toArray = ls at hl ⊢
  have hl : lv_has ls 13 [(0, .ref b)] := hl
  refine va_new (ci := 4) (fs := [.null, .null, .null, .null, .null, .null, .null, .int 0]) (C := RX4) (T := TX4) (N := 8) hx hb hq bi_U4 tyX4 tyX4_ok hown (hq _ q_402) (hq _ q_403) (hq _ q_49) hK1 hP hD hS hA rfl (fun j hj => by rcases (show j = 0 ∨ j = 1 ∨ j = 2 ∨ j = 3 ∨ j = 4 ∨ j = 5 ∨ j = 6 ∨ j = 7 by omega) with rfl | rfl | rfl | rfl | rfl | rfl | rfl | rfl <;> rfl) (Nat.le_of_ble_eq_true rfl) (Nat.le_of_ble_eq_true rfl) dL_law_0 (fun g0 H hP hD hS => ?_)
  have hP : va_P G vwCl [(g0, .inr (4, [.null, .null, .null, .null, .null, .null, .null, .int 0]))] H := hP
  have hD : va_D (fun q : Nat => s.heap.size ≤ q) [(g0, .inr (4, [.null, .null, .null, .null, .null, .null, .null, .int 0]))] := hD
  refine lv_dup hx hb dL_law_3 rfl ?_
  have hF := va_free (wc := [(g0, .inr (4, [.null, .null, .null, .null, .null, .null, .null, .int 0]))]) hD hS hA [0] rfl
  refine va_callv (va_runI (As := []) (rest := [.ref g0]) S (kX4_init l G cI g0 H.size) (cwI 0 hq (gdC q_131) rfl rfl rfl (hq _ q_49) (hq _ q_404) (hq _ q_405) rfl (by decide +kernel) ⟨(Nat.le_of_ble_eq_true rfl), (Nat.le_of_ble_eq_true rfl)⟩) ⟨fbK2, fun U hU hW => ⟨rfl, ⟨by rw [hU], by rw [hU]; exact hP, va_K.moved hW.alike hK1, NW.moved hW hN, hD.weaken (fun _ _ _ _ => trivial)⟩, va_AO.moved hW.alike hAO⟩⟩ rfl rfl hl.1 rfl (lv_room (Nat.le_of_ble_eq_true rfl)) dL_law_4 ⟨(Nat.le_of_ble_eq_true rfl), (Nat.le_of_ble_eq_true rfl)⟩) hS (fun q _ h => hF q h) hF (fun z t H1 locs ht hvm _ hB hz1 hk1 hS => ?_)
  obtain ⟨cS, sv, gx, rf, ra⟩ := z
  obtain ⟨hP1, hD1, hK2, hg0⟩ := hB
  dsimp only at hP1 hD1 hK2 hg0
  rw [ht] at hP1
  have hK2 := va_K.moved hvm.symm hK2
  have hD9 := hD1.weaken (fun _ _ _ h => hF _ h)
  subst hg0
  refine lv_astore_n (lv' := [(1, .ref (gx 0)), (0, .ref b)]) hx hb dL_law_7 rfl hl (by decide) rfl (fun ls hl => ?_)
  exact kL_law rfl S hr hlocks hK2 hN hA hX0 hbl hbA sv gx (zTH, (fun _ => zTS), rf, ra) 1 rfl (h09 rf ra) _ rfl H1 locs hP1 hD9 hS ls (lv_sub hl [1, 0] rfl)
