def fL_cell (L : Nat) (xs : Nat → Int32) (k : Int32) : Option Int32 := (if Int32.ofNat L ≤ k then some ((1812433253 : Int32) * (k + (197 : Int32))) else rd xs L k)
abbrev rmL_cell : Room := { frames := 0, cells := 0, slots := 0, locals := 0 }
theorem kL_cell (l : Launch) (b L : Nat) (xs : Nat → Int32) (k r : Int32) (hf : fL_cell L xs k = some r) : Met l yL_cell (.code yL_cell cL_cell 2 (some .int) :: bw) rmL_cell (va_Pc [.ref b, .int k] (fun U => va_X b L xs U U.heap ∧ b < U.heap.size)) (vp_Si (fun r' => r' = r)) 0 0 (fun _ => False) := by
  refine Met.ofW (cc := cL_cell) (maxL := 2) (ret := (some .int)) (by decide) rfl ?_
  intro p e s m args below meth c s₁ B hml hv
  obtain ⟨rfl, hX, hbl⟩ := hv
  have hts := atoms_spec (ws := .code yL_cell cL_cell 2 (some .int) :: bw) B.pre
  have hown : s.vm.findClass RL = some m.cls := findClass_of_methodNamed B.named
  have hl := lv_entry [.ref b, .int k] (n := 2) (Nat.le_of_ble_eq_true rfl)
  rw [lg_entry_eq]
  have S : CallFix p m c cL_cell 2 s [.ref b, .int k].toArray bw RL := ⟨B.exec, B.bytes, hml, hown, fun w hw => hts w (List.mem_cons_of_mem _ hw)⟩
  have hx := S.1; have hb := S.2.1; have hq := S.2.2.2.2
  have hr := B.returns
  have hlocks := B.notSynchronized
  have body : ∀ ls : Array Slot, lv_has ls 2 [(0, .ref b), (1, .int k)] → W p l e rmL_cell s m [.ref b, .int k].toArray below meth c s.heap [] 0 0 (MQ below (vp_Si (fun r' => r' = r)) [.ref b, .int k].toArray s 0 0 (fun _ => False)) (F0 m 0 ls []) := by
    intro ls hl
    have h := hf
    unfold fL_cell at h
    refine lv_iload_n hx hb dL_cell_0 rfl (lv_at hl 1 rfl) ?_
    refine lv_aload_n hx hb dL_cell_1 rfl (lv_at hl 0 rfl) ?_
    refine va_slen (A := fun q => s.heap.size ≤ q) hx hb hX hbl (Nat.not_le.mpr hbl) va_S.rf dL_cell_2 ?_
    refine lv_icmp_ge (tgt := 12) hx hb dL_cell_3 (by decide) (fun c1 => ?_) (fun c1 => ?_)
    · have h := (if_pos c1).symm.trans h
      refine lv_ldc (v := 1812433253) hx hb hown (hq _ q_325) dL_cell_12 ?_
      refine lv_iload_n hx hb dL_cell_14 rfl (lv_at hl 1 rfl) ?_
      refine lv_sipush (v := 197) hx hb dL_cell_15 (by decide) ?_
      refine lv_iadd hx hb dL_cell_18 ?_
      refine lv_imul hx hb dL_cell_19 ?_
      exact retR rfl S hr hlocks h dL_cell_20
    · have h := (if_neg c1).symm.trans h
      obtain ⟨h1, h2⟩ := rd_in h
      refine lv_aload_n hx hb dL_cell_6 rfl (lv_at hl 0 rfl) ?_
      refine lv_iload_n hx hb dL_cell_7 rfl (lv_at hl 1 rfl) ?_
      refine va_sld (A := fun q => s.heap.size ≤ q) hx hb hX hbl (Nat.not_le.mpr hbl) va_S.rf h1 dL_cell_8 ?_
      refine lv_goto (tgt := 20) hx hb dL_cell_9 (by decide) ?_
      exact retR rfl S hr hlocks (congrArg some h2) dL_cell_20
  exact body _ hl
theorem fbC {b L : Nat} {xs : Nat → Int32} {As : List Value} : FrameBlind (va_Pc As (fun U => va_X b L xs U U.heap ∧ b < U.heap.size)) := by
  intro a U g mk q
  obtain ⟨q0, qX, qb⟩ := q
  exact ⟨q0, va_X.moved (u := U) (U := U.calling g mk a) (Vm.Alike.refl U.vm) qX, qb⟩
theorem psC {s : State} {H : Heap} {b L : Nat} {xs : Nat → Int32} {As : List Value} (hX : va_X b L xs s H) (hbl : b < H.size) : PreS s H (va_Pc As (fun U => va_X b L xs U U.heap ∧ b < U.heap.size)) As :=
  ⟨fbC, fun U hU hW => ⟨rfl, by rw [hU]; exact va_X.moved hW.alike hX, by rw [hU]; exact hbl⟩⟩
theorem cc_L_112 {p : Program} {l : Launch} {e : Env} {R : Room} {s : State} {m : MethodId} {args : Array Value} {below : List Frame} {meth : Method} {c : Code} {H : Heap} {locs : List Loc} {cells slots : Nat} {cc : ByteArray} {pc nL : Nat} {ls : Array Slot} {rest : List Value} {b L : Nat} {xs : Nat → Int32} {k r : Int32} (S : CallFix p m c cc nL s args bw RL) (hX : va_X b L xs s H) (hbl : b < H.size) (hf : fL_cell L xs k = some r) (hsz : ls.size = nL) (hst : (rest.map fun v => v.category).sum ≤ 8) (hR : rmL_cell.frames + 1 ≤ R.frames ∧ 8 + (2 + 11) + rmL_cell.locals ≤ R.locals) (hdg : decode cc pc = .ok (.invokestatic 112, 3)) (hcs : cells + 0 ≤ R.cells ∧ slots + 0 ≤ R.slots) : va_Run p l e R s m args below meth c H locs cells slots 0 0 (F0 m pc ls (.int k :: .ref b :: rest)) rest (vp_Si (fun r' => r' = r) (#[.ref b, .int k] : Array Value)) (fun _ => False) :=
  va_runS (As := [.ref b, .int k]) (rest := rest) S (kL_cell l b L xs k r hf) (cwS 2 S.2.2.2.2 (gdS q_408 q_409 q_357 q_324) rfl rfl rfl (by decide +kernel) hR) (psC hX hbl) rfl rfl hsz rfl (lv_room hst) hdg hcs
