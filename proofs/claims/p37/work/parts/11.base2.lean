def nf32 (x : UInt32) : Option UInt32 := if x &&& 0x7fffffff ≤ 0x7f800000 then some x else none
def nf64 (x : UInt64) : Option UInt64 := if x &&& 0x7fffffffffffffff ≤ 0x7ff0000000000000 then some x else none
theorem nf32_in {x y : UInt32} (h : nf32 x = some y) : vf_n32 x ∧ x = y := by
  unfold nf32 at h
  by_cases c : x &&& 0x7fffffff ≤ 0x7f800000
  · rw [if_pos c] at h; exact ⟨c, Option.some.inj h⟩
  · rw [if_neg c] at h; cases h
theorem nf64_in {x y : UInt64} (h : nf64 x = some y) : vf_n64 x ∧ x = y := by
  unfold nf64 at h
  by_cases c : x &&& 0x7fffffffffffffff ≤ 0x7ff0000000000000
  · rw [if_pos c] at h; exact ⟨c, Option.some.inj h⟩
  · rw [if_neg c] at h; cases h
section GO3
variable {p : Program} {l : Launch} {e : Env} {R : Room} {s : State} {m : MethodId} {args : Array Value} {below : List Frame} {meth : Method} {c : Code} {H : Heap} {locs : List Loc} {cells slots : Nat} {Q : State → Prop}
variable {cc : ByteArray} {pc nL : Nat} {ls : Array Slot} {rest : List Value} {G : va_G} {tys : List (ClassId × FieldType)} {ws : va_W} {A : Nat → Prop} {H0 : Heap} {a : Nat} {own : String} {α : Type} {w : α → va_W}
theorem ldcwF (hexec : p.tables.exec = Jvm.exec) (hb : c.code = cc) {index : Nat} {v : UInt32} (hown : s.vm.findClass own = some m.cls) (hconst : (Jvm.Cond.constantFloat own index v).before args s = true) (hdg : decode cc pc = .ok (.ldc_w index, 3)) (k : W p l e R s m args below meth c H locs cells slots Q (F0 m (pc + 3) ls (.float v :: rest))) : W p l e R s m args below meth c H locs cells slots Q (F0 m pc ls rest) := by
  intro T hT X
  obtain ⟨t, a, b⟩ := k T hT X
  refine ⟨t, ?_, b⟩
  obtain ⟨k1, cf, hk, hcf, hcp⟩ := Cond.constantFloat_spec hown hconst
  obtain ⟨k', hk', he⟩ := X.warmed.alike.2.2 _ _ hk
  subst hb
  jvm_step X.here [hexec, hdg, Op.ldc_w.wp_float (s := T) (f := F0 m pc ls rest) X.here.top hk' (by rw [he]; exact hcf) hcp]
  exact a
theorem fmO (hexec : p.tables.exec = Jvm.exec) (hb : c.code = cc) {x y v : UInt32} (hin : nf32 (FP.fmul x y) = some v) (hdg : decode cc pc = .ok (.fmul, 1))
    (k : W p l e R s m args below meth c H locs cells slots Q (F0 m (pc + 1) ls (.float v :: rest))) : W p l e R s m args below meth c H locs cells slots Q (F0 m pc ls (.float y :: .float x :: rest)) := by
  obtain ⟨h1, h2⟩ := nf32_in hin
  rw [← h2] at k
  exact lv_fmul hexec hb hdg h1 k
theorem fsO (hexec : p.tables.exec = Jvm.exec) (hb : c.code = cc) {x y v : UInt32} (hin : nf32 (FP.fsub x y) = some v) (hdg : decode cc pc = .ok (.fsub, 1))
    (k : W p l e R s m args below meth c H locs cells slots Q (F0 m (pc + 1) ls (.float v :: rest))) : W p l e R s m args below meth c H locs cells slots Q (F0 m pc ls (.float y :: .float x :: rest)) := by
  obtain ⟨h1, h2⟩ := nf32_in hin
  rw [← h2] at k
  exact lv_fsub hexec hb hdg h1 k
theorem ddO (hexec : p.tables.exec = Jvm.exec) (hb : c.code = cc) {x y v : UInt64} (hin : nf64 (FP.ddiv x y) = some v) (hdg : decode cc pc = .ok (.ddiv, 1))
    (k : W p l e R s m args below meth c H locs cells slots Q (F0 m (pc + 1) ls (.double v :: rest))) : W p l e R s m args below meth c H locs cells slots Q (F0 m pc ls (.double y :: .double x :: rest)) := by
  obtain ⟨h1, h2⟩ := nf64_in hin
  rw [← h2] at k
  exact lv_ddiv hexec hb hdg h1 k
theorem dfO (hexec : p.tables.exec = Jvm.exec) (hb : c.code = cc) {x : UInt64} {v : UInt32} (hin : nf32 (FP.d2f x) = some v) (hdg : decode cc pc = .ok (.d2f, 1))
    (k : W p l e R s m args below meth c H locs cells slots Q (F0 m (pc + 1) ls (.float v :: rest))) : W p l e R s m args below meth c H locs cells slots Q (F0 m pc ls (.double x :: rest)) := by
  obtain ⟨h1, h2⟩ := nf32_in hin
  rw [← h2] at k
  exact lv_d2f hexec hb hdg h1 k
theorem roD {r : UInt64} {aa : Array Value} {st0 : List Value} (hr : va_Run p l e R s m args below meth c H locs cells slots 0 0 (F0 m pc ls st0) rest (vp_Sd (fun r' => r' = r) aa) (fun _ => False))
    (kk : W p l e R s m args below meth c H locs cells slots Q (F0 m (pc + 3) ls (.double r :: rest))) : W p l e R s m args below meth c H locs cells slots Q (F0 m pc ls st0) :=
  vp_callSd (va_Run.run hr) (fun r' h => by rw [h]; exact kk)
theorem retRd {r v : UInt64} (hQ : Q = MQ below (vp_Sd (fun r' => r' = r)) args s 0 0 (fun _ => False)) (S : CallFix p m c cc nL s args bw own) (hr : meth.sig.returnType = some .double) (hlocks : meth.locks = false) (h : some v = some r) (hdg : decode cc pc = .ok (.dreturn, 1)) : W p l e R s m args below meth c s.heap [] 0 0 Q (F0 m pc ls [.double v]) := by
  rw [hQ]
  exact W.dret S.1 S.2.1 hr (fun t ht _ => ⟨v, rfl, Option.some.inj h, ht⟩) (fun _ hq => nomatch hq) hdg hlocks
theorem retRl {r v : Int64} (hQ : Q = MQ below (vp_Sl (fun r' => r' = r)) args s 0 0 (fun _ => False)) (S : CallFix p m c cc nL s args bw own) (hr : meth.sig.returnType = some .long) (hlocks : meth.locks = false) (h : some v = some r) (hdg : decode cc pc = .ok (.lreturn, 1)) : W p l e R s m args below meth c s.heap [] 0 0 Q (F0 m pc ls [.long v]) := by
  rw [hQ]
  exact W.lret S.1 S.2.1 hr (fun t ht _ => ⟨v, rfl, Option.some.inj h, ht⟩) (fun _ hq => nomatch hq) hdg hlocks
theorem retMd {v : UInt64} {u : α} {z : UInt64 × α} (hQ : Q = MQ below (va_Qd (fun r u' => (r, u') = z) (PoM G tys A w) A) args s 0 0 A) (S : CallFix p m c cc nL s args bw own) (hr : meth.sig.returnType = some .double) (hlocks : meth.locks = false) (hK : va_K G vwCl tys s) (hN : NW s) (hP : va_P G vwCl (w u) H) (hD : va_D A (w u)) (hS : va_S A s.heap H locs) (h : some (v, u) = some z) (hdg : decode cc pc = .ok (.dreturn, 1)) : W p l e R s m args below meth c H locs 0 0 Q (F0 m pc ls [.double v]) := by
  rw [hQ]
  exact W.dret S.1 S.2.1 hr (fun t ht hW => ⟨⟨v, u, rfl, Option.some.inj h, by rw [ht]; exact hP, va_K.moved hW.alike hK, NW.moved hW hN, hD⟩, hS.F ht⟩) hS.2.2 hdg hlocks
end GO3
theorem enterG {l : Launch} {y : MethodName} {cc : ByteArray} {maxL : Nat} {ret : Option FieldType} {rm : Room} {G : va_G} {tys : List (ClassId × FieldType)} {ws : va_W} {As : List Value} {own : String} {Qc : Array Value → State → Outcome → State → Prop} (hy : plainName y.cls = true) (hown : y.cls = own) (hlen : (lg_sl As).length ≤ maxL)
    (body : ∀ (p : Program) (e : Env) (s : State) (m : MethodId) (args : Array Value) (below : List Frame) (meth : Method) (c : Code) (Q : State → Prop), Q = MQ below Qc args s 0 0 (fun _ => False) → CallFix p m c cc maxL s args bw own → meth.sig.returnType = ret → meth.locks = false → va_P G vwCl ws s.heap → va_K G vwCl tys s → NW s → ∀ ls : Array Slot, lv_has ls maxL (lv_args 0 As) → W p l e rm s m args below meth c s.heap [] 0 0 Q (F0 m 0 ls [])) :
    Met l y (.code y cc maxL ret :: bw) rm (va_Pc As (PreR G tys ws)) Qc 0 0 (fun _ => False) := by
  refine Met.ofW (cc := cc) (maxL := maxL) (ret := ret) hy rfl ?_
  intro p e s m args below meth c s₁ B hml hv
  obtain ⟨rfl, hP, hK, hN⟩ := hv
  have hts := atoms_spec (ws := .code y cc maxL ret :: bw) B.pre
  have hfc : s.vm.findClass own = some m.cls := by rw [← hown]; exact findClass_of_methodNamed B.named
  have hl := lv_entry As hlen
  rw [lg_entry_eq]
  exact body p e s m _ below meth c _ rfl ⟨B.exec, B.bytes, hml, hfc, fun w hw => hts w (List.mem_cons_of_mem _ hw)⟩ B.returns B.notSynchronized hP hK hN _ hl
