def exN : Nat → String
  | 1 => "java/lang/IllegalArgumentException"
  | 2 => "java/lang/IllegalStateException"
  | _ => "java/lang/IndexOutOfBoundsException"
def strs : List (Nat × String) := [(104, "the row cannot be changed"), (137, "there is no such byte"), (225, "the buffer is not a complete order text"), (234, "no state is saved"), (262, "there is no such row"), (264, "there is no such page"), (266, "length is out of range"), (63, "count is out of range"), (68, "value is out of range"), (72, "the buffer has no room for this"), (86, "no page is found")]
def thW1 : List Cond := vx_atS RX4 65 "java/lang/IllegalArgumentException" ["java/lang/RuntimeException", "java/lang/Exception"]
def thW2 : List Cond := vx_atS RX4 74 "java/lang/IllegalStateException" ["java/lang/RuntimeException", "java/lang/Exception"]
def thW3 : List Cond := vx_atS RX4 139 "java/lang/IndexOutOfBoundsException" ["java/lang/RuntimeException", "java/lang/Exception"]
theorem thN1 : thW1.filter (fun w => !goodWord w) = [.declares ⟨"java/lang/RuntimeException", "<init>", "(Ljava/lang/String;)V"⟩, .declares ⟨"java/lang/Exception", "<init>", "(Ljava/lang/String;)V"⟩, .declares ⟨"java/lang/Throwable", "<init>", "(Ljava/lang/String;)V"⟩, .castable "java/lang/IllegalArgumentException" "java/lang/IllegalArgumentException"] := by decide +kernel
theorem thN2 : thW2.filter (fun w => !goodWord w) = [.declares ⟨"java/lang/RuntimeException", "<init>", "(Ljava/lang/String;)V"⟩, .declares ⟨"java/lang/Exception", "<init>", "(Ljava/lang/String;)V"⟩, .declares ⟨"java/lang/Throwable", "<init>", "(Ljava/lang/String;)V"⟩, .castable "java/lang/IllegalStateException" "java/lang/IllegalStateException"] := by decide +kernel
theorem thN3 : thW3.filter (fun w => !goodWord w) = [.declares ⟨"java/lang/RuntimeException", "<init>", "(Ljava/lang/String;)V"⟩, .declares ⟨"java/lang/Exception", "<init>", "(Ljava/lang/String;)V"⟩, .declares ⟨"java/lang/Throwable", "<init>", "(Ljava/lang/String;)V"⟩, .castable "java/lang/IndexOutOfBoundsException" "java/lang/IndexOutOfBoundsException"] := by decide +kernel
theorem thG1 : ∀ w ∈ Cond.classLink RX4 61 "java/lang/IllegalArgumentException" :: Cond.initialized "java/lang/IllegalArgumentException" :: thW1, vx_ot w = true := List.all_eq_true.mp (by decide +kernel)
theorem thG2 : ∀ w ∈ Cond.classLink RX4 70 "java/lang/IllegalStateException" :: Cond.initialized "java/lang/IllegalStateException" :: thW2, vx_ot w = true := List.all_eq_true.mp (by decide +kernel)
theorem thG3 : ∀ w ∈ Cond.classLink RX4 135 "java/lang/IndexOutOfBoundsException" :: Cond.initialized "java/lang/IndexOutOfBoundsException" :: thW3, vx_ot w = true := List.all_eq_true.mp (by decide +kernel)
def thD : List String := ["java/lang/RuntimeException", "java/lang/Exception", "java/lang/Throwable"]
/-- what a throw needs of the start: two statics, the texts, three casts -/
def XT (B0 : Nat) (U : State) (H : Heap) : Prop := vx_Zq Bundle.tN "UNASSIGNED_STACK" Bundle.steD (fun q => B0 ≤ q) U H ∧ vx_Zq Bundle.tN "SUPPRESSED_SENTINEL" Bundle.listD (fun q => B0 ≤ q) U H ∧ (∀ q ∈ strs, ∃ a, vk_R RX4 q.1 q.2 a U) ∧ (∀ k, va_Nw (.castable (exN k) (exN k)) U) ∧ (∀ X ∈ thD, va_Nw (.declares ⟨X, "<init>", "(Ljava/lang/String;)V"⟩) U)
theorem XT.warm {B0 : Nat} {s U : State} {H : Heap} (hW : s.WarmedH U.vm) (h : XT B0 s H) : XT B0 U H := by
  obtain ⟨h1, h2, h3, h4, h5⟩ := h
  exact ⟨vx_Zq.moved hW.alike h1, vx_Zq.moved hW.alike h2, fun q hq => (h3 q hq).elim (fun a ha => ⟨a, vk_R.warm hW ha⟩), fun k => va_Nw.warmC hW (h4 k), fun X hX => va_Nw.warmD hW (h5 X hX)⟩
theorem XT.same {B0 : Nat} {s U : State} {H : Heap} (hv : s.vm = U.vm) (ha : s.vm.Alike U.vm) (h : XT B0 s H) : XT B0 U H := by
  obtain ⟨h1, h2, h3, h4, h5⟩ := h
  exact ⟨vx_Zq.moved ha h1, vx_Zq.moved ha h2, fun q hq => (h3 q hq).elim (fun a ha => ⟨a, vk_R.same hv.symm ha⟩), fun k => va_Nw.same rfl hv (h4 k), fun X hX => va_Nw.same rfl hv (h5 X hX)⟩
theorem XT.kept {B0 : Nat} {s : State} {A : Nat → Prop} {H0 H : Heap} {locs : List Loc} (hS : va_S A H0 H locs) (hAB : ∀ q, A q → B0 ≤ q) (h : XT B0 s H0) : XT B0 s H := by
  obtain ⟨h1, h2, h3, h4, h5⟩ := h
  have hk : ∀ a : Nat, a < H0.size → ¬ B0 ≤ a → H[a]? = H0[a]? := fun a ha hb => hS.2.1 a ha (fun q => hb (hAB a q))
  exact ⟨vx_Zq.kept h1 hk, vx_Zq.kept h2 hk, h3, h4, h5⟩
def PreX (G : va_G) (tys : List (ClassId × FieldType)) (ws : va_W) (sz B0 : Nat) : State → Prop := fun U => U.heap.size = sz ∧ va_P G vwCl ws U.heap ∧ va_K G vwCl tys U ∧ NW U ∧ va_D (fun q => B0 ≤ q) ws ∧ B0 ≤ sz ∧ XT B0 U U.heap
def PoX {α : Type} (G : va_G) (A : Nat → Prop) (w : α → va_W) : α → State → Prop := fun u t => va_P G vwCl (w u) t.heap ∧ va_D A (w u)
abbrev XCw {α β : Type} (G : va_G) (A : Nat → Prop) (w : α → va_W) (z : (Nat × α) ⊕ β) : String → State → State → Prop := vx_X (fun q : Nat × α => z = .inl q) (fun E q t => E = exN q.1 ∧ PoX G A w q.2 t) A
theorem fbX {G : va_G} {tys : List (ClassId × FieldType)} {ws : va_W} {sz B0 : Nat} {As : List Value} : FrameBlind (va_Pc As (PreX G tys ws sz B0)) := by
  intro a U g mk q
  obtain ⟨q0, q1, qP, qK, qN, qD, qB, qX⟩ := q
  exact ⟨q0, q1, qP, va_K.moved (u := U) (U := U.calling g mk a) (Vm.Alike.refl U.vm) qK, NW.same (u := U) (U := U.calling g mk a) rfl qN, qD, qB, XT.same (s := U) (U := U.calling g mk a) rfl (Vm.Alike.refl U.vm) qX⟩
section CALLX
variable {s : State} {H : Heap} {G : va_G} {tys : List (ClassId × FieldType)} {ws wc : va_W} {As : List Value} {A : Nat → Prop} {B0 : Nat} {locs : List Loc}
theorem psX (hK : va_K G vwCl tys s) (hN : NW s) (hP : va_P G vwCl wc H) (hD : va_D A wc) (hS : va_S A s.heap H locs) (hAB : ∀ q, A q → B0 ≤ q) (hB : B0 ≤ s.heap.size) (hX : XT B0 s s.heap) : PreS s H (va_Pc As (PreX G tys wc H.size B0)) As :=
  ⟨fbX, fun U hU hW => ⟨rfl, by rw [hU], by rw [hU]; exact hP, va_K.moved hW.alike hK, NW.moved hW hN, hD.weaken (fun _ _ _ h => hAB _ h), Nat.le_trans hB hS.1, by rw [hU]; exact XT.warm hW (XT.kept hS hAB hX)⟩⟩
theorem pvX {a q0 ci : Nat} {fs : List Value} {q : vw_C} (hK : va_K G vwCl tys s) (hN : NW s) (hP : va_P G vwCl wc H) (hD : va_D A wc) (hS : va_S A s.heap H locs) (hAB : ∀ q, A q → B0 ≤ q) (hB : B0 ≤ s.heap.size) (hX : XT B0 s s.heap) (hc : vwCl[ci]? = some q) (he : wc[q0]? = some (a, .inr (ci, fs))) : PreV s H q.1 a (va_Pc (.ref a :: As) (PreX G tys wc H.size B0)) As :=
  ⟨fbX, va_recv hK hP hc he, fun U hU hW => ⟨rfl, by rw [hU], by rw [hU]; exact hP, va_K.moved hW.alike hK, NW.moved hW hN, hD.weaken (fun _ _ _ h => hAB _ h), Nat.le_trans hB hS.1, by rw [hU]; exact XT.warm hW (XT.kept hS hAB hX)⟩⟩
end CALLX
theorem elr {α β γ : Type} {x : Option (α ⊕ β)} {f : α → Option γ} {g : β → Option γ} {z : γ} (h : (x.bind fun o => Sum.elim f g o) = some z) : (∃ q, x = some (.inl q) ∧ f q = some z) ∨ (∃ r, x = some (.inr r) ∧ g r = some z) := by
  obtain ⟨o, e, h⟩ := bnd h
  rcases o with q | r
  · exact Or.inl ⟨q, e, h⟩
  · exact Or.inr ⟨r, e, h⟩
section GO4
variable {p : Program} {l : Launch} {e : Env} {R : Room} {s : State} {m : MethodId} {args : Array Value} {below : List Frame} {meth : Method} {c : Code} {H : Heap} {locs : List Loc} {cells slots mc ms mcM msM : Nat} {Q : State → Prop}
variable {cc : ByteArray} {pc nL : Nat} {ls : Array Slot} {rest : List Value} {G : va_G} {tys : List (ClassId × FieldType)} {ws : va_W} {A : Nat → Prop} {H0 : Heap} {a : Nat} {own : String} {α β γ : Type} {w : α → va_W} {w1 : β → va_W} {B0 : Nat}
theorem retXi {v : Int32} {u : α} {z : (Nat × α) ⊕ (Int32 × α)} (hQ : Q = vx_MQ below (va_Qi (fun r u' => z = .inr (r, u')) (PoM G tys A w) A) (XCw G A w z) args s mcM msM A) (S : CallFix p m c cc nL s args bw own) (hr : meth.sig.returnType = some .int) (hlocks : meth.locks = false) (hK : va_K G vwCl tys s) (hN : NW s) (hP : va_P G vwCl (w u) H) (hD : va_D A (w u)) (hS : va_S A s.heap H locs) (h : some (.inr (v, u)) = some z) (hc : cells ≤ mcM) (hs : slots ≤ msM) (hdg : decode cc pc = .ok (.ireturn, 1)) : W p l e R s m args below meth c H locs cells slots Q (F0 m pc ls [.int v]) := by
  rw [hQ]
  refine vx_ret (W.widen hc hs ?_)
  exact W.iret S.1 S.2.1 hr (fun t ht hW => ⟨⟨v, u, rfl, (Option.some.inj h).symm, by rw [ht]; exact hP, va_K.moved hW.alike hK, NW.moved hW hN, hD⟩, hS.F ht⟩) hS.2.2 hdg hlocks
theorem retXv {u : α} {z : (Nat × α) ⊕ α} (hQ : Q = vx_MQ below (va_Qv (fun u' => z = .inr u') (PoM G tys A w) A) (XCw G A w z) args s mcM msM A) (S : CallFix p m c cc nL s args bw own) (hr : meth.sig.returnType = none) (hlocks : meth.locks = false) (hK : va_K G vwCl tys s) (hN : NW s) (hP : va_P G vwCl (w u) H) (hD : va_D A (w u)) (hS : va_S A s.heap H locs) (h : some (.inr u) = some z) (hc : cells ≤ mcM) (hs : slots ≤ msM) (hdg : decode cc pc = .ok (.return_, 1)) : W p l e R s m args below meth c H locs cells slots Q (F0 m pc ls []) := by
  rw [hQ]
  refine vx_ret (W.widen hc hs ?_)
  exact W.vret S.1 S.2.1 hr (fun t ht hW => ⟨⟨u, rfl, (Option.some.inj h).symm, by rw [ht]; exact hP, va_K.moved hW.alike hK, NW.moved hW hN, hD⟩, hS.F ht⟩) hS.2.2 hdg hlocks
theorem XCw.mk {k : Nat} {u : α} {z : (Nat × α) ⊕ γ} {t : State} (h : some (.inl (k, u)) = some z) (hP : va_P G vwCl (w u) H) (hD : va_D A (w u)) (hS : va_S A s.heap H locs) (hlt : ∀ (k : Nat) (q : Nat × va_E), (w u)[k]? = some q → q.1 < H.size) (h1 : H.size ≤ t.heap.size) (h2 : ∀ q : Nat, q < H.size → t.heap[q]? = H[q]?) : XCw G A w z (exN k) s t :=
  ⟨(k, u), (Option.some.inj h).symm, ⟨rfl, hP.kept (fun i q hq => h2 q.1 (hlt i q hq)), hD⟩, Nat.le_trans hS.1 h1, fun q hq hA => (h2 q (Nat.lt_of_lt_of_le hq hS.1)).trans (hS.2.1 q hq hA)⟩
theorem wlt {G : va_G} {ws : va_W} {H : Heap} (hP : va_P G vwCl ws H) : ∀ (k : Nat) (q : Nat × va_E), ws[k]? = some q → q.1 < H.size := fun _ _ hk => vx_lt hP hk
theorem thr1 {u : α} {z : (Nat × α) ⊕ γ} {Qc : Array Value → State → Outcome → State → Prop} {is : Nat} {tx : String} (hQ : Q = vx_MQ below Qc (XCw G A w z) args s mcM msM A) (S : CallFix p m c cc nL s args bw RX4) (hst : l.stackTraces = false) (htab : ∀ x ∈ c.exceptionTable.toList, False) (hlocks : meth.locks = false) (hX : XT B0 s s.heap) (hAB : ∀ q, A q → B0 ≤ q) (hP : va_P G vwCl (w u) H) (hD : va_D A (w u)) (hS : va_S A s.heap H locs) (h : some (.inl (1, u)) = some z) (hsz : ls.size = nL) (hstr : (is, tx) ∈ strs)
    (d0 : decode cc pc = .ok (.new 61, 3)) (d3 : decode cc (pc + 3) = .ok (.dup, 1)) (d4 : decode cc (pc + 4) = .ok (.ldc is, 2)) (d6 : decode cc (pc + 6) = .ok (.invokespecial 65, 3)) (d9 : decode cc (pc + 9) = .ok (.athrow, 1))
    (hRf : 2 + 3 < R.frames) (hRl : (rest.map fun v => v.category).sum + (13 * (2 + 1) + 43) ≤ R.locals) (hRc : cells + 1 ≤ R.cells) (hRs : slots + 6 ≤ R.slots) (hc : cells + 1 ≤ mcM) (hs : slots + 6 ≤ msM) : W p l e R s m args below meth c H locs cells slots Q (F0 m pc ls rest) := by
  obtain ⟨sa, hsa⟩ := hX.2.2.1 _ hstr
  rw [hQ]
  exact vx_throwS (own := RX4) (cls := "java/lang/IllegalArgumentException") (names := ["java/lang/RuntimeException", "java/lang/Exception"]) S.1 S.2.1 hst S.2.2.2.1 (by decide +kernel) (by decide +kernel) (S.2.2.2.2 _ q_159) (S.2.2.2.2 _ q_160) hsa (vx_hat (L := thW1) (fun w hw => S.2.2.2.2 _ (bi_A0 _ hw)) (fun w hw => thN1 ▸ hw) (vx_c (va_Nw.use rfl (hX.2.2.2.2 _ (List.mem_of_getElem? (i := 0) rfl))) (vx_c (va_Nw.use rfl (hX.2.2.2.2 _ (List.mem_of_getElem? (i := 1) rfl))) (vx_c (va_Nw.use rfl (hX.2.2.2.2 _ (List.mem_of_getElem? (i := 2) rfl))) (vx_c (va_Nw.use rfl (hX.2.2.2.1 1)) vx_n))))) thG1 (vx_Zq.narrow hX.1 hAB) (vx_Zq.narrow hX.2.1 hAB) hS (hsz.trans S.2.2.1.symm) d0 d3 d4 d6 d9 (fun x hx => (htab x hx).elim) hRf hRl hRc hRs hlocks (fun t _ h1 h2 => XCw.mk h hP hD hS (wlt hP) h1 h2) hS.2.2 hc hs
theorem thr2 {u : α} {z : (Nat × α) ⊕ γ} {Qc : Array Value → State → Outcome → State → Prop} {is : Nat} {tx : String} (hQ : Q = vx_MQ below Qc (XCw G A w z) args s mcM msM A) (S : CallFix p m c cc nL s args bw RX4) (hst : l.stackTraces = false) (htab : ∀ x ∈ c.exceptionTable.toList, False) (hlocks : meth.locks = false) (hX : XT B0 s s.heap) (hAB : ∀ q, A q → B0 ≤ q) (hP : va_P G vwCl (w u) H) (hD : va_D A (w u)) (hS : va_S A s.heap H locs) (h : some (.inl (2, u)) = some z) (hsz : ls.size = nL) (hstr : (is, tx) ∈ strs)
    (d0 : decode cc pc = .ok (.new 70, 3)) (d3 : decode cc (pc + 3) = .ok (.dup, 1)) (d4 : decode cc (pc + 4) = .ok (.ldc is, 2)) (d6 : decode cc (pc + 6) = .ok (.invokespecial 74, 3)) (d9 : decode cc (pc + 9) = .ok (.athrow, 1))
    (hRf : 2 + 3 < R.frames) (hRl : (rest.map fun v => v.category).sum + (13 * (2 + 1) + 43) ≤ R.locals) (hRc : cells + 1 ≤ R.cells) (hRs : slots + 6 ≤ R.slots) (hc : cells + 1 ≤ mcM) (hs : slots + 6 ≤ msM) : W p l e R s m args below meth c H locs cells slots Q (F0 m pc ls rest) := by
  obtain ⟨sa, hsa⟩ := hX.2.2.1 _ hstr
  rw [hQ]
  exact vx_throwS (own := RX4) (cls := "java/lang/IllegalStateException") (names := ["java/lang/RuntimeException", "java/lang/Exception"]) S.1 S.2.1 hst S.2.2.2.1 (by decide +kernel) (by decide +kernel) (S.2.2.2.2 _ q_161) (S.2.2.2.2 _ q_162) hsa (vx_hat (L := thW2) (fun w hw => S.2.2.2.2 _ (bi_A1 _ hw)) (fun w hw => thN2 ▸ hw) (vx_c (va_Nw.use rfl (hX.2.2.2.2 _ (List.mem_of_getElem? (i := 0) rfl))) (vx_c (va_Nw.use rfl (hX.2.2.2.2 _ (List.mem_of_getElem? (i := 1) rfl))) (vx_c (va_Nw.use rfl (hX.2.2.2.2 _ (List.mem_of_getElem? (i := 2) rfl))) (vx_c (va_Nw.use rfl (hX.2.2.2.1 2)) vx_n))))) thG2 (vx_Zq.narrow hX.1 hAB) (vx_Zq.narrow hX.2.1 hAB) hS (hsz.trans S.2.2.1.symm) d0 d3 d4 d6 d9 (fun x hx => (htab x hx).elim) hRf hRl hRc hRs hlocks (fun t _ h1 h2 => XCw.mk h hP hD hS (wlt hP) h1 h2) hS.2.2 hc hs
theorem thr3 {u : α} {z : (Nat × α) ⊕ γ} {Qc : Array Value → State → Outcome → State → Prop} {is : Nat} {tx : String} (hQ : Q = vx_MQ below Qc (XCw G A w z) args s mcM msM A) (S : CallFix p m c cc nL s args bw RX4) (hst : l.stackTraces = false) (htab : ∀ x ∈ c.exceptionTable.toList, False) (hlocks : meth.locks = false) (hX : XT B0 s s.heap) (hAB : ∀ q, A q → B0 ≤ q) (hP : va_P G vwCl (w u) H) (hD : va_D A (w u)) (hS : va_S A s.heap H locs) (h : some (.inl (3, u)) = some z) (hsz : ls.size = nL) (hstr : (is, tx) ∈ strs)
    (d0 : decode cc pc = .ok (.new 135, 3)) (d3 : decode cc (pc + 3) = .ok (.dup, 1)) (d4 : decode cc (pc + 4) = .ok (.ldc is, 2)) (d6 : decode cc (pc + 6) = .ok (.invokespecial 139, 3)) (d9 : decode cc (pc + 9) = .ok (.athrow, 1))
    (hRf : 2 + 3 < R.frames) (hRl : (rest.map fun v => v.category).sum + (13 * (2 + 1) + 43) ≤ R.locals) (hRc : cells + 1 ≤ R.cells) (hRs : slots + 6 ≤ R.slots) (hc : cells + 1 ≤ mcM) (hs : slots + 6 ≤ msM) : W p l e R s m args below meth c H locs cells slots Q (F0 m pc ls rest) := by
  obtain ⟨sa, hsa⟩ := hX.2.2.1 _ hstr
  rw [hQ]
  exact vx_throwS (own := RX4) (cls := "java/lang/IndexOutOfBoundsException") (names := ["java/lang/RuntimeException", "java/lang/Exception"]) S.1 S.2.1 hst S.2.2.2.1 (by decide +kernel) (by decide +kernel) (S.2.2.2.2 _ q_215) (S.2.2.2.2 _ q_216) hsa (vx_hat (L := thW3) (fun w hw => S.2.2.2.2 _ (bi_A2 _ hw)) (fun w hw => thN3 ▸ hw) (vx_c (va_Nw.use rfl (hX.2.2.2.2 _ (List.mem_of_getElem? (i := 0) rfl))) (vx_c (va_Nw.use rfl (hX.2.2.2.2 _ (List.mem_of_getElem? (i := 1) rfl))) (vx_c (va_Nw.use rfl (hX.2.2.2.2 _ (List.mem_of_getElem? (i := 2) rfl))) (vx_c (va_Nw.use rfl (hX.2.2.2.1 3)) vx_n))))) thG3 (vx_Zq.narrow hX.1 hAB) (vx_Zq.narrow hX.2.1 hAB) hS (hsz.trans S.2.2.1.symm) d0 d3 d4 d6 d9 (fun x hx => (htab x hx).elim) hRf hRl hRc hRs hlocks (fun t _ h1 h2 => XCw.mk h hP hD hS (wlt hP) h1 h2) hS.2.2 hc hs
theorem thw1 {u : α} {z : (Nat × α) ⊕ γ} {Qc : Array Value → State → Outcome → State → Prop} {is : Nat} {tx : String} (hQ : Q = vx_MQ below Qc (XCw G A w z) args s mcM msM A) (S : CallFix p m c cc nL s args bw RX4) (hst : l.stackTraces = false) (htab : ∀ x ∈ c.exceptionTable.toList, False) (hlocks : meth.locks = false) (hX : XT B0 s s.heap) (hAB : ∀ q, A q → B0 ≤ q) (hP : va_P G vwCl (w u) H) (hD : va_D A (w u)) (hS : va_S A s.heap H locs) (h : some (.inl (1, u)) = some z) (hsz : ls.size = nL) (hstr : (is, tx) ∈ strs)
    (d0 : decode cc pc = .ok (.new 61, 3)) (d3 : decode cc (pc + 3) = .ok (.dup, 1)) (d4 : decode cc (pc + 4) = .ok (.ldc_w is, 3)) (d6 : decode cc (pc + 7) = .ok (.invokespecial 65, 3)) (d9 : decode cc (pc + 10) = .ok (.athrow, 1))
    (hRf : 2 + 3 < R.frames) (hRl : (rest.map fun v => v.category).sum + (13 * (2 + 1) + 43) ≤ R.locals) (hRc : cells + 1 ≤ R.cells) (hRs : slots + 6 ≤ R.slots) (hc : cells + 1 ≤ mcM) (hs : slots + 6 ≤ msM) : W p l e R s m args below meth c H locs cells slots Q (F0 m pc ls rest) := by
  obtain ⟨sa, hsa⟩ := hX.2.2.1 _ hstr
  rw [hQ]
  exact vx_throwSW (own := RX4) (cls := "java/lang/IllegalArgumentException") (names := ["java/lang/RuntimeException", "java/lang/Exception"]) S.1 S.2.1 hst S.2.2.2.1 (by decide +kernel) (by decide +kernel) (S.2.2.2.2 _ q_159) (S.2.2.2.2 _ q_160) hsa (vx_hat (L := thW1) (fun w hw => S.2.2.2.2 _ (bi_A0 _ hw)) (fun w hw => thN1 ▸ hw) (vx_c (va_Nw.use rfl (hX.2.2.2.2 _ (List.mem_of_getElem? (i := 0) rfl))) (vx_c (va_Nw.use rfl (hX.2.2.2.2 _ (List.mem_of_getElem? (i := 1) rfl))) (vx_c (va_Nw.use rfl (hX.2.2.2.2 _ (List.mem_of_getElem? (i := 2) rfl))) (vx_c (va_Nw.use rfl (hX.2.2.2.1 1)) vx_n))))) thG1 (vx_Zq.narrow hX.1 hAB) (vx_Zq.narrow hX.2.1 hAB) hS (hsz.trans S.2.2.1.symm) d0 d3 d4 d6 d9 (fun x hx => (htab x hx).elim) hRf hRl hRc hRs hlocks (fun t _ h1 h2 => XCw.mk h hP hD hS (wlt hP) h1 h2) hS.2.2 hc hs
theorem thw2 {u : α} {z : (Nat × α) ⊕ γ} {Qc : Array Value → State → Outcome → State → Prop} {is : Nat} {tx : String} (hQ : Q = vx_MQ below Qc (XCw G A w z) args s mcM msM A) (S : CallFix p m c cc nL s args bw RX4) (hst : l.stackTraces = false) (htab : ∀ x ∈ c.exceptionTable.toList, False) (hlocks : meth.locks = false) (hX : XT B0 s s.heap) (hAB : ∀ q, A q → B0 ≤ q) (hP : va_P G vwCl (w u) H) (hD : va_D A (w u)) (hS : va_S A s.heap H locs) (h : some (.inl (2, u)) = some z) (hsz : ls.size = nL) (hstr : (is, tx) ∈ strs)
    (d0 : decode cc pc = .ok (.new 70, 3)) (d3 : decode cc (pc + 3) = .ok (.dup, 1)) (d4 : decode cc (pc + 4) = .ok (.ldc_w is, 3)) (d6 : decode cc (pc + 7) = .ok (.invokespecial 74, 3)) (d9 : decode cc (pc + 10) = .ok (.athrow, 1))
    (hRf : 2 + 3 < R.frames) (hRl : (rest.map fun v => v.category).sum + (13 * (2 + 1) + 43) ≤ R.locals) (hRc : cells + 1 ≤ R.cells) (hRs : slots + 6 ≤ R.slots) (hc : cells + 1 ≤ mcM) (hs : slots + 6 ≤ msM) : W p l e R s m args below meth c H locs cells slots Q (F0 m pc ls rest) := by
  obtain ⟨sa, hsa⟩ := hX.2.2.1 _ hstr
  rw [hQ]
  exact vx_throwSW (own := RX4) (cls := "java/lang/IllegalStateException") (names := ["java/lang/RuntimeException", "java/lang/Exception"]) S.1 S.2.1 hst S.2.2.2.1 (by decide +kernel) (by decide +kernel) (S.2.2.2.2 _ q_161) (S.2.2.2.2 _ q_162) hsa (vx_hat (L := thW2) (fun w hw => S.2.2.2.2 _ (bi_A1 _ hw)) (fun w hw => thN2 ▸ hw) (vx_c (va_Nw.use rfl (hX.2.2.2.2 _ (List.mem_of_getElem? (i := 0) rfl))) (vx_c (va_Nw.use rfl (hX.2.2.2.2 _ (List.mem_of_getElem? (i := 1) rfl))) (vx_c (va_Nw.use rfl (hX.2.2.2.2 _ (List.mem_of_getElem? (i := 2) rfl))) (vx_c (va_Nw.use rfl (hX.2.2.2.1 2)) vx_n))))) thG2 (vx_Zq.narrow hX.1 hAB) (vx_Zq.narrow hX.2.1 hAB) hS (hsz.trans S.2.2.1.symm) d0 d3 d4 d6 d9 (fun x hx => (htab x hx).elim) hRf hRl hRc hRs hlocks (fun t _ h1 h2 => XCw.mk h hP hD hS (wlt hP) h1 h2) hS.2.2 hc hs
theorem thw3 {u : α} {z : (Nat × α) ⊕ γ} {Qc : Array Value → State → Outcome → State → Prop} {is : Nat} {tx : String} (hQ : Q = vx_MQ below Qc (XCw G A w z) args s mcM msM A) (S : CallFix p m c cc nL s args bw RX4) (hst : l.stackTraces = false) (htab : ∀ x ∈ c.exceptionTable.toList, False) (hlocks : meth.locks = false) (hX : XT B0 s s.heap) (hAB : ∀ q, A q → B0 ≤ q) (hP : va_P G vwCl (w u) H) (hD : va_D A (w u)) (hS : va_S A s.heap H locs) (h : some (.inl (3, u)) = some z) (hsz : ls.size = nL) (hstr : (is, tx) ∈ strs)
    (d0 : decode cc pc = .ok (.new 135, 3)) (d3 : decode cc (pc + 3) = .ok (.dup, 1)) (d4 : decode cc (pc + 4) = .ok (.ldc_w is, 3)) (d6 : decode cc (pc + 7) = .ok (.invokespecial 139, 3)) (d9 : decode cc (pc + 10) = .ok (.athrow, 1))
    (hRf : 2 + 3 < R.frames) (hRl : (rest.map fun v => v.category).sum + (13 * (2 + 1) + 43) ≤ R.locals) (hRc : cells + 1 ≤ R.cells) (hRs : slots + 6 ≤ R.slots) (hc : cells + 1 ≤ mcM) (hs : slots + 6 ≤ msM) : W p l e R s m args below meth c H locs cells slots Q (F0 m pc ls rest) := by
  obtain ⟨sa, hsa⟩ := hX.2.2.1 _ hstr
  rw [hQ]
  exact vx_throwSW (own := RX4) (cls := "java/lang/IndexOutOfBoundsException") (names := ["java/lang/RuntimeException", "java/lang/Exception"]) S.1 S.2.1 hst S.2.2.2.1 (by decide +kernel) (by decide +kernel) (S.2.2.2.2 _ q_215) (S.2.2.2.2 _ q_216) hsa (vx_hat (L := thW3) (fun w hw => S.2.2.2.2 _ (bi_A2 _ hw)) (fun w hw => thN3 ▸ hw) (vx_c (va_Nw.use rfl (hX.2.2.2.2 _ (List.mem_of_getElem? (i := 0) rfl))) (vx_c (va_Nw.use rfl (hX.2.2.2.2 _ (List.mem_of_getElem? (i := 1) rfl))) (vx_c (va_Nw.use rfl (hX.2.2.2.2 _ (List.mem_of_getElem? (i := 2) rfl))) (vx_c (va_Nw.use rfl (hX.2.2.2.1 3)) vx_n))))) thG3 (vx_Zq.narrow hX.1 hAB) (vx_Zq.narrow hX.2.1 hAB) hS (hsz.trans S.2.2.1.symm) d0 d3 d4 d6 d9 (fun x hx => (htab x hx).elim) hRf hRl hRc hRs hlocks (fun t _ h1 h2 => XCw.mk h hP hD hS (wlt hP) h1 h2) hS.2.2 hc hs
theorem xpropV {q : Nat × β} {zc : (Nat × α) ⊕ γ} {u' : α} {wc : va_W} {aa : Array Value} {st0 : List Value} {Qc : Array Value → State → Outcome → State → Prop} (hQ : Q = vx_MQ below Qc (XCw G A w zc) args s mcM msM A) (hr : vx_Run p l e R s m args below meth c H locs cells slots mc ms (F0 m pc ls st0) rest (va_Qv (fun u => (Sum.inl q : (Nat × β) ⊕ β) = .inr u) (PoM G tys (va_A wc H.size) w1) (va_A wc H.size) aa) (XCw G (va_A wc H.size) w1 (Sum.inl q : (Nat × β) ⊕ β)) (va_A wc H.size)) (htab : ∀ x ∈ c.exceptionTable.toList, False) (hlocks : meth.locks = false) (hS : va_S A s.heap H locs) (hP : va_P G vwCl ws H) (hD : va_D A ws) (hA : ∀ q, s.heap.size ≤ q → A q)
    (isC isR : List Nat) (hC : isC.map (fun i => ws[i]?) = wc.map some) (hR : isR.map (fun i => ws[i]?) = (isR.filterMap (fun i => ws[i]?)).map some) (hn : va_nd isR = true) (hdis : ∀ i ∈ isR, i ∉ isC) (perm : List Nat) (hpn : va_nd perm = true) (hpm : perm.map (fun i => (isR.filterMap (fun i => ws[i]?) ++ w1 q.2)[i]?) = (w u').map some) (h : some (.inl (q.1, u')) = some zc) (hc : cells + mc ≤ mcM) (hs : slots + ms ≤ msM) : W p l e R s m args below meth c H locs cells slots Q (F0 m pc ls st0) := by
  have hF := va_free (wc := wc) hD hS hA isC hC
  rw [hQ]
  refine vx_callv hr hS (fun q _ h => hF q h) hF (fun q _ h => hF q h) ?_ ?_
  · intro E ce q9 u t H1 locs1 ht hvm hw hB hz hk hS1 h9 hv9 hc9
    cases hw
    obtain ⟨rfl, hP1, hD1⟩ := hB
    rw [ht] at hP1
    obtain ⟨hP2, hD2⟩ := va_join hP hD isC isR hC hR hn hdis hk hF hP1 hD1
    have hP3 := hP2.sub perm (fm_of hpm)
    have hD3 := hD2.sub perm hpn hpm
    exact vx_out (fun x hx => (htab x hx).elim) hlocks h9 hv9 hc9 (fun t ht _ => XCw.mk h hP3 hD3 hS1 (wlt hP3) (by rw [ht]; exact Nat.le_refl _) (fun _ _ => by rw [ht])) hS1.2.2 hc hs
  · intro u t H1 locs1 ht hvm hw
    cases hw
theorem xcontV {u : β} {wc : va_W} {aa : Array Value} {st0 : List Value} (hr : vx_Run p l e R s m args below meth c H locs cells slots mc ms (F0 m pc ls st0) rest (va_Qv (fun u' => (Sum.inr u : (Nat × β) ⊕ β) = .inr u') (PoM G tys (va_A wc H.size) w1) (va_A wc H.size) aa) (XCw G (va_A wc H.size) w1 (Sum.inr u : (Nat × β) ⊕ β)) (va_A wc H.size)) (hS : va_S A H0 H locs) (hP : va_P G vwCl ws H) (hD : va_D A ws) (hA : ∀ q, H0.size ≤ q → A q)
    (isC isR : List Nat) (hC : isC.map (fun i => ws[i]?) = wc.map some) (hR : isR.map (fun i => ws[i]?) = (isR.filterMap (fun i => ws[i]?)).map some) (hn : va_nd isR = true) (hdis : ∀ i ∈ isR, i ∉ isC) (perm : List Nat) (hpn : va_nd perm = true) (ws1 : va_W) (hpm : perm.map (fun i => (isR.filterMap (fun i => ws[i]?) ++ w1 u)[i]?) = ws1.map some)
    (kk : ∀ (H1 : Heap) (locs1 : List Loc), va_P G vwCl ws1 H1 → va_D A ws1 → va_S A H0 H1 locs1 → W p l e R s m args below meth c H1 locs1 (cells + mc) (slots + ms) Q (F0 m (pc + 3) ls rest)) : W p l e R s m args below meth c H locs cells slots Q (F0 m pc ls st0) := by
  have hF := va_free (wc := wc) hD hS hA isC hC
  refine vx_callv hr hS (fun q _ h => hF q h) hF (fun q _ h => hF q h) ?_ ?_
  · intro E ce q9 u t H1 locs1 ht hvm hw
    cases hw
  · intro u t H1 locs1 ht hvm hw hB hz hk hS1
    cases hw
    obtain ⟨hP1, _, _, hD1⟩ := hB
    rw [ht] at hP1
    obtain ⟨hP2, hD2⟩ := va_join hP hD isC isR hC hR hn hdis hk hF hP1 hD1
    exact kk H1 locs1 (hP2.sub perm (fm_of hpm)) (hD2.sub perm hpn hpm) hS1
theorem xpropI {q : Nat × β} {zc : (Nat × α) ⊕ γ} {u' : α} {wc : va_W} {aa : Array Value} {st0 : List Value} {Qc : Array Value → State → Outcome → State → Prop} (hQ : Q = vx_MQ below Qc (XCw G A w zc) args s mcM msM A) (hr : vx_Run p l e R s m args below meth c H locs cells slots mc ms (F0 m pc ls st0) rest (va_Qi (fun r u => (Sum.inl q : (Nat × β) ⊕ (Int32 × β)) = .inr (r, u)) (PoM G tys (va_A wc H.size) w1) (va_A wc H.size) aa) (XCw G (va_A wc H.size) w1 (Sum.inl q : (Nat × β) ⊕ (Int32 × β))) (va_A wc H.size)) (htab : ∀ x ∈ c.exceptionTable.toList, False) (hlocks : meth.locks = false) (hS : va_S A s.heap H locs) (hP : va_P G vwCl ws H) (hD : va_D A ws) (hA : ∀ q, s.heap.size ≤ q → A q)
    (isC isR : List Nat) (hC : isC.map (fun i => ws[i]?) = wc.map some) (hR : isR.map (fun i => ws[i]?) = (isR.filterMap (fun i => ws[i]?)).map some) (hn : va_nd isR = true) (hdis : ∀ i ∈ isR, i ∉ isC) (perm : List Nat) (hpn : va_nd perm = true) (hpm : perm.map (fun i => (isR.filterMap (fun i => ws[i]?) ++ w1 q.2)[i]?) = (w u').map some) (h : some (.inl (q.1, u')) = some zc) (hc : cells + mc ≤ mcM) (hs : slots + ms ≤ msM) : W p l e R s m args below meth c H locs cells slots Q (F0 m pc ls st0) := by
  have hF := va_free (wc := wc) hD hS hA isC hC
  rw [hQ]
  refine vx_calli hr hS (fun q _ h => hF q h) hF (fun q _ h => hF q h) ?_ ?_
  · intro E ce q9 u t H1 locs1 ht hvm hw hB hz hk hS1 h9 hv9 hc9
    cases hw
    obtain ⟨rfl, hP1, hD1⟩ := hB
    rw [ht] at hP1
    obtain ⟨hP2, hD2⟩ := va_join hP hD isC isR hC hR hn hdis hk hF hP1 hD1
    have hP3 := hP2.sub perm (fm_of hpm)
    have hD3 := hD2.sub perm hpn hpm
    exact vx_out (fun x hx => (htab x hx).elim) hlocks h9 hv9 hc9 (fun t ht _ => XCw.mk h hP3 hD3 hS1 (wlt hP3) (by rw [ht]; exact Nat.le_refl _) (fun _ _ => by rw [ht])) hS1.2.2 hc hs
  · intro r u t H1 locs1 ht hvm hw
    cases hw
theorem xcontI {u : Int32 × β} {wc : va_W} {aa : Array Value} {st0 : List Value} (hr : vx_Run p l e R s m args below meth c H locs cells slots mc ms (F0 m pc ls st0) rest (va_Qi (fun r u' => (Sum.inr u : (Nat × β) ⊕ (Int32 × β)) = .inr (r, u')) (PoM G tys (va_A wc H.size) w1) (va_A wc H.size) aa) (XCw G (va_A wc H.size) w1 (Sum.inr u : (Nat × β) ⊕ (Int32 × β))) (va_A wc H.size)) (hS : va_S A H0 H locs) (hP : va_P G vwCl ws H) (hD : va_D A ws) (hA : ∀ q, H0.size ≤ q → A q)
    (isC isR : List Nat) (hC : isC.map (fun i => ws[i]?) = wc.map some) (hR : isR.map (fun i => ws[i]?) = (isR.filterMap (fun i => ws[i]?)).map some) (hn : va_nd isR = true) (hdis : ∀ i ∈ isR, i ∉ isC) (perm : List Nat) (hpn : va_nd perm = true) (ws1 : va_W) (hpm : perm.map (fun i => (isR.filterMap (fun i => ws[i]?) ++ w1 u.2)[i]?) = ws1.map some)
    (kk : ∀ (H1 : Heap) (locs1 : List Loc), va_P G vwCl ws1 H1 → va_D A ws1 → va_S A H0 H1 locs1 → W p l e R s m args below meth c H1 locs1 (cells + mc) (slots + ms) Q (F0 m (pc + 3) ls (.int u.1 :: rest))) : W p l e R s m args below meth c H locs cells slots Q (F0 m pc ls st0) := by
  have hF := va_free (wc := wc) hD hS hA isC hC
  refine vx_calli hr hS (fun q _ h => hF q h) hF (fun q _ h => hF q h) ?_ ?_
  · intro E ce q9 u t H1 locs1 ht hvm hw
    cases hw
  · intro r u t H1 locs1 ht hvm hw hB hz hk hS1
    cases hw
    obtain ⟨hP1, _, _, hD1⟩ := hB
    rw [ht] at hP1
    obtain ⟨hP2, hD2⟩ := va_join hP hD isC isR hC hR hn hdis hk hF hP1 hD1
    exact kk H1 locs1 (hP2.sub perm (fm_of hpm)) (hD2.sub perm hpn hpm) hS1
end GO4
theorem enterX {l : Launch} {y : MethodName} {cc : ByteArray} {maxL mc ms : Nat} {ret : Option FieldType} {rm : Room} {G : va_G} {tys : List (ClassId × FieldType)} {ws : va_W} {As : List Value} {sz B0 : Nat} {own : String} {Qc : Array Value → State → Outcome → State → Prop} {XC : String → State → State → Prop} (hy : plainName y.cls = true) (hown : y.cls = own) (hlen : (lg_sl As).length ≤ maxL)
    (body : ∀ (p : Program) (e : Env) (s : State) (m : MethodId) (args : Array Value) (below : List Frame) (meth : Method) (c : Code) (A : Nat → Prop) (Q : State → Prop), va_A ws sz = A → Q = vx_MQ below Qc XC args s mc ms A → CallFix p m c cc maxL s args bw own → meth.sig.returnType = ret → meth.locks = false → (∀ x ∈ c.exceptionTable.toList, False) → va_P G vwCl ws s.heap → va_K G vwCl tys s → NW s → va_D A ws → (∀ q, s.heap.size ≤ q → A q) → va_S A s.heap s.heap [] → XT B0 s s.heap → (∀ q, A q → B0 ≤ q) → B0 ≤ s.heap.size → ∀ ls : Array Slot, lv_has ls maxL (lv_args 0 As) → W p l e rm s m args below meth c s.heap [] 0 0 Q (F0 m 0 ls [])) :
    vx_Met l y (.code y cc maxL ret :: bw) rm (va_Pc As (PreX G tys ws sz B0)) Qc XC mc ms (va_A ws sz) := by
  refine vx_ofW (cc := cc) (maxL := maxL) (ret := ret) hy rfl ?_
  intro p e s m args below meth c s₁ B hml htab hv
  obtain ⟨rfl, hsz, hP, hK, hN, hD0, hB, hX⟩ := hv
  have hts := atoms_spec (ws := .code y cc maxL ret :: bw) B.pre
  have hfc : s.vm.findClass own = some m.cls := by rw [← hown]; exact findClass_of_methodNamed B.named
  have hl := lv_entry As hlen
  subst hsz
  rw [lg_entry_eq]
  refine body p e s m _ below meth c _ _ rfl rfl ⟨B.exec, B.bytes, hml, hfc, fun w hw => hts w (List.mem_cons_of_mem _ hw)⟩ B.returns B.notSynchronized htab hP hK hN ((va_D.weaken (B := fun _ => True) hD0 (fun _ _ _ _ => trivial)).self (sz := s.heap.size)) (fun q h => Or.inr h) va_S.rf hX ?_ hB _ hl
  intro q hq
  rcases hq with ⟨k, e2, hk⟩ | h
  · exact hD0.2 k _ hk
  · exact Nat.le_trans hB h
def wU (_ : Unit) : va_W := []
