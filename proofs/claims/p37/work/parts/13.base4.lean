abbrev THS : Type := TH × (Nat → TS) × (Nat → Nat) × (Nat → Nat)
def wHSf (cI cS : ClassId) (sv : Nat) (h : Nat → Nat) (u : THS) (F : Nat → Option Nat) : va_W := [(h 0, .inr (4, [.ref (h 1), .ref (h 2), .ref (h 6), .ref (h 8), .ref (h 10), .ref (h 12), .ref sv, .int u.1.2.2.2.2.2])), (h 1, .inr (2, [.ref (h 2), .ref (h 4)])), (h 2, .inr (3, [.ref (h 3), .int u.1.1.1.1.1, .int u.1.1.1.1.2.1, .int u.1.1.1.1.2.2.1, .int u.1.1.1.1.2.2.2])), (h 3, .inl (cI, 1024, .inl u.1.1.1.2)), (h 4, .inr (0, [.ref (h 5), .int u.1.1.2.1])), (h 5, .inl (cI, 128, .inl u.1.1.2.2)), (h 6, .inr (0, [.ref (h 7), .int u.1.2.1.1])), (h 7, .inl (cI, 60, .inl u.1.2.1.2)), (h 8, .inr (0, [.ref (h 9), .int u.1.2.2.1.1])), (h 9, .inl (cI, 60, .inl u.1.2.2.1.2)), (h 10, .inr (0, [.ref (h 11), .int u.1.2.2.2.1.1])), (h 11, .inl (cI, 63, .inl u.1.2.2.2.1.2)), (h 12, .inr (1, [.int u.1.2.2.2.2.1.1, .int u.1.2.2.2.2.1.2.1, .int u.1.2.2.2.2.1.2.2.1, .int u.1.2.2.2.2.1.2.2.2])), (sv, .inl (cS, 6, .inr (.inr (.inr (.inr F))))), (u.2.2.1 0, .inr (3, [.ref (u.2.2.2 0), .int (u.2.1 0).1.1, .int (u.2.1 0).1.2.1, .int (u.2.1 0).1.2.2.1, .int (u.2.1 0).1.2.2.2])), (u.2.2.2 0, .inl (cI, 1024, .inl (u.2.1 0).2)), (u.2.2.1 1, .inr (3, [.ref (u.2.2.2 1), .int (u.2.1 1).1.1, .int (u.2.1 1).1.2.1, .int (u.2.1 1).1.2.2.1, .int (u.2.1 1).1.2.2.2])), (u.2.2.2 1, .inl (cI, 1024, .inl (u.2.1 1).2)), (u.2.2.1 2, .inr (3, [.ref (u.2.2.2 2), .int (u.2.1 2).1.1, .int (u.2.1 2).1.2.1, .int (u.2.1 2).1.2.2.1, .int (u.2.1 2).1.2.2.2])), (u.2.2.2 2, .inl (cI, 1024, .inl (u.2.1 2).2)), (u.2.2.1 3, .inr (3, [.ref (u.2.2.2 3), .int (u.2.1 3).1.1, .int (u.2.1 3).1.2.1, .int (u.2.1 3).1.2.2.1, .int (u.2.1 3).1.2.2.2])), (u.2.2.2 3, .inl (cI, 1024, .inl (u.2.1 3).2)), (u.2.2.1 4, .inr (3, [.ref (u.2.2.2 4), .int (u.2.1 4).1.1, .int (u.2.1 4).1.2.1, .int (u.2.1 4).1.2.2.1, .int (u.2.1 4).1.2.2.2])), (u.2.2.2 4, .inl (cI, 1024, .inl (u.2.1 4).2)), (u.2.2.1 5, .inr (3, [.ref (u.2.2.2 5), .int (u.2.1 5).1.1, .int (u.2.1 5).1.2.1, .int (u.2.1 5).1.2.2.1, .int (u.2.1 5).1.2.2.2])), (u.2.2.2 5, .inl (cI, 1024, .inl (u.2.1 5).2))]
def wHS (cI cS : ClassId) (sv : Nat) (h : Nat → Nat) (u : THS) : va_W := wHSf cI cS sv h u (fun i => some (u.2.2.1 i))
def rot {α : Type} (f : Nat → α) : Nat → α := fun i => if i < 5 then f (i + 1) else if i = 5 then f 0 else f i
theorem vp_in_of_not {i : Int32} {n : Nat} (h : ¬ (i < 0 ∨ n ≤ i.toNatClampNeg)) : vp_in i n := h
theorem rotF (rf : Nat → Nat) : va_up (va_up (va_up (va_up (va_up (va_up (va_up (va_up (va_up (va_up (fun i => some (rf i)) 0 (some (rf 1))) 1 (some (rf 0))) 1 (some (rf 2))) 2 (some (rf 0))) 2 (some (rf 3))) 3 (some (rf 0))) 3 (some (rf 4))) 4 (some (rf 0))) 4 (some (rf 5))) 5 (some (rf 0)) = fun i => some (rot rf i) := by
  funext i
  match i with
  | 0 => rfl
  | 1 => rfl
  | 2 => rfl
  | 3 => rfl
  | 4 => rfl
  | 5 => rfl
  | n + 6 =>
    have e : rot rf (n + 6) = rf (n + 6) := by unfold rot; rw [if_neg (by omega), if_neg (by omega)]
    rw [e]
    simp only [va_up]
    rw [if_neg (by omega), if_neg (by omega), if_neg (by omega), if_neg (by omega), if_neg (by omega), if_neg (by omega), if_neg (by omega), if_neg (by omega), if_neg (by omega), if_neg (by omega)]
section GO5
variable {p : Program} {l : Launch} {e : Env} {R : Room} {s : State} {m : MethodId} {args : Array Value} {below : List Frame} {meth : Method} {c : Code} {H : Heap} {locs : List Loc} {cells slots : Nat} {Q : State → Prop}
variable {cc : ByteArray} {pc nL : Nat} {ls : Array Slot} {rest : List Value} {G : va_G} {tys : List (ClassId × FieldType)} {ws : va_W} {a : Nat}
theorem aaO (hexec : p.tables.exec = Jvm.exec) (hb : c.code = cc) (hK : va_K G vwCl tys s) (hP : va_P G vwCl ws H) (q0 t0 : Nat) {cA : ClassId} {C : String} {n v : Nat} {f : Nat → Option Nat} (ha : ws[q0]? = some (a, .inl (cA, n, .inr (.inr (.inr (.inr f)))))) (ht : tys[t0]? = some (cA, .object C)) {i ki : Int32} (hi : i = ki) (hin : ¬ (ki < 0 ∨ n ≤ ki.toNatClampNeg)) (hf : f ki.toNatClampNeg = some v) (hdg : decode cc pc = .ok (.aaload, 1))
    (kk : W p l e R s m args below meth c H locs cells slots Q (F0 m (pc + 1) ls (.ref v :: rest))) : W p l e R s m args below meth c H locs cells slots Q (F0 m pc ls (.int i :: .ref a :: rest)) := by
  subst hi
  refine va_aldq hexec hb hK hP q0 t0 ha ht hin hdg ?_
  rw [hf]
  exact kk
end GO5
def vw_Sv : Array Value → State → Outcome → State → Prop := fun _ st o t => o = .returned none ∧ t.heap = st.heap
section GO9
variable {p : Program} {l : Launch} {e : Env} {R : Room} {s : State} {m : MethodId} {args : Array Value} {below : List Frame} {meth : Method} {c : Code} {H : Heap} {locs : List Loc} {cells slots : Nat} {Q : State → Prop}
variable {cc : ByteArray} {pc nL : Nat} {ls : Array Slot} {rest : List Value} {own : String}
theorem roV {aa : Array Value} {st0 : List Value} (hr : va_Run p l e R s m args below meth c H locs cells slots 0 0 (F0 m pc ls st0) rest (vw_Sv aa) (fun _ => False))
    (kk : W p l e R s m args below meth c H locs cells slots Q (F0 m (pc + 3) ls rest)) : W p l e R s m args below meth c H locs cells slots Q (F0 m pc ls st0) := by
  intro T hT X
  obtain ⟨v, st₀, t, T', L, h0, X', hL, e1, ⟨hv, hh⟩, st⟩ := va_Run.run hr T hT X
  cases hv
  obtain ⟨t2, a1, b1⟩ := kk T' (by rw [e1, hh, h0]) (Stand.forget X' (fun q h => (hL q h).elim))
  exact ⟨t2, st t2 a1, b1⟩
theorem roL {r : Int64} {aa : Array Value} {st0 : List Value} (hr : va_Run p l e R s m args below meth c H locs cells slots 0 0 (F0 m pc ls st0) rest (vp_Sl (fun r' => r' = r) aa) (fun _ => False))
    (kk : W p l e R s m args below meth c H locs cells slots Q (F0 m (pc + 3) ls (.long r :: rest))) : W p l e R s m args below meth c H locs cells slots Q (F0 m pc ls st0) :=
  vp_callSl (va_Run.run hr) (fun r' h => by rw [h]; exact kk)
theorem retRv (hQ : Q = MQ below vw_Sv args s 0 0 (fun _ => False)) (S : CallFix p m c cc nL s args bw own) (hr : meth.sig.returnType = none) (hlocks : meth.locks = false) (hdg : decode cc pc = .ok (.return_, 1)) : W p l e R s m args below meth c s.heap [] 0 0 Q (F0 m pc ls []) := by
  rw [hQ]
  exact W.vret S.1 S.2.1 hr (fun t ht _ => ⟨rfl, ht⟩) (fun _ hq => nomatch hq) hdg hlocks
end GO9
