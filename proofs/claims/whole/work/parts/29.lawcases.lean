section GO8
variable {p : Program} {l : Launch} {e : Env} {R : Room} {s : State} {m : MethodId} {args : Array Value} {below : List Frame} {meth : Method} {c : Code} {H : Heap} {locs : List Loc} {cells slots mc ms : Nat} {Q : State → Prop}
variable {cc : ByteArray} {pc nL : Nat} {ls : Array Slot} {rest : List Value} {G : va_G} {tys : List (ClassId × FieldType)} {ws : va_W} {A : Nat → Prop} {H0 : Heap} {a : Nat} {own : String} {α : Type} {w : α → va_W}
theorem mkI {z : Int32 × α} {ws wc : va_W} {aa : Array Value} {st0 : List Value} (hr : va_Run p l e R s m args below meth c H locs cells slots mc ms (F0 m pc ls st0) rest (va_Qi (fun r u => (r, u) = z) (PoM G tys (va_A wc H.size) w) (va_A wc H.size) aa) (va_A wc H.size)) (hS : va_S A H0 H locs) (hP : va_P G vwCl ws H) (hD : va_D A ws) (hA : ∀ q, H0.size ≤ q → A q)
    (isC isR : List Nat) (hC : isC.map (fun i => ws[i]?) = wc.map some) (hR : isR.map (fun i => ws[i]?) = (isR.filterMap (fun i => ws[i]?)).map some) (hn : va_nd isR = true) (hdis : ∀ i ∈ isR, i ∉ isC) (perm : List Nat) (hpn : va_nd perm = true) (ws1 : va_W) (hpm : perm.map (fun i => (isR.filterMap (fun i => ws[i]?) ++ w z.2)[i]?) = ws1.map some)
    (kk : ∀ (H1 : Heap) (locs1 : List Loc), va_P G vwCl ws1 H1 → va_D A ws1 → va_S A H0 H1 locs1 → W p l e R s m args below meth c H1 locs1 (cells + mc) (slots + ms) Q (F0 m (pc + 3) ls (.int z.1 :: rest))) : W p l e R s m args below meth c H locs cells slots Q (F0 m pc ls st0) := by
  have hF := va_free (wc := wc) hD hS hA isC hC
  refine va_calli hr hS (fun q _ h => hF q h) hF (fun r u t H1 locs1 ht hvm hw hB hz hk hS => ?_)
  subst hw
  obtain ⟨hP1, _, _, hD1⟩ := hB
  rw [ht] at hP1
  obtain ⟨hP2, hD2⟩ := va_join hP hD isC isR hC hR hn hdis hk hF hP1 hD1
  exact kk H1 locs1 (hP2.sub perm (fm_of hpm)) (hD2.sub perm hpn hpm) hS
theorem mkL {z : Int64 × α} {ws wc : va_W} {aa : Array Value} {st0 : List Value} (hr : va_Run p l e R s m args below meth c H locs cells slots mc ms (F0 m pc ls st0) rest (va_Ql (fun r u => (r, u) = z) (PoM G tys (va_A wc H.size) w) (va_A wc H.size) aa) (va_A wc H.size)) (hS : va_S A H0 H locs) (hP : va_P G vwCl ws H) (hD : va_D A ws) (hA : ∀ q, H0.size ≤ q → A q)
    (isC isR : List Nat) (hC : isC.map (fun i => ws[i]?) = wc.map some) (hR : isR.map (fun i => ws[i]?) = (isR.filterMap (fun i => ws[i]?)).map some) (hn : va_nd isR = true) (hdis : ∀ i ∈ isR, i ∉ isC) (perm : List Nat) (hpn : va_nd perm = true) (ws1 : va_W) (hpm : perm.map (fun i => (isR.filterMap (fun i => ws[i]?) ++ w z.2)[i]?) = ws1.map some)
    (kk : ∀ (H1 : Heap) (locs1 : List Loc), va_P G vwCl ws1 H1 → va_D A ws1 → va_S A H0 H1 locs1 → W p l e R s m args below meth c H1 locs1 (cells + mc) (slots + ms) Q (F0 m (pc + 3) ls (.long z.1 :: rest))) : W p l e R s m args below meth c H locs cells slots Q (F0 m pc ls st0) := by
  have hF := va_free (wc := wc) hD hS hA isC hC
  refine va_calll hr hS (fun q _ h => hF q h) hF (fun r u t H1 locs1 ht hvm hw hB hz hk hS => ?_)
  subst hw
  obtain ⟨hP1, _, _, hD1⟩ := hB
  rw [ht] at hP1
  obtain ⟨hP2, hD2⟩ := va_join hP hD isC isR hC hR hn hdis hk hF hP1 hD1
  exact kk H1 locs1 (hP2.sub perm (fm_of hpm)) (hD2.sub perm hpn hpm) hS
theorem mkD {z : UInt64 × α} {ws wc : va_W} {aa : Array Value} {st0 : List Value} (hr : va_Run p l e R s m args below meth c H locs cells slots mc ms (F0 m pc ls st0) rest (va_Qd (fun r u => (r, u) = z) (PoM G tys (va_A wc H.size) w) (va_A wc H.size) aa) (va_A wc H.size)) (hS : va_S A H0 H locs) (hP : va_P G vwCl ws H) (hD : va_D A ws) (hA : ∀ q, H0.size ≤ q → A q)
    (isC isR : List Nat) (hC : isC.map (fun i => ws[i]?) = wc.map some) (hR : isR.map (fun i => ws[i]?) = (isR.filterMap (fun i => ws[i]?)).map some) (hn : va_nd isR = true) (hdis : ∀ i ∈ isR, i ∉ isC) (perm : List Nat) (hpn : va_nd perm = true) (ws1 : va_W) (hpm : perm.map (fun i => (isR.filterMap (fun i => ws[i]?) ++ w z.2)[i]?) = ws1.map some)
    (kk : ∀ (H1 : Heap) (locs1 : List Loc), va_P G vwCl ws1 H1 → va_D A ws1 → va_S A H0 H1 locs1 → W p l e R s m args below meth c H1 locs1 (cells + mc) (slots + ms) Q (F0 m (pc + 3) ls (.double z.1 :: rest))) : W p l e R s m args below meth c H locs cells slots Q (F0 m pc ls st0) := by
  have hF := va_free (wc := wc) hD hS hA isC hC
  refine va_calld hr hS (fun q _ h => hF q h) hF (fun r u t H1 locs1 ht hvm hw hB hz hk hS => ?_)
  subst hw
  obtain ⟨hP1, _, _, hD1⟩ := hB
  rw [ht] at hP1
  obtain ⟨hP2, hD2⟩ := va_join hP hD isC isR hC hR hn hdis hk hF hP1 hD1
  exact kk H1 locs1 (hP2.sub perm (fm_of hpm)) (hD2.sub perm hpn hpm) hS
theorem mkV {z : α} {ws wc : va_W} {aa : Array Value} {st0 : List Value} (hr : va_Run p l e R s m args below meth c H locs cells slots mc ms (F0 m pc ls st0) rest (va_Qv (fun u => u = z) (PoM G tys (va_A wc H.size) w) (va_A wc H.size) aa) (va_A wc H.size)) (hS : va_S A H0 H locs) (hP : va_P G vwCl ws H) (hD : va_D A ws) (hA : ∀ q, H0.size ≤ q → A q)
    (isC isR : List Nat) (hC : isC.map (fun i => ws[i]?) = wc.map some) (hR : isR.map (fun i => ws[i]?) = (isR.filterMap (fun i => ws[i]?)).map some) (hn : va_nd isR = true) (hdis : ∀ i ∈ isR, i ∉ isC) (perm : List Nat) (hpn : va_nd perm = true) (ws1 : va_W) (hpm : perm.map (fun i => (isR.filterMap (fun i => ws[i]?) ++ w z)[i]?) = ws1.map some)
    (kk : ∀ (H1 : Heap) (locs1 : List Loc), va_P G vwCl ws1 H1 → va_D A ws1 → va_S A H0 H1 locs1 → W p l e R s m args below meth c H1 locs1 (cells + mc) (slots + ms) Q (F0 m (pc + 3) ls (rest))) : W p l e R s m args below meth c H locs cells slots Q (F0 m pc ls st0) := by
  have hF := va_free (wc := wc) hD hS hA isC hC
  refine va_callv hr hS (fun q _ h => hF q h) hF (fun u t H1 locs1 ht hvm hw hB hz hk hS => ?_)
  subst hw
  obtain ⟨hP1, _, _, hD1⟩ := hB
  rw [ht] at hP1
  obtain ⟨hP2, hD2⟩ := va_join hP hD isC isR hC hR hn hdis hk hF hP1 hD1
  exact kk H1 locs1 (hP2.sub perm (fm_of hpm)) (hD2.sub perm hpn hpm) hS
theorem roL {r : Int64} {aa : Array Value} {st0 : List Value} (hr : va_Run p l e R s m args below meth c H locs cells slots 0 0 (F0 m pc ls st0) rest (vp_Sl (fun r' => r' = r) aa) (fun _ => False))
    (kk : W p l e R s m args below meth c H locs cells slots Q (F0 m (pc + 3) ls (.long r :: rest))) : W p l e R s m args below meth c H locs cells slots Q (F0 m pc ls st0) :=
  vp_callSl (va_Run.run hr) (fun r' h => by rw [h]; exact kk)
theorem sldO (hexec : p.tables.exec = Jvm.exec) (hb : c.code = cc) {b L : Nat} {xs : Nat → Int32} (hX : va_X b L xs s H0) (hbl : b < H0.size) (hbA : ¬ A b) (hS : va_S A H0 H locs) {i v : Int32} (hin : vp_in i L) (hv : xs i.toNatClampNeg = v) (hdg : decode cc pc = .ok (.iaload, 1))
    (kk : W p l e R s m args below meth c H locs cells slots Q (F0 m (pc + 1) ls (.int v :: rest))) : W p l e R s m args below meth c H locs cells slots Q (F0 m pc ls (.int i :: .ref b :: rest)) := by
  subst hv
  exact va_sld hexec hb hX hbl hbA hS hin hdg kk
end GO8
def LawC (p : Program) (l : Launch) (s : State) (m : MethodId) (args : Array Value) (c : Code) (b L : Nat) (xs : Nat → Int32) (G : va_G) (cI cS cL : ClassId) (A : Nat → Prop) (B0 : Nat) : Prop :=
  l.stackTraces = false ∧ CallFix p m c code 9 s args bwL RL ∧ va_K G vwCl (tysL cI cS cL) s ∧ NW s ∧ NC s ∧ (∀ q, s.heap.size ≤ q → A q) ∧ (∀ q, A q → B0 ≤ q) ∧ B0 ≤ s.heap.size ∧ XT B0 s s.heap ∧ va_X b L xs s s.heap ∧ b < s.heap.size ∧ ¬ A b
theorem cc_L_76 {p : Program} {l : Launch} {e : Env} {R : Room} {s : State} {m : MethodId} {args : Array Value} {below : List Frame} {meth : Method} {c : Code} {H : Heap} {locs : List Loc} {cells slots : Nat} {cc : ByteArray} {pc nL : Nat} {ls : Array Slot} {rest : List Value} {G : va_G} {A : Nat → Prop} {B0 : Nat} (sv : Nat) (gx : Nat → Nat) (og : Nat) {cI cS cL : ClassId} {u : THS × OutR} {p0 : Int32} {r : Int32 × (THS × OutR)} (hst : l.stackTraces = false) (S : CallFix p m c cc nL s args bwL RL) (hK : va_K G vwCl (tysL cI cS cL) s) (hN : NW s) (hC : NC s) (hP : va_P G vwCl (wO cI cS cL sv gx og u) H) (hD : va_D A (wO cI cS cL sv gx og u)) (hS : va_S A s.heap H locs) (hAB : ∀ q, A q → B0 ≤ q) (hB : B0 ≤ s.heap.size) (hX : XT B0 s s.heap) (hf : fL_append u p0 = some r) (hsz : ls.size = nL) (hsk : (rest.map fun v => v.category).sum ≤ 8) (hR : rmL_append.frames + 1 ≤ R.frames ∧ 8 + (4 + 11) + rmL_append.locals ≤ R.locals) (hdg : decode cc pc = .ok (.invokestatic 76, 3)) (hcs : cells + 1 ≤ R.cells ∧ slots + 6 ≤ R.slots) : va_Run p l e R s m args below meth c H locs cells slots 1 6 (F0 m pc ls (.ref og :: .int p0 :: .ref (gx 0) :: rest)) rest (va_Qi (fun r' u' => (r', u') = r) (PoM G (tysL cI cS cL) (va_A (wO cI cS cL sv gx og u) H.size) (wO cI cS cL sv gx og)) (va_A (wO cI cS cL sv gx og u) H.size) (#[.ref (gx 0), .int p0, .ref og] : Array Value)) (va_A (wO cI cS cL sv gx og u) H.size) :=
  vx_runSW (As := [.ref (gx 0), .int p0, .ref og]) (rest := rest) S (kL_append l hst G cI cS cL sv gx og H.size B0 u p0 r hf) (vx_cwSW 3 S.2.2.2.2 (gdWL ql_84 ql_85 ql_86 ql_0) rfl rfl rfl (by decide +kernel) hR) (psL hK hN hC hP hD hS hAB hB hX) rfl rfl hsz rfl (lv_room hsk) hdg hcs
theorem cc_L_81 {p : Program} {l : Launch} {e : Env} {R : Room} {s : State} {m : MethodId} {args : Array Value} {below : List Frame} {meth : Method} {c : Code} {H : Heap} {locs : List Loc} {cells slots : Nat} {cc : ByteArray} {pc nL : Nat} {ls : Array Slot} {rest : List Value} {G : va_G} {A : Nat → Prop} (ga : Nat → Nat) {cI cS : ClassId} {u : TM}  {p0 : Int32} {r : Int32 × TM} (S : CallFix p m c cc nL s args bwL RL) (hK : va_K G vwCl (tysW cI cS) s) (hN : NW s) (hP : va_P G vwCl (wM cI ga u) H) (hD : va_D A (wM cI ga u)) (hf : fX5_append u p0 = some r) (hsz : ls.size = nL) (hst : (rest.map fun v => v.category).sum ≤ 8) (hR : rmX5_append.frames + 1 ≤ R.frames ∧ 8 + (2 + 11) + rmX5_append.locals ≤ R.locals) (hdg : decode cc pc = .ok (.invokevirtual 81, 3)) (hcs : cells + 0 ≤ R.cells ∧ slots + 0 ≤ R.slots) : va_Run p l e R s m args below meth c H locs cells slots 0 0 (F0 m pc ls (.int p0 :: .ref (ga 0) :: rest)) rest (va_Qi (fun r' u' => (r', u') = r) (PoM G (tysW cI cS) (va_A (wM cI ga u) H.size) (wM cI ga)) (va_A (wM cI ga u) H.size) (#[.ref (ga 0), .int p0] : Array Value)) (va_A (wM cI ga u) H.size) :=
  va_runV (As := [.int p0]) (rest := rest) S (kX5_append l G cI cS ga H.size u p0 r hf) (cwV 1 S.2.2.2.2 (gdVL ql_87 ql_88 ql_89 (bwL_of q_392) (bwL_of q_530)) rfl rfl rfl (by decide +kernel) hR) (pvM (q := (RX5, TX5, 12)) hK hN hP hD (ci := 5) (q0 := 0) rfl rfl) rfl rfl hsz rfl (lv_room hst) hdg hcs
theorem cc_L_82 {p : Program} {l : Launch} {e : Env} {R : Room} {s : State} {m : MethodId} {args : Array Value} {below : List Frame} {meth : Method} {c : Code} {H : Heap} {locs : List Loc} {cells slots : Nat} {cc : ByteArray} {pc nL : Nat} {ls : Array Slot} {rest : List Value} {G : va_G} (ga : Nat → Nat) {cI cS : ClassId} {u : TM}  {r : Int32} (S : CallFix p m c cc nL s args bwL RL) (hK : va_K G vwCl (tysW cI cS) s) (hN : NW s) (hP : va_P G vwCl (wM cI ga u) H) (hf : fX5_thrown u = some r) (hsz : ls.size = nL) (hst : (rest.map fun v => v.category).sum ≤ 8) (hR : rmX5_thrown.frames + 1 ≤ R.frames ∧ 8 + (1 + 11) + rmX5_thrown.locals ≤ R.locals) (hdg : decode cc pc = .ok (.invokevirtual 82, 3)) (hcs : cells + 0 ≤ R.cells ∧ slots + 0 ≤ R.slots) : va_Run p l e R s m args below meth c H locs cells slots 0 0 (F0 m pc ls (.ref (ga 0) :: rest)) rest (vp_Si (fun r' => r' = r) (#[.ref (ga 0)] : Array Value)) (fun _ => False) :=
  va_runV (As := []) (rest := rest) S (kX5_thrown l G cI cS ga u r hf) (cwV 0 S.2.2.2.2 (gdVL ql_90 ql_91 ql_92 (bwL_of q_392) (bwL_of q_382)) rfl rfl rfl (by decide +kernel) hR) (pvR (q := (RX5, TX5, 12)) hK hN hP (ci := 5) (q0 := 0) rfl rfl) rfl rfl hsz rfl (lv_room hst) hdg hcs

def fLc_0 (u : THS × TM × OutR) (a1 a2 : Int32) : Option (THS × TM × OutR) := ((fL_append (u.1, u.2.2) a1).bind fun z1 => ((fX5_append u.2.1 a1).bind fun z2 => ((fX5_thrown z2.2).bind fun z3 => (if z3 = z1.1 then (if z1.1 = 0 then (if (lg_cmp (z1.2.2 (0 : Int32).toNatClampNeg) z2.1.toInt64) = 0 then some (z1.2.1, z2.2, z1.2.2) else none) else some (z1.2.1, z2.2, z1.2.2)) else none))))
set_option maxRecDepth 100000 in
set_option maxHeartbeats 4000000 in
theorem kLc_0 {p : Program} {l : Launch} {e : Env} {s : State} {m : MethodId} {args : Array Value} {below : List Frame} {meth : Method} {c : Code} {Q : State → Prop} {b L : Nat} {xs : Nat → Int32} {G : va_G} {cI cS cL : ClassId} {A : Nat → Prop} {B0 : Nat} (C0 : LawC p l s m args c b L xs G cI cS cL A B0) (sv : Nat) (gx gm : Nat → Nat) (og : Nat) (u : THS × TM × OutR) (x4 a1 a2 : Int32) (u' : THS × TM × OutR) (hf : fLc_0 u a1 a2 = some u') (hin1 : vp_in (x4 + (1 : Int32)) L) (hin2 : vp_in (x4 + (2 : Int32)) L) (hs1 : xs (x4 + (1 : Int32)).toNatClampNeg = a1) (hs2 : xs (x4 + (2 : Int32)).toNatClampNeg = a2) (cells slots : Nat) (hc9 : cells + 2 ≤ 601024) (hs9 : slots + 12 ≤ 7293034)
    (K : ∀ (v : THS × TM × OutR), v = u' → ∀ (H : Heap) (locs : List Loc) (ls : Array Slot) (cells' slots' : Nat), cells' ≤ cells + 2 → slots' ≤ slots + 12 → va_P G vwCl (wW cI cS cL sv gx gm og v) H → va_D A (wW cI cS cL sv gx gm og v) → va_S A s.heap H locs → lv_has ls 9 [(0, .ref b), (1, .ref (gx 0)), (2, .ref (gm 0)), (3, .ref og), (4, .int x4)] → W p l e room_1 s m args below meth c H locs cells' slots' Q (F0 m 1493 ls []))
    (H : Heap) (locs : List Loc) (ls : Array Slot) (hP : va_P G vwCl (wW cI cS cL sv gx gm og u) H) (hD : va_D A (wW cI cS cL sv gx gm og u)) (hS : va_S A s.heap H locs) (hl : lv_has ls 9 [(0, .ref b), (1, .ref (gx 0)), (2, .ref (gm 0)), (3, .ref og), (4, .int x4)]) : W p l e room_1 s m args below meth c H locs cells slots Q (F0 m 188 ls []) := by
  obtain ⟨hst, S, hK, hN, hC, hA, hAB, hB, hX, hX0, hbl, hbA⟩ := C0
  have hx := S.1; have hb := S.2.1; have hml := S.2.2.1; have hown := S.2.2.2.1; have hq := S.2.2.2.2
  have h := hf
  unfold fLc_0 at h
  refine lv_aload_n hx hb dL_law_188 rfl (lv_at hl 1 rfl) ?_
  refine lv_aload_n hx hb dL_law_189 rfl (lv_at hl 0 rfl) ?_
  refine lv_iload hx hb dL_law_190 (lv_at hl 4 rfl) ?_
  refine lv_iconst (v := 1) hx hb dL_law_192 (by decide) ?_
  refine lv_iadd hx hb dL_law_193 ?_
  refine sldO hx hb hX0 hbl hbA hS hin1 hs1 dL_law_194 ?_
  refine lv_aload_n hx hb dL_law_195 rfl (lv_at hl 3 rfl) ?_
  obtain ⟨z1, e_z1, h⟩ := bnd h
  refine mkI (cc_L_76 sv gx og hst S hK hN hC (hP.sub [0, 1, 2, 3, 4, 5, 6, 7, 8, 9, 10, 11, 12, 13, 14, 15, 16, 17, 18, 19, 20, 21, 22, 23, 24, 25, 31] rfl) (hD.sub [0, 1, 2, 3, 4, 5, 6, 7, 8, 9, 10, 11, 12, 13, 14, 15, 16, 17, 18, 19, 20, 21, 22, 23, 24, 25, 31] (by decide) rfl) hS hAB hB hX e_z1 hl.1 (Nat.le_of_ble_eq_true rfl) ⟨(Nat.le_of_ble_eq_true rfl), (Nat.le_of_ble_eq_true rfl)⟩ dL_law_196 ⟨by show _ ≤ 601024; omega, by show _ ≤ 7293034; omega⟩) hS hP hD hA [0, 1, 2, 3, 4, 5, 6, 7, 8, 9, 10, 11, 12, 13, 14, 15, 16, 17, 18, 19, 20, 21, 22, 23, 24, 25, 31] [26, 27, 28, 29, 30] rfl rfl (by decide) (by decide) [5, 6, 7, 8, 9, 10, 11, 12, 13, 14, 15, 16, 17, 18, 19, 20, 21, 22, 23, 24, 25, 26, 27, 28, 29, 30, 0, 1, 2, 3, 4, 31] (by decide) (wW cI cS cL sv gx gm og (z1.2.1, u.2.1, z1.2.2)) rfl (fun H locs hP hD hS => ?_)
  refine lv_istore (lv' := [(5, .int z1.1), (0, .ref b), (1, .ref (gx 0)), (2, .ref (gm 0)), (3, .ref og), (4, .int x4)]) hx hb dL_law_199 hl (by decide) rfl (fun ls hl => ?_)
  refine lv_aload_n hx hb dL_law_201 rfl (lv_at hl 3 rfl) ?_
  refine lv_aload_n hx hb dL_law_202 rfl (lv_at hl 1 rfl) ?_
  refine lv_iload hx hb dL_law_203 (lv_at hl 5 rfl) ?_
  refine lv_iconst (v := 1) hx hb dL_law_205 (by decide) ?_
  refine lv_iadd hx hb dL_law_206 ?_
  refine sldO hx hb hX0 hbl hbA hS hin1 hs1 dL_law_207 ?_
  obtain ⟨z2, e_z2, h⟩ := bnd h
  refine mkI (cc_L_81 gm S (hK.sub [0, 1] rfl) hN (hP.sub [26, 27, 28, 29, 30] rfl) (hD.sub [26, 27, 28, 29, 30] (by decide) rfl) e_z2 hl.1 (Nat.le_of_ble_eq_true rfl) ⟨(Nat.le_of_ble_eq_true rfl), (Nat.le_of_ble_eq_true rfl)⟩ dL_law_208 ⟨by show _ ≤ 601024; omega, by show _ ≤ 7293034; omega⟩) hS hP hD hA [26, 27, 28, 29, 30] [0, 1, 2, 3, 4, 5, 6, 7, 8, 9, 10, 11, 12, 13, 14, 15, 16, 17, 18, 19, 20, 21, 22, 23, 24, 25, 31] rfl rfl (by decide) (by decide) [0, 1, 2, 3, 4, 5, 6, 7, 8, 9, 10, 11, 12, 13, 14, 15, 16, 17, 18, 19, 20, 21, 22, 23, 24, 25, 27, 28, 29, 30, 31, 26] (by decide) (wW cI cS cL sv gx gm og (z1.2.1, z2.2, z1.2.2)) rfl (fun H locs hP hD hS => ?_)
  refine lv_istore (lv' := [(6, .int z2.1), (5, .int z1.1), (0, .ref b), (1, .ref (gx 0)), (2, .ref (gm 0)), (3, .ref og), (4, .int x4)]) hx hb dL_law_211 hl (by decide) rfl (fun ls hl => ?_)
  refine lv_aload_n hx hb dL_law_213 rfl (lv_at hl 4 rfl) ?_
  obtain ⟨z3, e_z3, h⟩ := bnd h
  refine roI (cc_L_82 gm S (hK.sub [0, 1] rfl) hN (hP.sub [26, 27, 28, 29, 30] rfl) e_z3 hl.1 (Nat.le_of_ble_eq_true rfl) ⟨(Nat.le_of_ble_eq_true rfl), (Nat.le_of_ble_eq_true rfl)⟩ dL_law_214 ⟨by show _ ≤ 601024; omega, by show _ ≤ 7293034; omega⟩) ?_
  refine lv_iload hx hb dL_law_217 (lv_at hl 1 rfl) ?_
  refine lv_icmp_eq (tgt := 224) hx hb dL_law_219 (by decide) (fun c4 => ?_) (fun c4 => ?_)
  · have h := (if_pos c4).symm.trans h
    refine lv_iload hx hb dL_law_224 (lv_at hl 1 rfl) ?_
    refine lv_if_ne (tgt := 241) hx hb dL_law_226 (by decide) (fun c5 => ?_) (fun c5 => ?_)
    · have h := (if_neg c5).symm.trans h
      refine lv_goto (tgt := 1493) hx hb dL_law_241 (by decide) ?_
      exact K _ (Option.some.inj h) _ _ _ _ _ (by omega) (by omega) hP hD hS (lv_sub hl [2, 3, 4, 5, 6] rfl)
    · have h := (if_pos c5).symm.trans h
      refine lv_aload_n hx hb dL_law_229 rfl (lv_at hl 5 rfl) ?_
      refine lv_iconst (v := 0) hx hb dL_law_230 (by decide) ?_
      refine va_lald (f := z1.2.2) hx hb hK hP 31 2 rfl rfl (vp_in_of_not (i := 0) (n := 1) (by decide)) dL_law_231 ?_
      refine lv_iload hx hb dL_law_232 (lv_at hl 0 rfl) ?_
      refine lv_i2l hx hb dL_law_234 rfl ?_
      refine W.lcmp hx hb dL_law_235 ?_
      refine lv_if_eq (tgt := 241) hx hb dL_law_236 (by decide) (fun c6 => ?_) (fun c6 => ?_)
      · have h := (if_pos c6).symm.trans h
        refine lv_goto (tgt := 1493) hx hb dL_law_241 (by decide) ?_
        exact K _ (Option.some.inj h) _ _ _ _ _ (by omega) (by omega) hP hD hS (lv_sub hl [2, 3, 4, 5, 6] rfl)
      · have h := (if_neg c6).symm.trans h
        refine lv_iconst (v := 0) hx hb dL_law_239 (by decide) ?_
        cases h
  · have h := (if_neg c4).symm.trans h
    refine lv_iconst (v := 0) hx hb dL_law_222 (by decide) ?_
    cases h
theorem cc_L_85 {p : Program} {l : Launch} {e : Env} {R : Room} {s : State} {m : MethodId} {args : Array Value} {below : List Frame} {meth : Method} {c : Code} {H : Heap} {locs : List Loc} {cells slots : Nat} {cc : ByteArray} {pc nL : Nat} {ls : Array Slot} {rest : List Value} {G : va_G} {A : Nat → Prop} {B0 : Nat} (sv : Nat) (gx : Nat → Nat) (og : Nat) {cI cS cL : ClassId} {u : THS × OutR} {p0 : Int32} {p1 : Int32} {r : Int32 × (THS × OutR)} (hst : l.stackTraces = false) (S : CallFix p m c cc nL s args bwL RL) (hK : va_K G vwCl (tysL cI cS cL) s) (hN : NW s) (hC : NC s) (hP : va_P G vwCl (wO cI cS cL sv gx og u) H) (hD : va_D A (wO cI cS cL sv gx og u)) (hS : va_S A s.heap H locs) (hAB : ∀ q, A q → B0 ≤ q) (hB : B0 ≤ s.heap.size) (hX : XT B0 s s.heap) (hf : fL_fill u p0 p1 = some r) (hsz : ls.size = nL) (hsk : (rest.map fun v => v.category).sum ≤ 8) (hR : rmL_fill.frames + 1 ≤ R.frames ∧ 8 + (5 + 11) + rmL_fill.locals ≤ R.locals) (hdg : decode cc pc = .ok (.invokestatic 85, 3)) (hcs : cells + 1 ≤ R.cells ∧ slots + 6 ≤ R.slots) : va_Run p l e R s m args below meth c H locs cells slots 1 6 (F0 m pc ls (.ref og :: .int p1 :: .int p0 :: .ref (gx 0) :: rest)) rest (va_Qi (fun r' u' => (r', u') = r) (PoM G (tysL cI cS cL) (va_A (wO cI cS cL sv gx og u) H.size) (wO cI cS cL sv gx og)) (va_A (wO cI cS cL sv gx og u) H.size) (#[.ref (gx 0), .int p0, .int p1, .ref og] : Array Value)) (va_A (wO cI cS cL sv gx og u) H.size) :=
  vx_runSW (As := [.ref (gx 0), .int p0, .int p1, .ref og]) (rest := rest) S (kL_fill l hst G cI cS cL sv gx og H.size B0 u p0 p1 r hf) (vx_cwSW 4 S.2.2.2.2 (gdWL ql_93 ql_94 ql_86 ql_6) rfl rfl rfl (by decide +kernel) hR) (psL hK hN hC hP hD hS hAB hB hX) rfl rfl hsz rfl (lv_room hsk) hdg hcs
theorem cc_L_88 {p : Program} {l : Launch} {e : Env} {R : Room} {s : State} {m : MethodId} {args : Array Value} {below : List Frame} {meth : Method} {c : Code} {H : Heap} {locs : List Loc} {cells slots : Nat} {cc : ByteArray} {pc nL : Nat} {ls : Array Slot} {rest : List Value} {G : va_G} {A : Nat → Prop} (ga : Nat → Nat) {cI cS : ClassId} {u : TM}  {p0 : Int32} {p1 : Int32} {r : Int32 × TM} (S : CallFix p m c cc nL s args bwL RL) (hK : va_K G vwCl (tysW cI cS) s) (hN : NW s) (hP : va_P G vwCl (wM cI ga u) H) (hD : va_D A (wM cI ga u)) (hf : fX5_fill u p0 p1 = some r) (hsz : ls.size = nL) (hst : (rest.map fun v => v.category).sum ≤ 8) (hR : rmX5_fill.frames + 1 ≤ R.frames ∧ 8 + (4 + 11) + rmX5_fill.locals ≤ R.locals) (hdg : decode cc pc = .ok (.invokevirtual 88, 3)) (hcs : cells + 0 ≤ R.cells ∧ slots + 0 ≤ R.slots) : va_Run p l e R s m args below meth c H locs cells slots 0 0 (F0 m pc ls (.int p1 :: .int p0 :: .ref (ga 0) :: rest)) rest (va_Qi (fun r' u' => (r', u') = r) (PoM G (tysW cI cS) (va_A (wM cI ga u) H.size) (wM cI ga)) (va_A (wM cI ga u) H.size) (#[.ref (ga 0), .int p0, .int p1] : Array Value)) (va_A (wM cI ga u) H.size) :=
  va_runV (As := [.int p0, .int p1]) (rest := rest) S (kX5_fill l G cI cS ga H.size u p0 p1 r hf) (cwV 2 S.2.2.2.2 (gdVL ql_95 ql_96 ql_97 (bwL_of q_392) (bwL_of q_535)) rfl rfl rfl (by decide +kernel) hR) (pvM (q := (RX5, TX5, 12)) hK hN hP hD (ci := 5) (q0 := 0) rfl rfl) rfl rfl hsz rfl (lv_room hst) hdg hcs

def fLc_1 (u : THS × TM × OutR) (a1 a2 : Int32) : Option (THS × TM × OutR) := ((fL_fill (u.1, u.2.2) a1 a2).bind fun z7 => ((fX5_fill u.2.1 a1 a2).bind fun z8 => ((fX5_thrown z8.2).bind fun z9 => (if z9 = z7.1 then (if z7.1 = 0 then (if (lg_cmp (z7.2.2 (0 : Int32).toNatClampNeg) z8.1.toInt64) = 0 then some (z7.2.1, z8.2, z7.2.2) else none) else some (z7.2.1, z8.2, z7.2.2)) else none))))
set_option maxRecDepth 100000 in
set_option maxHeartbeats 4000000 in
theorem kLc_1 {p : Program} {l : Launch} {e : Env} {s : State} {m : MethodId} {args : Array Value} {below : List Frame} {meth : Method} {c : Code} {Q : State → Prop} {b L : Nat} {xs : Nat → Int32} {G : va_G} {cI cS cL : ClassId} {A : Nat → Prop} {B0 : Nat} (C0 : LawC p l s m args c b L xs G cI cS cL A B0) (sv : Nat) (gx gm : Nat → Nat) (og : Nat) (u : THS × TM × OutR) (x4 a1 a2 : Int32) (u' : THS × TM × OutR) (hf : fLc_1 u a1 a2 = some u') (hin1 : vp_in (x4 + (1 : Int32)) L) (hin2 : vp_in (x4 + (2 : Int32)) L) (hs1 : xs (x4 + (1 : Int32)).toNatClampNeg = a1) (hs2 : xs (x4 + (2 : Int32)).toNatClampNeg = a2) (cells slots : Nat) (hc9 : cells + 2 ≤ 601024) (hs9 : slots + 12 ≤ 7293034)
    (K : ∀ (v : THS × TM × OutR), v = u' → ∀ (H : Heap) (locs : List Loc) (ls : Array Slot) (cells' slots' : Nat), cells' ≤ cells + 2 → slots' ≤ slots + 12 → va_P G vwCl (wW cI cS cL sv gx gm og v) H → va_D A (wW cI cS cL sv gx gm og v) → va_S A s.heap H locs → lv_has ls 9 [(0, .ref b), (1, .ref (gx 0)), (2, .ref (gm 0)), (3, .ref og), (4, .int x4)] → W p l e room_1 s m args below meth c H locs cells' slots' Q (F0 m 1493 ls []))
    (H : Heap) (locs : List Loc) (ls : Array Slot) (hP : va_P G vwCl (wW cI cS cL sv gx gm og u) H) (hD : va_D A (wW cI cS cL sv gx gm og u)) (hS : va_S A s.heap H locs) (hl : lv_has ls 9 [(0, .ref b), (1, .ref (gx 0)), (2, .ref (gm 0)), (3, .ref og), (4, .int x4)]) : W p l e room_1 s m args below meth c H locs cells slots Q (F0 m 244 ls []) := by
  obtain ⟨hst, S, hK, hN, hC, hA, hAB, hB, hX, hX0, hbl, hbA⟩ := C0
  have hx := S.1; have hb := S.2.1; have hml := S.2.2.1; have hown := S.2.2.2.1; have hq := S.2.2.2.2
  have h := hf
  unfold fLc_1 at h
  refine lv_aload_n hx hb dL_law_244 rfl (lv_at hl 1 rfl) ?_
  refine lv_aload_n hx hb dL_law_245 rfl (lv_at hl 0 rfl) ?_
  refine lv_iload hx hb dL_law_246 (lv_at hl 4 rfl) ?_
  refine lv_iconst (v := 1) hx hb dL_law_248 (by decide) ?_
  refine lv_iadd hx hb dL_law_249 ?_
  refine sldO hx hb hX0 hbl hbA hS hin1 hs1 dL_law_250 ?_
  refine lv_aload_n hx hb dL_law_251 rfl (lv_at hl 0 rfl) ?_
  refine lv_iload hx hb dL_law_252 (lv_at hl 4 rfl) ?_
  refine lv_iconst (v := 2) hx hb dL_law_254 (by decide) ?_
  refine lv_iadd hx hb dL_law_255 ?_
  refine sldO hx hb hX0 hbl hbA hS hin2 hs2 dL_law_256 ?_
  refine lv_aload_n hx hb dL_law_257 rfl (lv_at hl 3 rfl) ?_
  obtain ⟨z7, e_z7, h⟩ := bnd h
  refine mkI (cc_L_85 sv gx og hst S hK hN hC (hP.sub [0, 1, 2, 3, 4, 5, 6, 7, 8, 9, 10, 11, 12, 13, 14, 15, 16, 17, 18, 19, 20, 21, 22, 23, 24, 25, 31] rfl) (hD.sub [0, 1, 2, 3, 4, 5, 6, 7, 8, 9, 10, 11, 12, 13, 14, 15, 16, 17, 18, 19, 20, 21, 22, 23, 24, 25, 31] (by decide) rfl) hS hAB hB hX e_z7 hl.1 (Nat.le_of_ble_eq_true rfl) ⟨(Nat.le_of_ble_eq_true rfl), (Nat.le_of_ble_eq_true rfl)⟩ dL_law_258 ⟨by show _ ≤ 601024; omega, by show _ ≤ 7293034; omega⟩) hS hP hD hA [0, 1, 2, 3, 4, 5, 6, 7, 8, 9, 10, 11, 12, 13, 14, 15, 16, 17, 18, 19, 20, 21, 22, 23, 24, 25, 31] [26, 27, 28, 29, 30] rfl rfl (by decide) (by decide) [5, 6, 7, 8, 9, 10, 11, 12, 13, 14, 15, 16, 17, 18, 19, 20, 21, 22, 23, 24, 25, 26, 27, 28, 29, 30, 0, 1, 2, 3, 4, 31] (by decide) (wW cI cS cL sv gx gm og (z7.2.1, u.2.1, z7.2.2)) rfl (fun H locs hP hD hS => ?_)
  refine lv_istore (lv' := [(5, .int z7.1), (0, .ref b), (1, .ref (gx 0)), (2, .ref (gm 0)), (3, .ref og), (4, .int x4)]) hx hb dL_law_261 hl (by decide) rfl (fun ls hl => ?_)
  refine lv_aload_n hx hb dL_law_263 rfl (lv_at hl 3 rfl) ?_
  refine lv_aload_n hx hb dL_law_264 rfl (lv_at hl 1 rfl) ?_
  refine lv_iload hx hb dL_law_265 (lv_at hl 5 rfl) ?_
  refine lv_iconst (v := 1) hx hb dL_law_267 (by decide) ?_
  refine lv_iadd hx hb dL_law_268 ?_
  refine sldO hx hb hX0 hbl hbA hS hin1 hs1 dL_law_269 ?_
  refine lv_aload_n hx hb dL_law_270 rfl (lv_at hl 1 rfl) ?_
  refine lv_iload hx hb dL_law_271 (lv_at hl 5 rfl) ?_
  refine lv_iconst (v := 2) hx hb dL_law_273 (by decide) ?_
  refine lv_iadd hx hb dL_law_274 ?_
  refine sldO hx hb hX0 hbl hbA hS hin2 hs2 dL_law_275 ?_
  obtain ⟨z8, e_z8, h⟩ := bnd h
  refine mkI (cc_L_88 gm S (hK.sub [0, 1] rfl) hN (hP.sub [26, 27, 28, 29, 30] rfl) (hD.sub [26, 27, 28, 29, 30] (by decide) rfl) e_z8 hl.1 (Nat.le_of_ble_eq_true rfl) ⟨(Nat.le_of_ble_eq_true rfl), (Nat.le_of_ble_eq_true rfl)⟩ dL_law_276 ⟨by show _ ≤ 601024; omega, by show _ ≤ 7293034; omega⟩) hS hP hD hA [26, 27, 28, 29, 30] [0, 1, 2, 3, 4, 5, 6, 7, 8, 9, 10, 11, 12, 13, 14, 15, 16, 17, 18, 19, 20, 21, 22, 23, 24, 25, 31] rfl rfl (by decide) (by decide) [0, 1, 2, 3, 4, 5, 6, 7, 8, 9, 10, 11, 12, 13, 14, 15, 16, 17, 18, 19, 20, 21, 22, 23, 24, 25, 27, 28, 29, 30, 31, 26] (by decide) (wW cI cS cL sv gx gm og (z7.2.1, z8.2, z7.2.2)) rfl (fun H locs hP hD hS => ?_)
  refine lv_istore (lv' := [(6, .int z8.1), (5, .int z7.1), (0, .ref b), (1, .ref (gx 0)), (2, .ref (gm 0)), (3, .ref og), (4, .int x4)]) hx hb dL_law_279 hl (by decide) rfl (fun ls hl => ?_)
  refine lv_aload_n hx hb dL_law_281 rfl (lv_at hl 4 rfl) ?_
  obtain ⟨z9, e_z9, h⟩ := bnd h
  refine roI (cc_L_82 gm S (hK.sub [0, 1] rfl) hN (hP.sub [26, 27, 28, 29, 30] rfl) e_z9 hl.1 (Nat.le_of_ble_eq_true rfl) ⟨(Nat.le_of_ble_eq_true rfl), (Nat.le_of_ble_eq_true rfl)⟩ dL_law_282 ⟨by show _ ≤ 601024; omega, by show _ ≤ 7293034; omega⟩) ?_
  refine lv_iload hx hb dL_law_285 (lv_at hl 1 rfl) ?_
  refine lv_icmp_eq (tgt := 292) hx hb dL_law_287 (by decide) (fun c10 => ?_) (fun c10 => ?_)
  · have h := (if_pos c10).symm.trans h
    refine lv_iload hx hb dL_law_292 (lv_at hl 1 rfl) ?_
    refine lv_if_ne (tgt := 309) hx hb dL_law_294 (by decide) (fun c11 => ?_) (fun c11 => ?_)
    · have h := (if_neg c11).symm.trans h
      refine lv_goto (tgt := 1493) hx hb dL_law_309 (by decide) ?_
      exact K _ (Option.some.inj h) _ _ _ _ _ (by omega) (by omega) hP hD hS (lv_sub hl [2, 3, 4, 5, 6] rfl)
    · have h := (if_pos c11).symm.trans h
      refine lv_aload_n hx hb dL_law_297 rfl (lv_at hl 5 rfl) ?_
      refine lv_iconst (v := 0) hx hb dL_law_298 (by decide) ?_
      refine va_lald (f := z7.2.2) hx hb hK hP 31 2 rfl rfl (vp_in_of_not (i := 0) (n := 1) (by decide)) dL_law_299 ?_
      refine lv_iload hx hb dL_law_300 (lv_at hl 0 rfl) ?_
      refine lv_i2l hx hb dL_law_302 rfl ?_
      refine W.lcmp hx hb dL_law_303 ?_
      refine lv_if_eq (tgt := 309) hx hb dL_law_304 (by decide) (fun c12 => ?_) (fun c12 => ?_)
      · have h := (if_pos c12).symm.trans h
        refine lv_goto (tgt := 1493) hx hb dL_law_309 (by decide) ?_
        exact K _ (Option.some.inj h) _ _ _ _ _ (by omega) (by omega) hP hD hS (lv_sub hl [2, 3, 4, 5, 6] rfl)
      · have h := (if_neg c12).symm.trans h
        refine lv_iconst (v := 0) hx hb dL_law_307 (by decide) ?_
        cases h
  · have h := (if_neg c10).symm.trans h
    refine lv_iconst (v := 0) hx hb dL_law_290 (by decide) ?_
    cases h
theorem cc_L_89 {p : Program} {l : Launch} {e : Env} {R : Room} {s : State} {m : MethodId} {args : Array Value} {below : List Frame} {meth : Method} {c : Code} {H : Heap} {locs : List Loc} {cells slots : Nat} {cc : ByteArray} {pc nL : Nat} {ls : Array Slot} {rest : List Value} {G : va_G} {A : Nat → Prop} (sv : Nat) (ga : Nat → Nat) {cI cS : ClassId} {u : TH}  {r : Int32 × TH} (S : CallFix p m c cc nL s args bwL RL) (hK : va_K G vwCl (tysW cI cS) s) (hN : NW s) (hP : va_P G vwCl (wH cI sv ga u) H) (hD : va_D A (wH cI sv ga u)) (hf : fX4_clearBuffer u = some r) (hsz : ls.size = nL) (hst : (rest.map fun v => v.category).sum ≤ 8) (hR : rmX4_clearBuffer.frames + 1 ≤ R.frames ∧ 8 + (2 + 11) + rmX4_clearBuffer.locals ≤ R.locals) (hdg : decode cc pc = .ok (.invokevirtual 89, 3)) (hcs : cells + 0 ≤ R.cells ∧ slots + 0 ≤ R.slots) : va_Run p l e R s m args below meth c H locs cells slots 0 0 (F0 m pc ls (.ref (ga 0) :: rest)) rest (va_Qi (fun r' u' => (r', u') = r) (PoM G (tysW cI cS) (va_A (wH cI sv ga u) H.size) (wH cI sv ga)) (va_A (wH cI sv ga u) H.size) (#[.ref (ga 0)] : Array Value)) (va_A (wH cI sv ga u) H.size) :=
  va_runV (As := []) (rest := rest) S (kX4_clearBuffer l G cI cS sv ga H.size u r hf) (cwV 0 S.2.2.2.2 (gdVL ql_98 ql_99 ql_100 (bwL_of q_76) (bwL_of q_168)) rfl rfl rfl (by decide +kernel) hR) (pvM (q := (RX4, TX4, 8)) hK hN hP hD (ci := 4) (q0 := 0) rfl rfl) rfl rfl hsz rfl (lv_room hst) hdg hcs
theorem cc_L_92 {p : Program} {l : Launch} {e : Env} {R : Room} {s : State} {m : MethodId} {args : Array Value} {below : List Frame} {meth : Method} {c : Code} {H : Heap} {locs : List Loc} {cells slots : Nat} {cc : ByteArray} {pc nL : Nat} {ls : Array Slot} {rest : List Value} {G : va_G} {A : Nat → Prop} (ga : Nat → Nat) {cI cS : ClassId} {u : TM}  {r : Int32 × TM} (S : CallFix p m c cc nL s args bwL RL) (hK : va_K G vwCl (tysW cI cS) s) (hN : NW s) (hP : va_P G vwCl (wM cI ga u) H) (hD : va_D A (wM cI ga u)) (hf : fX5_clearBuffer u = some r) (hsz : ls.size = nL) (hst : (rest.map fun v => v.category).sum ≤ 8) (hR : rmX5_clearBuffer.frames + 1 ≤ R.frames ∧ 8 + (2 + 11) + rmX5_clearBuffer.locals ≤ R.locals) (hdg : decode cc pc = .ok (.invokevirtual 92, 3)) (hcs : cells + 0 ≤ R.cells ∧ slots + 0 ≤ R.slots) : va_Run p l e R s m args below meth c H locs cells slots 0 0 (F0 m pc ls (.ref (ga 0) :: rest)) rest (va_Qi (fun r' u' => (r', u') = r) (PoM G (tysW cI cS) (va_A (wM cI ga u) H.size) (wM cI ga)) (va_A (wM cI ga u) H.size) (#[.ref (ga 0)] : Array Value)) (va_A (wM cI ga u) H.size) :=
  va_runV (As := []) (rest := rest) S (kX5_clearBuffer l G cI cS ga H.size u r hf) (cwV 0 S.2.2.2.2 (gdVL ql_101 ql_102 ql_103 (bwL_of q_392) (bwL_of q_536)) rfl rfl rfl (by decide +kernel) hR) (pvM (q := (RX5, TX5, 12)) hK hN hP hD (ci := 5) (q0 := 0) rfl rfl) rfl rfl hsz rfl (lv_room hst) hdg hcs

def fLc_2 (u : THS × TM × OutR) (a1 a2 : Int32) : Option (THS × TM × OutR) := ((fX4_clearBuffer u.1.1).bind fun z13 => ((fX5_clearBuffer u.2.1).bind fun z14 => (if z13.1 = z14.1 then some ((z13.2, u.1.2), z14.2, u.2.2) else none)))
set_option maxRecDepth 100000 in
set_option maxHeartbeats 4000000 in
theorem kLc_2 {p : Program} {l : Launch} {e : Env} {s : State} {m : MethodId} {args : Array Value} {below : List Frame} {meth : Method} {c : Code} {Q : State → Prop} {b L : Nat} {xs : Nat → Int32} {G : va_G} {cI cS cL : ClassId} {A : Nat → Prop} {B0 : Nat} (C0 : LawC p l s m args c b L xs G cI cS cL A B0) (sv : Nat) (gx gm : Nat → Nat) (og : Nat) (u : THS × TM × OutR) (x4 a1 a2 : Int32) (u' : THS × TM × OutR) (hf : fLc_2 u a1 a2 = some u') (hin1 : vp_in (x4 + (1 : Int32)) L) (hin2 : vp_in (x4 + (2 : Int32)) L) (hs1 : xs (x4 + (1 : Int32)).toNatClampNeg = a1) (hs2 : xs (x4 + (2 : Int32)).toNatClampNeg = a2) (cells slots : Nat) (hc9 : cells + 2 ≤ 601024) (hs9 : slots + 12 ≤ 7293034)
    (K : ∀ (v : THS × TM × OutR), v = u' → ∀ (H : Heap) (locs : List Loc) (ls : Array Slot) (cells' slots' : Nat), cells' ≤ cells + 2 → slots' ≤ slots + 12 → va_P G vwCl (wW cI cS cL sv gx gm og v) H → va_D A (wW cI cS cL sv gx gm og v) → va_S A s.heap H locs → lv_has ls 9 [(0, .ref b), (1, .ref (gx 0)), (2, .ref (gm 0)), (3, .ref og), (4, .int x4)] → W p l e room_1 s m args below meth c H locs cells' slots' Q (F0 m 1493 ls []))
    (H : Heap) (locs : List Loc) (ls : Array Slot) (hP : va_P G vwCl (wW cI cS cL sv gx gm og u) H) (hD : va_D A (wW cI cS cL sv gx gm og u)) (hS : va_S A s.heap H locs) (hl : lv_has ls 9 [(0, .ref b), (1, .ref (gx 0)), (2, .ref (gm 0)), (3, .ref og), (4, .int x4)]) : W p l e room_1 s m args below meth c H locs cells slots Q (F0 m 312 ls []) := by
  obtain ⟨hst, S, hK, hN, hC, hA, hAB, hB, hX, hX0, hbl, hbA⟩ := C0
  have hx := S.1; have hb := S.2.1; have hml := S.2.2.1; have hown := S.2.2.2.1; have hq := S.2.2.2.2
  have h := hf
  unfold fLc_2 at h
  refine lv_aload_n hx hb dL_law_312 rfl (lv_at hl 1 rfl) ?_
  obtain ⟨z13, e_z13, h⟩ := bnd h
  refine mkI (cc_L_89 sv gx S (hK.sub [0, 1] rfl) hN (hP.sub [0, 1, 2, 3, 4, 5, 6, 7, 8, 9, 10, 11, 12] rfl) (hD.sub [0, 1, 2, 3, 4, 5, 6, 7, 8, 9, 10, 11, 12] (by decide) rfl) e_z13 hl.1 (Nat.le_of_ble_eq_true rfl) ⟨(Nat.le_of_ble_eq_true rfl), (Nat.le_of_ble_eq_true rfl)⟩ dL_law_313 ⟨by show _ ≤ 601024; omega, by show _ ≤ 7293034; omega⟩) hS hP hD hA [0, 1, 2, 3, 4, 5, 6, 7, 8, 9, 10, 11, 12] [13, 14, 15, 16, 17, 18, 19, 20, 21, 22, 23, 24, 25, 26, 27, 28, 29, 30, 31] rfl rfl (by decide) (by decide) [19, 20, 21, 22, 23, 24, 25, 26, 27, 28, 29, 30, 31, 0, 1, 2, 3, 4, 5, 6, 7, 8, 9, 10, 11, 12, 13, 14, 15, 16, 17, 18] (by decide) (wW cI cS cL sv gx gm og ((z13.2, u.1.2), u.2)) rfl (fun H locs hP hD hS => ?_)
  refine lv_aload_n hx hb dL_law_316 rfl (lv_at hl 2 rfl) ?_
  obtain ⟨z14, e_z14, h⟩ := bnd h
  refine mkI (cc_L_92 gm S (hK.sub [0, 1] rfl) hN (hP.sub [26, 27, 28, 29, 30] rfl) (hD.sub [26, 27, 28, 29, 30] (by decide) rfl) e_z14 hl.1 (Nat.le_of_ble_eq_true rfl) ⟨(Nat.le_of_ble_eq_true rfl), (Nat.le_of_ble_eq_true rfl)⟩ dL_law_317 ⟨by show _ ≤ 601024; omega, by show _ ≤ 7293034; omega⟩) hS hP hD hA [26, 27, 28, 29, 30] [0, 1, 2, 3, 4, 5, 6, 7, 8, 9, 10, 11, 12, 13, 14, 15, 16, 17, 18, 19, 20, 21, 22, 23, 24, 25, 31] rfl rfl (by decide) (by decide) [0, 1, 2, 3, 4, 5, 6, 7, 8, 9, 10, 11, 12, 13, 14, 15, 16, 17, 18, 19, 20, 21, 22, 23, 24, 25, 27, 28, 29, 30, 31, 26] (by decide) (wW cI cS cL sv gx gm og ((z13.2, u.1.2), z14.2, u.2.2)) rfl (fun H locs hP hD hS => ?_)
  refine lv_icmp_eq (tgt := 1493) hx hb dL_law_320 (by decide) (fun c15 => ?_) (fun c15 => ?_)
  · have h := (if_pos c15).symm.trans h
    exact K _ (Option.some.inj h) _ _ _ _ _ (by omega) (by omega) hP hD hS (lv_sub hl [0, 1, 2, 3, 4] rfl)
  · have h := (if_neg c15).symm.trans h
    refine lv_iconst (v := 0) hx hb dL_law_323 (by decide) ?_
    cases h
theorem cc_L_93 {p : Program} {l : Launch} {e : Env} {R : Room} {s : State} {m : MethodId} {args : Array Value} {below : List Frame} {meth : Method} {c : Code} {H : Heap} {locs : List Loc} {cells slots : Nat} {cc : ByteArray} {pc nL : Nat} {ls : Array Slot} {rest : List Value} {G : va_G} {A : Nat → Prop} {B0 : Nat} (sv : Nat) (gx : Nat → Nat) (og : Nat) {cI cS cL : ClassId} {u : THS × OutR}  {r : Int32 × (THS × OutR)} (hst : l.stackTraces = false) (S : CallFix p m c cc nL s args bwL RL) (hK : va_K G vwCl (tysL cI cS cL) s) (hN : NW s) (hC : NC s) (hP : va_P G vwCl (wO cI cS cL sv gx og u) H) (hD : va_D A (wO cI cS cL sv gx og u)) (hS : va_S A s.heap H locs) (hAB : ∀ q, A q → B0 ≤ q) (hB : B0 ≤ s.heap.size) (hX : XT B0 s s.heap) (hf : fL_insert u = some r) (hsz : ls.size = nL) (hsk : (rest.map fun v => v.category).sum ≤ 8) (hR : rmL_insert.frames + 1 ≤ R.frames ∧ 8 + (3 + 11) + rmL_insert.locals ≤ R.locals) (hdg : decode cc pc = .ok (.invokestatic 93, 3)) (hcs : cells + 1 ≤ R.cells ∧ slots + 6 ≤ R.slots) : va_Run p l e R s m args below meth c H locs cells slots 1 6 (F0 m pc ls (.ref og :: .ref (gx 0) :: rest)) rest (va_Qi (fun r' u' => (r', u') = r) (PoM G (tysL cI cS cL) (va_A (wO cI cS cL sv gx og u) H.size) (wO cI cS cL sv gx og)) (va_A (wO cI cS cL sv gx og u) H.size) (#[.ref (gx 0), .ref og] : Array Value)) (va_A (wO cI cS cL sv gx og u) H.size) :=
  vx_runSW (As := [.ref (gx 0), .ref og]) (rest := rest) S (kL_insert l hst G cI cS cL sv gx og H.size B0 u r hf) (vx_cwSW 2 S.2.2.2.2 (gdWL ql_104 ql_105 ql_86 ql_13) rfl rfl rfl (by decide +kernel) hR) (psL hK hN hC hP hD hS hAB hB hX) rfl rfl hsz rfl (lv_room hsk) hdg hcs
theorem cc_L_96 {p : Program} {l : Launch} {e : Env} {R : Room} {s : State} {m : MethodId} {args : Array Value} {below : List Frame} {meth : Method} {c : Code} {H : Heap} {locs : List Loc} {cells slots : Nat} {cc : ByteArray} {pc nL : Nat} {ls : Array Slot} {rest : List Value} {G : va_G} {A : Nat → Prop} (ga : Nat → Nat) {cI cS : ClassId} {u : TM}  {r : Int32 × TM} (S : CallFix p m c cc nL s args bwL RL) (hK : va_K G vwCl (tysW cI cS) s) (hN : NW s) (hP : va_P G vwCl (wM cI ga u) H) (hD : va_D A (wM cI ga u)) (hf : fX5_insert u = some r) (hsz : ls.size = nL) (hst : (rest.map fun v => v.category).sum ≤ 8) (hR : rmX5_insert.frames + 1 ≤ R.frames ∧ 8 + (1 + 11) + rmX5_insert.locals ≤ R.locals) (hdg : decode cc pc = .ok (.invokevirtual 96, 3)) (hcs : cells + 0 ≤ R.cells ∧ slots + 0 ≤ R.slots) : va_Run p l e R s m args below meth c H locs cells slots 0 0 (F0 m pc ls (.ref (ga 0) :: rest)) rest (va_Qi (fun r' u' => (r', u') = r) (PoM G (tysW cI cS) (va_A (wM cI ga u) H.size) (wM cI ga)) (va_A (wM cI ga u) H.size) (#[.ref (ga 0)] : Array Value)) (va_A (wM cI ga u) H.size) :=
  va_runV (As := []) (rest := rest) S (kX5_insert l G cI cS ga H.size u r hf) (cwV 0 S.2.2.2.2 (gdVL ql_106 ql_107 ql_108 (bwL_of q_392) (bwL_of q_546)) rfl rfl rfl (by decide +kernel) hR) (pvM (q := (RX5, TX5, 12)) hK hN hP hD (ci := 5) (q0 := 0) rfl rfl) rfl rfl hsz rfl (lv_room hst) hdg hcs

def fLc_3 (u : THS × TM × OutR) (a1 a2 : Int32) : Option (THS × TM × OutR) := ((fL_insert (u.1, u.2.2)).bind fun z16 => ((fX5_insert u.2.1).bind fun z17 => ((fX5_thrown z17.2).bind fun z18 => (if z18 = z16.1 then (if z16.1 = 0 then (if (lg_cmp (z16.2.2 (0 : Int32).toNatClampNeg) z17.1.toInt64) = 0 then some (z16.2.1, z17.2, z16.2.2) else none) else some (z16.2.1, z17.2, z16.2.2)) else none))))
set_option maxRecDepth 100000 in
set_option maxHeartbeats 4000000 in
theorem kLc_3 {p : Program} {l : Launch} {e : Env} {s : State} {m : MethodId} {args : Array Value} {below : List Frame} {meth : Method} {c : Code} {Q : State → Prop} {b L : Nat} {xs : Nat → Int32} {G : va_G} {cI cS cL : ClassId} {A : Nat → Prop} {B0 : Nat} (C0 : LawC p l s m args c b L xs G cI cS cL A B0) (sv : Nat) (gx gm : Nat → Nat) (og : Nat) (u : THS × TM × OutR) (x4 a1 a2 : Int32) (u' : THS × TM × OutR) (hf : fLc_3 u a1 a2 = some u') (hin1 : vp_in (x4 + (1 : Int32)) L) (hin2 : vp_in (x4 + (2 : Int32)) L) (hs1 : xs (x4 + (1 : Int32)).toNatClampNeg = a1) (hs2 : xs (x4 + (2 : Int32)).toNatClampNeg = a2) (cells slots : Nat) (hc9 : cells + 2 ≤ 601024) (hs9 : slots + 12 ≤ 7293034)
    (K : ∀ (v : THS × TM × OutR), v = u' → ∀ (H : Heap) (locs : List Loc) (ls : Array Slot) (cells' slots' : Nat), cells' ≤ cells + 2 → slots' ≤ slots + 12 → va_P G vwCl (wW cI cS cL sv gx gm og v) H → va_D A (wW cI cS cL sv gx gm og v) → va_S A s.heap H locs → lv_has ls 9 [(0, .ref b), (1, .ref (gx 0)), (2, .ref (gm 0)), (3, .ref og), (4, .int x4)] → W p l e room_1 s m args below meth c H locs cells' slots' Q (F0 m 1493 ls []))
    (H : Heap) (locs : List Loc) (ls : Array Slot) (hP : va_P G vwCl (wW cI cS cL sv gx gm og u) H) (hD : va_D A (wW cI cS cL sv gx gm og u)) (hS : va_S A s.heap H locs) (hl : lv_has ls 9 [(0, .ref b), (1, .ref (gx 0)), (2, .ref (gm 0)), (3, .ref og), (4, .int x4)]) : W p l e room_1 s m args below meth c H locs cells slots Q (F0 m 325 ls []) := by
  obtain ⟨hst, S, hK, hN, hC, hA, hAB, hB, hX, hX0, hbl, hbA⟩ := C0
  have hx := S.1; have hb := S.2.1; have hml := S.2.2.1; have hown := S.2.2.2.1; have hq := S.2.2.2.2
  have h := hf
  unfold fLc_3 at h
  refine lv_aload_n hx hb dL_law_325 rfl (lv_at hl 1 rfl) ?_
  refine lv_aload_n hx hb dL_law_326 rfl (lv_at hl 3 rfl) ?_
  obtain ⟨z16, e_z16, h⟩ := bnd h
  refine mkI (cc_L_93 sv gx og hst S hK hN hC (hP.sub [0, 1, 2, 3, 4, 5, 6, 7, 8, 9, 10, 11, 12, 13, 14, 15, 16, 17, 18, 19, 20, 21, 22, 23, 24, 25, 31] rfl) (hD.sub [0, 1, 2, 3, 4, 5, 6, 7, 8, 9, 10, 11, 12, 13, 14, 15, 16, 17, 18, 19, 20, 21, 22, 23, 24, 25, 31] (by decide) rfl) hS hAB hB hX e_z16 hl.1 (Nat.le_of_ble_eq_true rfl) ⟨(Nat.le_of_ble_eq_true rfl), (Nat.le_of_ble_eq_true rfl)⟩ dL_law_327 ⟨by show _ ≤ 601024; omega, by show _ ≤ 7293034; omega⟩) hS hP hD hA [0, 1, 2, 3, 4, 5, 6, 7, 8, 9, 10, 11, 12, 13, 14, 15, 16, 17, 18, 19, 20, 21, 22, 23, 24, 25, 31] [26, 27, 28, 29, 30] rfl rfl (by decide) (by decide) [5, 6, 7, 8, 9, 10, 11, 12, 13, 14, 15, 16, 17, 18, 19, 20, 21, 22, 23, 24, 25, 26, 27, 28, 29, 30, 0, 1, 2, 3, 4, 31] (by decide) (wW cI cS cL sv gx gm og (z16.2.1, u.2.1, z16.2.2)) rfl (fun H locs hP hD hS => ?_)
  refine lv_istore (lv' := [(5, .int z16.1), (0, .ref b), (1, .ref (gx 0)), (2, .ref (gm 0)), (3, .ref og), (4, .int x4)]) hx hb dL_law_330 hl (by decide) rfl (fun ls hl => ?_)
  refine lv_aload_n hx hb dL_law_332 rfl (lv_at hl 3 rfl) ?_
  obtain ⟨z17, e_z17, h⟩ := bnd h
  refine mkI (cc_L_96 gm S (hK.sub [0, 1] rfl) hN (hP.sub [26, 27, 28, 29, 30] rfl) (hD.sub [26, 27, 28, 29, 30] (by decide) rfl) e_z17 hl.1 (Nat.le_of_ble_eq_true rfl) ⟨(Nat.le_of_ble_eq_true rfl), (Nat.le_of_ble_eq_true rfl)⟩ dL_law_333 ⟨by show _ ≤ 601024; omega, by show _ ≤ 7293034; omega⟩) hS hP hD hA [26, 27, 28, 29, 30] [0, 1, 2, 3, 4, 5, 6, 7, 8, 9, 10, 11, 12, 13, 14, 15, 16, 17, 18, 19, 20, 21, 22, 23, 24, 25, 31] rfl rfl (by decide) (by decide) [0, 1, 2, 3, 4, 5, 6, 7, 8, 9, 10, 11, 12, 13, 14, 15, 16, 17, 18, 19, 20, 21, 22, 23, 24, 25, 27, 28, 29, 30, 31, 26] (by decide) (wW cI cS cL sv gx gm og (z16.2.1, z17.2, z16.2.2)) rfl (fun H locs hP hD hS => ?_)
  refine lv_istore (lv' := [(6, .int z17.1), (5, .int z16.1), (0, .ref b), (1, .ref (gx 0)), (2, .ref (gm 0)), (3, .ref og), (4, .int x4)]) hx hb dL_law_336 hl (by decide) rfl (fun ls hl => ?_)
  refine lv_aload_n hx hb dL_law_338 rfl (lv_at hl 4 rfl) ?_
  obtain ⟨z18, e_z18, h⟩ := bnd h
  refine roI (cc_L_82 gm S (hK.sub [0, 1] rfl) hN (hP.sub [26, 27, 28, 29, 30] rfl) e_z18 hl.1 (Nat.le_of_ble_eq_true rfl) ⟨(Nat.le_of_ble_eq_true rfl), (Nat.le_of_ble_eq_true rfl)⟩ dL_law_339 ⟨by show _ ≤ 601024; omega, by show _ ≤ 7293034; omega⟩) ?_
  refine lv_iload hx hb dL_law_342 (lv_at hl 1 rfl) ?_
  refine lv_icmp_eq (tgt := 349) hx hb dL_law_344 (by decide) (fun c19 => ?_) (fun c19 => ?_)
  · have h := (if_pos c19).symm.trans h
    refine lv_iload hx hb dL_law_349 (lv_at hl 1 rfl) ?_
    refine lv_if_ne (tgt := 366) hx hb dL_law_351 (by decide) (fun c20 => ?_) (fun c20 => ?_)
    · have h := (if_neg c20).symm.trans h
      refine lv_goto (tgt := 1493) hx hb dL_law_366 (by decide) ?_
      exact K _ (Option.some.inj h) _ _ _ _ _ (by omega) (by omega) hP hD hS (lv_sub hl [2, 3, 4, 5, 6] rfl)
    · have h := (if_pos c20).symm.trans h
      refine lv_aload_n hx hb dL_law_354 rfl (lv_at hl 5 rfl) ?_
      refine lv_iconst (v := 0) hx hb dL_law_355 (by decide) ?_
      refine va_lald (f := z16.2.2) hx hb hK hP 31 2 rfl rfl (vp_in_of_not (i := 0) (n := 1) (by decide)) dL_law_356 ?_
      refine lv_iload hx hb dL_law_357 (lv_at hl 0 rfl) ?_
      refine lv_i2l hx hb dL_law_359 rfl ?_
      refine W.lcmp hx hb dL_law_360 ?_
      refine lv_if_eq (tgt := 366) hx hb dL_law_361 (by decide) (fun c21 => ?_) (fun c21 => ?_)
      · have h := (if_pos c21).symm.trans h
        refine lv_goto (tgt := 1493) hx hb dL_law_366 (by decide) ?_
        exact K _ (Option.some.inj h) _ _ _ _ _ (by omega) (by omega) hP hD hS (lv_sub hl [2, 3, 4, 5, 6] rfl)
      · have h := (if_neg c21).symm.trans h
        refine lv_iconst (v := 0) hx hb dL_law_364 (by decide) ?_
        cases h
  · have h := (if_neg c19).symm.trans h
    refine lv_iconst (v := 0) hx hb dL_law_347 (by decide) ?_
    cases h
theorem cc_L_97 {p : Program} {l : Launch} {e : Env} {R : Room} {s : State} {m : MethodId} {args : Array Value} {below : List Frame} {meth : Method} {c : Code} {H : Heap} {locs : List Loc} {cells slots : Nat} {cc : ByteArray} {pc nL : Nat} {ls : Array Slot} {rest : List Value} {G : va_G} {A : Nat → Prop} {B0 : Nat} (sv : Nat) (gx : Nat → Nat) (og : Nat) {cI cS cL : ClassId} {u : THS × OutR} {p0 : Int32} {r : Int32 × (THS × OutR)} (hst : l.stackTraces = false) (S : CallFix p m c cc nL s args bwL RL) (hK : va_K G vwCl (tysL cI cS cL) s) (hN : NW s) (hC : NC s) (hP : va_P G vwCl (wO cI cS cL sv gx og u) H) (hD : va_D A (wO cI cS cL sv gx og u)) (hS : va_S A s.heap H locs) (hAB : ∀ q, A q → B0 ≤ q) (hB : B0 ≤ s.heap.size) (hX : XT B0 s s.heap) (hf : fL_update u p0 = some r) (hsz : ls.size = nL) (hsk : (rest.map fun v => v.category).sum ≤ 8) (hR : rmL_update.frames + 1 ≤ R.frames ∧ 8 + (4 + 11) + rmL_update.locals ≤ R.locals) (hdg : decode cc pc = .ok (.invokestatic 97, 3)) (hcs : cells + 2 ≤ R.cells ∧ slots + 12 ≤ R.slots) : va_Run p l e R s m args below meth c H locs cells slots 2 12 (F0 m pc ls (.ref og :: .int p0 :: .ref (gx 0) :: rest)) rest (va_Qi (fun r' u' => (r', u') = r) (PoM G (tysL cI cS cL) (va_A (wO cI cS cL sv gx og u) H.size) (wO cI cS cL sv gx og)) (va_A (wO cI cS cL sv gx og u) H.size) (#[.ref (gx 0), .int p0, .ref og] : Array Value)) (va_A (wO cI cS cL sv gx og u) H.size) :=
  vx_runSW (As := [.ref (gx 0), .int p0, .ref og]) (rest := rest) S (kL_update l hst G cI cS cL sv gx og H.size B0 u p0 r hf) (vx_cwSW 3 S.2.2.2.2 (gdWL ql_109 ql_110 ql_86 ql_18) rfl rfl rfl (by decide +kernel) hR) (psL hK hN hC hP hD hS hAB hB hX) rfl rfl hsz rfl (lv_room hsk) hdg hcs
theorem cc_L_99 {p : Program} {l : Launch} {e : Env} {R : Room} {s : State} {m : MethodId} {args : Array Value} {below : List Frame} {meth : Method} {c : Code} {H : Heap} {locs : List Loc} {cells slots : Nat} {cc : ByteArray} {pc nL : Nat} {ls : Array Slot} {rest : List Value} {G : va_G} {A : Nat → Prop} (ga : Nat → Nat) {cI cS : ClassId} {u : TM}  {p0 : Int32} {r : Int32 × TM} (S : CallFix p m c cc nL s args bwL RL) (hK : va_K G vwCl (tysW cI cS) s) (hN : NW s) (hP : va_P G vwCl (wM cI ga u) H) (hD : va_D A (wM cI ga u)) (hf : fX5_update u p0 = some r) (hsz : ls.size = nL) (hst : (rest.map fun v => v.category).sum ≤ 8) (hR : rmX5_update.frames + 1 ≤ R.frames ∧ 8 + (3 + 11) + rmX5_update.locals ≤ R.locals) (hdg : decode cc pc = .ok (.invokevirtual 99, 3)) (hcs : cells + 0 ≤ R.cells ∧ slots + 0 ≤ R.slots) : va_Run p l e R s m args below meth c H locs cells slots 0 0 (F0 m pc ls (.int p0 :: .ref (ga 0) :: rest)) rest (va_Qi (fun r' u' => (r', u') = r) (PoM G (tysW cI cS) (va_A (wM cI ga u) H.size) (wM cI ga)) (va_A (wM cI ga u) H.size) (#[.ref (ga 0), .int p0] : Array Value)) (va_A (wM cI ga u) H.size) :=
  va_runV (As := [.int p0]) (rest := rest) S (kX5_update l G cI cS ga H.size u p0 r hf) (cwV 1 S.2.2.2.2 (gdVL ql_111 ql_112 ql_113 (bwL_of q_392) (bwL_of q_553)) rfl rfl rfl (by decide +kernel) hR) (pvM (q := (RX5, TX5, 12)) hK hN hP hD (ci := 5) (q0 := 0) rfl rfl) rfl rfl hsz rfl (lv_room hst) hdg hcs

def fLc_4 (u : THS × TM × OutR) (a1 a2 : Int32) : Option (THS × TM × OutR) := ((fL_update (u.1, u.2.2) a1).bind fun z22 => ((fX5_update u.2.1 a1).bind fun z23 => ((fX5_thrown z23.2).bind fun z24 => (if z24 = z22.1 then (if z22.1 = 0 then (if (lg_cmp (z22.2.2 (0 : Int32).toNatClampNeg) z23.1.toInt64) = 0 then some (z22.2.1, z23.2, z22.2.2) else none) else some (z22.2.1, z23.2, z22.2.2)) else none))))
set_option maxRecDepth 100000 in
set_option maxHeartbeats 4000000 in
theorem kLc_4 {p : Program} {l : Launch} {e : Env} {s : State} {m : MethodId} {args : Array Value} {below : List Frame} {meth : Method} {c : Code} {Q : State → Prop} {b L : Nat} {xs : Nat → Int32} {G : va_G} {cI cS cL : ClassId} {A : Nat → Prop} {B0 : Nat} (C0 : LawC p l s m args c b L xs G cI cS cL A B0) (sv : Nat) (gx gm : Nat → Nat) (og : Nat) (u : THS × TM × OutR) (x4 a1 a2 : Int32) (u' : THS × TM × OutR) (hf : fLc_4 u a1 a2 = some u') (hin1 : vp_in (x4 + (1 : Int32)) L) (hin2 : vp_in (x4 + (2 : Int32)) L) (hs1 : xs (x4 + (1 : Int32)).toNatClampNeg = a1) (hs2 : xs (x4 + (2 : Int32)).toNatClampNeg = a2) (cells slots : Nat) (hc9 : cells + 2 ≤ 601024) (hs9 : slots + 12 ≤ 7293034)
    (K : ∀ (v : THS × TM × OutR), v = u' → ∀ (H : Heap) (locs : List Loc) (ls : Array Slot) (cells' slots' : Nat), cells' ≤ cells + 2 → slots' ≤ slots + 12 → va_P G vwCl (wW cI cS cL sv gx gm og v) H → va_D A (wW cI cS cL sv gx gm og v) → va_S A s.heap H locs → lv_has ls 9 [(0, .ref b), (1, .ref (gx 0)), (2, .ref (gm 0)), (3, .ref og), (4, .int x4)] → W p l e room_1 s m args below meth c H locs cells' slots' Q (F0 m 1493 ls []))
    (H : Heap) (locs : List Loc) (ls : Array Slot) (hP : va_P G vwCl (wW cI cS cL sv gx gm og u) H) (hD : va_D A (wW cI cS cL sv gx gm og u)) (hS : va_S A s.heap H locs) (hl : lv_has ls 9 [(0, .ref b), (1, .ref (gx 0)), (2, .ref (gm 0)), (3, .ref og), (4, .int x4)]) : W p l e room_1 s m args below meth c H locs cells slots Q (F0 m 369 ls []) := by
  obtain ⟨hst, S, hK, hN, hC, hA, hAB, hB, hX, hX0, hbl, hbA⟩ := C0
  have hx := S.1; have hb := S.2.1; have hml := S.2.2.1; have hown := S.2.2.2.1; have hq := S.2.2.2.2
  have h := hf
  unfold fLc_4 at h
  refine lv_aload_n hx hb dL_law_369 rfl (lv_at hl 1 rfl) ?_
  refine lv_aload_n hx hb dL_law_370 rfl (lv_at hl 0 rfl) ?_
  refine lv_iload hx hb dL_law_371 (lv_at hl 4 rfl) ?_
  refine lv_iconst (v := 1) hx hb dL_law_373 (by decide) ?_
  refine lv_iadd hx hb dL_law_374 ?_
  refine sldO hx hb hX0 hbl hbA hS hin1 hs1 dL_law_375 ?_
  refine lv_aload_n hx hb dL_law_376 rfl (lv_at hl 3 rfl) ?_
  obtain ⟨z22, e_z22, h⟩ := bnd h
  refine mkI (cc_L_97 sv gx og hst S hK hN hC (hP.sub [0, 1, 2, 3, 4, 5, 6, 7, 8, 9, 10, 11, 12, 13, 14, 15, 16, 17, 18, 19, 20, 21, 22, 23, 24, 25, 31] rfl) (hD.sub [0, 1, 2, 3, 4, 5, 6, 7, 8, 9, 10, 11, 12, 13, 14, 15, 16, 17, 18, 19, 20, 21, 22, 23, 24, 25, 31] (by decide) rfl) hS hAB hB hX e_z22 hl.1 (Nat.le_of_ble_eq_true rfl) ⟨(Nat.le_of_ble_eq_true rfl), (Nat.le_of_ble_eq_true rfl)⟩ dL_law_377 ⟨by show _ ≤ 601024; omega, by show _ ≤ 7293034; omega⟩) hS hP hD hA [0, 1, 2, 3, 4, 5, 6, 7, 8, 9, 10, 11, 12, 13, 14, 15, 16, 17, 18, 19, 20, 21, 22, 23, 24, 25, 31] [26, 27, 28, 29, 30] rfl rfl (by decide) (by decide) [5, 6, 7, 8, 9, 10, 11, 12, 13, 14, 15, 16, 17, 18, 19, 20, 21, 22, 23, 24, 25, 26, 27, 28, 29, 30, 0, 1, 2, 3, 4, 31] (by decide) (wW cI cS cL sv gx gm og (z22.2.1, u.2.1, z22.2.2)) rfl (fun H locs hP hD hS => ?_)
  refine lv_istore (lv' := [(5, .int z22.1), (0, .ref b), (1, .ref (gx 0)), (2, .ref (gm 0)), (3, .ref og), (4, .int x4)]) hx hb dL_law_380 hl (by decide) rfl (fun ls hl => ?_)
  refine lv_aload_n hx hb dL_law_382 rfl (lv_at hl 3 rfl) ?_
  refine lv_aload_n hx hb dL_law_383 rfl (lv_at hl 1 rfl) ?_
  refine lv_iload hx hb dL_law_384 (lv_at hl 5 rfl) ?_
  refine lv_iconst (v := 1) hx hb dL_law_386 (by decide) ?_
  refine lv_iadd hx hb dL_law_387 ?_
  refine sldO hx hb hX0 hbl hbA hS hin1 hs1 dL_law_388 ?_
  obtain ⟨z23, e_z23, h⟩ := bnd h
  refine mkI (cc_L_99 gm S (hK.sub [0, 1] rfl) hN (hP.sub [26, 27, 28, 29, 30] rfl) (hD.sub [26, 27, 28, 29, 30] (by decide) rfl) e_z23 hl.1 (Nat.le_of_ble_eq_true rfl) ⟨(Nat.le_of_ble_eq_true rfl), (Nat.le_of_ble_eq_true rfl)⟩ dL_law_389 ⟨by show _ ≤ 601024; omega, by show _ ≤ 7293034; omega⟩) hS hP hD hA [26, 27, 28, 29, 30] [0, 1, 2, 3, 4, 5, 6, 7, 8, 9, 10, 11, 12, 13, 14, 15, 16, 17, 18, 19, 20, 21, 22, 23, 24, 25, 31] rfl rfl (by decide) (by decide) [0, 1, 2, 3, 4, 5, 6, 7, 8, 9, 10, 11, 12, 13, 14, 15, 16, 17, 18, 19, 20, 21, 22, 23, 24, 25, 27, 28, 29, 30, 31, 26] (by decide) (wW cI cS cL sv gx gm og (z22.2.1, z23.2, z22.2.2)) rfl (fun H locs hP hD hS => ?_)
  refine lv_istore (lv' := [(6, .int z23.1), (5, .int z22.1), (0, .ref b), (1, .ref (gx 0)), (2, .ref (gm 0)), (3, .ref og), (4, .int x4)]) hx hb dL_law_392 hl (by decide) rfl (fun ls hl => ?_)
  refine lv_aload_n hx hb dL_law_394 rfl (lv_at hl 4 rfl) ?_
  obtain ⟨z24, e_z24, h⟩ := bnd h
  refine roI (cc_L_82 gm S (hK.sub [0, 1] rfl) hN (hP.sub [26, 27, 28, 29, 30] rfl) e_z24 hl.1 (Nat.le_of_ble_eq_true rfl) ⟨(Nat.le_of_ble_eq_true rfl), (Nat.le_of_ble_eq_true rfl)⟩ dL_law_395 ⟨by show _ ≤ 601024; omega, by show _ ≤ 7293034; omega⟩) ?_
  refine lv_iload hx hb dL_law_398 (lv_at hl 1 rfl) ?_
  refine lv_icmp_eq (tgt := 405) hx hb dL_law_400 (by decide) (fun c25 => ?_) (fun c25 => ?_)
  · have h := (if_pos c25).symm.trans h
    refine lv_iload hx hb dL_law_405 (lv_at hl 1 rfl) ?_
    refine lv_if_ne (tgt := 422) hx hb dL_law_407 (by decide) (fun c26 => ?_) (fun c26 => ?_)
    · have h := (if_neg c26).symm.trans h
      refine lv_goto (tgt := 1493) hx hb dL_law_422 (by decide) ?_
      exact K _ (Option.some.inj h) _ _ _ _ _ (by omega) (by omega) hP hD hS (lv_sub hl [2, 3, 4, 5, 6] rfl)
    · have h := (if_pos c26).symm.trans h
      refine lv_aload_n hx hb dL_law_410 rfl (lv_at hl 5 rfl) ?_
      refine lv_iconst (v := 0) hx hb dL_law_411 (by decide) ?_
      refine va_lald (f := z22.2.2) hx hb hK hP 31 2 rfl rfl (vp_in_of_not (i := 0) (n := 1) (by decide)) dL_law_412 ?_
      refine lv_iload hx hb dL_law_413 (lv_at hl 0 rfl) ?_
      refine lv_i2l hx hb dL_law_415 rfl ?_
      refine W.lcmp hx hb dL_law_416 ?_
      refine lv_if_eq (tgt := 422) hx hb dL_law_417 (by decide) (fun c27 => ?_) (fun c27 => ?_)
      · have h := (if_pos c27).symm.trans h
        refine lv_goto (tgt := 1493) hx hb dL_law_422 (by decide) ?_
        exact K _ (Option.some.inj h) _ _ _ _ _ (by omega) (by omega) hP hD hS (lv_sub hl [2, 3, 4, 5, 6] rfl)
      · have h := (if_neg c27).symm.trans h
        refine lv_iconst (v := 0) hx hb dL_law_420 (by decide) ?_
        cases h
  · have h := (if_neg c25).symm.trans h
    refine lv_iconst (v := 0) hx hb dL_law_403 (by decide) ?_
    cases h
theorem cc_L_100 {p : Program} {l : Launch} {e : Env} {R : Room} {s : State} {m : MethodId} {args : Array Value} {below : List Frame} {meth : Method} {c : Code} {H : Heap} {locs : List Loc} {cells slots : Nat} {cc : ByteArray} {pc nL : Nat} {ls : Array Slot} {rest : List Value} {G : va_G} {A : Nat → Prop} {B0 : Nat} (sv : Nat) (gx : Nat → Nat) (og : Nat) {cI cS cL : ClassId} {u : THS × OutR} {p0 : Int32} {r : Int32 × (THS × OutR)} (hst : l.stackTraces = false) (S : CallFix p m c cc nL s args bwL RL) (hK : va_K G vwCl (tysL cI cS cL) s) (hN : NW s) (hC : NC s) (hP : va_P G vwCl (wO cI cS cL sv gx og u) H) (hD : va_D A (wO cI cS cL sv gx og u)) (hS : va_S A s.heap H locs) (hAB : ∀ q, A q → B0 ≤ q) (hB : B0 ≤ s.heap.size) (hX : XT B0 s s.heap) (hf : fL_delete u p0 = some r) (hsz : ls.size = nL) (hsk : (rest.map fun v => v.category).sum ≤ 8) (hR : rmL_delete.frames + 1 ≤ R.frames ∧ 8 + (4 + 11) + rmL_delete.locals ≤ R.locals) (hdg : decode cc pc = .ok (.invokestatic 100, 3)) (hcs : cells + 1 ≤ R.cells ∧ slots + 6 ≤ R.slots) : va_Run p l e R s m args below meth c H locs cells slots 1 6 (F0 m pc ls (.ref og :: .int p0 :: .ref (gx 0) :: rest)) rest (va_Qi (fun r' u' => (r', u') = r) (PoM G (tysL cI cS cL) (va_A (wO cI cS cL sv gx og u) H.size) (wO cI cS cL sv gx og)) (va_A (wO cI cS cL sv gx og u) H.size) (#[.ref (gx 0), .int p0, .ref og] : Array Value)) (va_A (wO cI cS cL sv gx og u) H.size) :=
  vx_runSW (As := [.ref (gx 0), .int p0, .ref og]) (rest := rest) S (kL_delete l hst G cI cS cL sv gx og H.size B0 u p0 r hf) (vx_cwSW 3 S.2.2.2.2 (gdWL ql_114 ql_115 ql_86 ql_22) rfl rfl rfl (by decide +kernel) hR) (psL hK hN hC hP hD hS hAB hB hX) rfl rfl hsz rfl (lv_room hsk) hdg hcs
theorem cc_L_102 {p : Program} {l : Launch} {e : Env} {R : Room} {s : State} {m : MethodId} {args : Array Value} {below : List Frame} {meth : Method} {c : Code} {H : Heap} {locs : List Loc} {cells slots : Nat} {cc : ByteArray} {pc nL : Nat} {ls : Array Slot} {rest : List Value} {G : va_G} {A : Nat → Prop} (ga : Nat → Nat) {cI cS : ClassId} {u : TM}  {p0 : Int32} {r : Int32 × TM} (S : CallFix p m c cc nL s args bwL RL) (hK : va_K G vwCl (tysW cI cS) s) (hN : NW s) (hP : va_P G vwCl (wM cI ga u) H) (hD : va_D A (wM cI ga u)) (hf : fX5_delete u p0 = some r) (hsz : ls.size = nL) (hst : (rest.map fun v => v.category).sum ≤ 8) (hR : rmX5_delete.frames + 1 ≤ R.frames ∧ 8 + (2 + 11) + rmX5_delete.locals ≤ R.locals) (hdg : decode cc pc = .ok (.invokevirtual 102, 3)) (hcs : cells + 0 ≤ R.cells ∧ slots + 0 ≤ R.slots) : va_Run p l e R s m args below meth c H locs cells slots 0 0 (F0 m pc ls (.int p0 :: .ref (ga 0) :: rest)) rest (va_Qi (fun r' u' => (r', u') = r) (PoM G (tysW cI cS) (va_A (wM cI ga u) H.size) (wM cI ga)) (va_A (wM cI ga u) H.size) (#[.ref (ga 0), .int p0] : Array Value)) (va_A (wM cI ga u) H.size) :=
  va_runV (As := [.int p0]) (rest := rest) S (kX5_delete l G cI cS ga H.size u p0 r hf) (cwV 1 S.2.2.2.2 (gdVL ql_116 ql_117 ql_118 (bwL_of q_392) (bwL_of q_557)) rfl rfl rfl (by decide +kernel) hR) (pvM (q := (RX5, TX5, 12)) hK hN hP hD (ci := 5) (q0 := 0) rfl rfl) rfl rfl hsz rfl (lv_room hst) hdg hcs

def fLc_5 (u : THS × TM × OutR) (a1 a2 : Int32) : Option (THS × TM × OutR) := ((fL_delete (u.1, u.2.2) a1).bind fun z28 => ((fX5_delete u.2.1 a1).bind fun z29 => ((fX5_thrown z29.2).bind fun z30 => (if z30 = z28.1 then (if z28.1 = 0 then (if (lg_cmp (z28.2.2 (0 : Int32).toNatClampNeg) z29.1.toInt64) = 0 then some (z28.2.1, z29.2, z28.2.2) else none) else some (z28.2.1, z29.2, z28.2.2)) else none))))
set_option maxRecDepth 100000 in
set_option maxHeartbeats 4000000 in
theorem kLc_5 {p : Program} {l : Launch} {e : Env} {s : State} {m : MethodId} {args : Array Value} {below : List Frame} {meth : Method} {c : Code} {Q : State → Prop} {b L : Nat} {xs : Nat → Int32} {G : va_G} {cI cS cL : ClassId} {A : Nat → Prop} {B0 : Nat} (C0 : LawC p l s m args c b L xs G cI cS cL A B0) (sv : Nat) (gx gm : Nat → Nat) (og : Nat) (u : THS × TM × OutR) (x4 a1 a2 : Int32) (u' : THS × TM × OutR) (hf : fLc_5 u a1 a2 = some u') (hin1 : vp_in (x4 + (1 : Int32)) L) (hin2 : vp_in (x4 + (2 : Int32)) L) (hs1 : xs (x4 + (1 : Int32)).toNatClampNeg = a1) (hs2 : xs (x4 + (2 : Int32)).toNatClampNeg = a2) (cells slots : Nat) (hc9 : cells + 2 ≤ 601024) (hs9 : slots + 12 ≤ 7293034)
    (K : ∀ (v : THS × TM × OutR), v = u' → ∀ (H : Heap) (locs : List Loc) (ls : Array Slot) (cells' slots' : Nat), cells' ≤ cells + 2 → slots' ≤ slots + 12 → va_P G vwCl (wW cI cS cL sv gx gm og v) H → va_D A (wW cI cS cL sv gx gm og v) → va_S A s.heap H locs → lv_has ls 9 [(0, .ref b), (1, .ref (gx 0)), (2, .ref (gm 0)), (3, .ref og), (4, .int x4)] → W p l e room_1 s m args below meth c H locs cells' slots' Q (F0 m 1493 ls []))
    (H : Heap) (locs : List Loc) (ls : Array Slot) (hP : va_P G vwCl (wW cI cS cL sv gx gm og u) H) (hD : va_D A (wW cI cS cL sv gx gm og u)) (hS : va_S A s.heap H locs) (hl : lv_has ls 9 [(0, .ref b), (1, .ref (gx 0)), (2, .ref (gm 0)), (3, .ref og), (4, .int x4)]) : W p l e room_1 s m args below meth c H locs cells slots Q (F0 m 425 ls []) := by
  obtain ⟨hst, S, hK, hN, hC, hA, hAB, hB, hX, hX0, hbl, hbA⟩ := C0
  have hx := S.1; have hb := S.2.1; have hml := S.2.2.1; have hown := S.2.2.2.1; have hq := S.2.2.2.2
  have h := hf
  unfold fLc_5 at h
  refine lv_aload_n hx hb dL_law_425 rfl (lv_at hl 1 rfl) ?_
  refine lv_aload_n hx hb dL_law_426 rfl (lv_at hl 0 rfl) ?_
  refine lv_iload hx hb dL_law_427 (lv_at hl 4 rfl) ?_
  refine lv_iconst (v := 1) hx hb dL_law_429 (by decide) ?_
  refine lv_iadd hx hb dL_law_430 ?_
  refine sldO hx hb hX0 hbl hbA hS hin1 hs1 dL_law_431 ?_
  refine lv_aload_n hx hb dL_law_432 rfl (lv_at hl 3 rfl) ?_
  obtain ⟨z28, e_z28, h⟩ := bnd h
  refine mkI (cc_L_100 sv gx og hst S hK hN hC (hP.sub [0, 1, 2, 3, 4, 5, 6, 7, 8, 9, 10, 11, 12, 13, 14, 15, 16, 17, 18, 19, 20, 21, 22, 23, 24, 25, 31] rfl) (hD.sub [0, 1, 2, 3, 4, 5, 6, 7, 8, 9, 10, 11, 12, 13, 14, 15, 16, 17, 18, 19, 20, 21, 22, 23, 24, 25, 31] (by decide) rfl) hS hAB hB hX e_z28 hl.1 (Nat.le_of_ble_eq_true rfl) ⟨(Nat.le_of_ble_eq_true rfl), (Nat.le_of_ble_eq_true rfl)⟩ dL_law_433 ⟨by show _ ≤ 601024; omega, by show _ ≤ 7293034; omega⟩) hS hP hD hA [0, 1, 2, 3, 4, 5, 6, 7, 8, 9, 10, 11, 12, 13, 14, 15, 16, 17, 18, 19, 20, 21, 22, 23, 24, 25, 31] [26, 27, 28, 29, 30] rfl rfl (by decide) (by decide) [5, 6, 7, 8, 9, 10, 11, 12, 13, 14, 15, 16, 17, 18, 19, 20, 21, 22, 23, 24, 25, 26, 27, 28, 29, 30, 0, 1, 2, 3, 4, 31] (by decide) (wW cI cS cL sv gx gm og (z28.2.1, u.2.1, z28.2.2)) rfl (fun H locs hP hD hS => ?_)
  refine lv_istore (lv' := [(5, .int z28.1), (0, .ref b), (1, .ref (gx 0)), (2, .ref (gm 0)), (3, .ref og), (4, .int x4)]) hx hb dL_law_436 hl (by decide) rfl (fun ls hl => ?_)
  refine lv_aload_n hx hb dL_law_438 rfl (lv_at hl 3 rfl) ?_
  refine lv_aload_n hx hb dL_law_439 rfl (lv_at hl 1 rfl) ?_
  refine lv_iload hx hb dL_law_440 (lv_at hl 5 rfl) ?_
  refine lv_iconst (v := 1) hx hb dL_law_442 (by decide) ?_
  refine lv_iadd hx hb dL_law_443 ?_
  refine sldO hx hb hX0 hbl hbA hS hin1 hs1 dL_law_444 ?_
  obtain ⟨z29, e_z29, h⟩ := bnd h
  refine mkI (cc_L_102 gm S (hK.sub [0, 1] rfl) hN (hP.sub [26, 27, 28, 29, 30] rfl) (hD.sub [26, 27, 28, 29, 30] (by decide) rfl) e_z29 hl.1 (Nat.le_of_ble_eq_true rfl) ⟨(Nat.le_of_ble_eq_true rfl), (Nat.le_of_ble_eq_true rfl)⟩ dL_law_445 ⟨by show _ ≤ 601024; omega, by show _ ≤ 7293034; omega⟩) hS hP hD hA [26, 27, 28, 29, 30] [0, 1, 2, 3, 4, 5, 6, 7, 8, 9, 10, 11, 12, 13, 14, 15, 16, 17, 18, 19, 20, 21, 22, 23, 24, 25, 31] rfl rfl (by decide) (by decide) [0, 1, 2, 3, 4, 5, 6, 7, 8, 9, 10, 11, 12, 13, 14, 15, 16, 17, 18, 19, 20, 21, 22, 23, 24, 25, 27, 28, 29, 30, 31, 26] (by decide) (wW cI cS cL sv gx gm og (z28.2.1, z29.2, z28.2.2)) rfl (fun H locs hP hD hS => ?_)
  refine lv_istore (lv' := [(6, .int z29.1), (5, .int z28.1), (0, .ref b), (1, .ref (gx 0)), (2, .ref (gm 0)), (3, .ref og), (4, .int x4)]) hx hb dL_law_448 hl (by decide) rfl (fun ls hl => ?_)
  refine lv_aload_n hx hb dL_law_450 rfl (lv_at hl 4 rfl) ?_
  obtain ⟨z30, e_z30, h⟩ := bnd h
  refine roI (cc_L_82 gm S (hK.sub [0, 1] rfl) hN (hP.sub [26, 27, 28, 29, 30] rfl) e_z30 hl.1 (Nat.le_of_ble_eq_true rfl) ⟨(Nat.le_of_ble_eq_true rfl), (Nat.le_of_ble_eq_true rfl)⟩ dL_law_451 ⟨by show _ ≤ 601024; omega, by show _ ≤ 7293034; omega⟩) ?_
  refine lv_iload hx hb dL_law_454 (lv_at hl 1 rfl) ?_
  refine lv_icmp_eq (tgt := 461) hx hb dL_law_456 (by decide) (fun c31 => ?_) (fun c31 => ?_)
  · have h := (if_pos c31).symm.trans h
    refine lv_iload hx hb dL_law_461 (lv_at hl 1 rfl) ?_
    refine lv_if_ne (tgt := 478) hx hb dL_law_463 (by decide) (fun c32 => ?_) (fun c32 => ?_)
    · have h := (if_neg c32).symm.trans h
      refine lv_goto (tgt := 1493) hx hb dL_law_478 (by decide) ?_
      exact K _ (Option.some.inj h) _ _ _ _ _ (by omega) (by omega) hP hD hS (lv_sub hl [2, 3, 4, 5, 6] rfl)
    · have h := (if_pos c32).symm.trans h
      refine lv_aload_n hx hb dL_law_466 rfl (lv_at hl 5 rfl) ?_
      refine lv_iconst (v := 0) hx hb dL_law_467 (by decide) ?_
      refine va_lald (f := z28.2.2) hx hb hK hP 31 2 rfl rfl (vp_in_of_not (i := 0) (n := 1) (by decide)) dL_law_468 ?_
      refine lv_iload hx hb dL_law_469 (lv_at hl 0 rfl) ?_
      refine lv_i2l hx hb dL_law_471 rfl ?_
      refine W.lcmp hx hb dL_law_472 ?_
      refine lv_if_eq (tgt := 478) hx hb dL_law_473 (by decide) (fun c33 => ?_) (fun c33 => ?_)
      · have h := (if_pos c33).symm.trans h
        refine lv_goto (tgt := 1493) hx hb dL_law_478 (by decide) ?_
        exact K _ (Option.some.inj h) _ _ _ _ _ (by omega) (by omega) hP hD hS (lv_sub hl [2, 3, 4, 5, 6] rfl)
      · have h := (if_neg c33).symm.trans h
        refine lv_iconst (v := 0) hx hb dL_law_476 (by decide) ?_
        cases h
  · have h := (if_neg c31).symm.trans h
    refine lv_iconst (v := 0) hx hb dL_law_459 (by decide) ?_
    cases h
theorem cc_L_103 {p : Program} {l : Launch} {e : Env} {R : Room} {s : State} {m : MethodId} {args : Array Value} {below : List Frame} {meth : Method} {c : Code} {H : Heap} {locs : List Loc} {cells slots : Nat} {cc : ByteArray} {pc nL : Nat} {ls : Array Slot} {rest : List Value} {G : va_G} {A : Nat → Prop} (sv : Nat) (ga : Nat → Nat) {cI cS : ClassId} {u : THS}  {r : Int32 × THS} (S : CallFix p m c cc nL s args bwL RL) (hK : va_K G vwCl (tysW cI cS) s) (hN : NW s) (hP : va_P G vwCl (wHS cI cS sv ga u) H) (hD : va_D A (wHS cI cS sv ga u)) (hf : fX4_bringHome u = some r) (hsz : ls.size = nL) (hst : (rest.map fun v => v.category).sum ≤ 8) (hR : rmX4_bringHome.frames + 1 ≤ R.frames ∧ 8 + (1 + 11) + rmX4_bringHome.locals ≤ R.locals) (hdg : decode cc pc = .ok (.invokevirtual 103, 3)) (hcs : cells + 0 ≤ R.cells ∧ slots + 0 ≤ R.slots) : va_Run p l e R s m args below meth c H locs cells slots 0 0 (F0 m pc ls (.ref (ga 0) :: rest)) rest (va_Qi (fun r' u' => (r', u') = r) (PoM G (tysW cI cS) (va_A (wHS cI cS sv ga u) H.size) (wHS cI cS sv ga)) (va_A (wHS cI cS sv ga u) H.size) (#[.ref (ga 0)] : Array Value)) (va_A (wHS cI cS sv ga u) H.size) :=
  va_runV (As := []) (rest := rest) S (kX4_bringHome l G cI cS sv ga H.size u r hf) (cwV 0 S.2.2.2.2 (gdVL ql_119 ql_120 ql_121 (bwL_of q_76) (bwL_of q_297)) rfl rfl rfl (by decide +kernel) hR) (pvM (q := (RX4, TX4, 8)) hK hN hP hD (ci := 4) (q0 := 0) rfl rfl) rfl rfl hsz rfl (lv_room hst) hdg hcs
theorem cc_L_106 {p : Program} {l : Launch} {e : Env} {R : Room} {s : State} {m : MethodId} {args : Array Value} {below : List Frame} {meth : Method} {c : Code} {H : Heap} {locs : List Loc} {cells slots : Nat} {cc : ByteArray} {pc nL : Nat} {ls : Array Slot} {rest : List Value} {G : va_G} {A : Nat → Prop} (ga : Nat → Nat) {cI cS : ClassId} {u : TM}  {r : Int32 × TM} (S : CallFix p m c cc nL s args bwL RL) (hK : va_K G vwCl (tysW cI cS) s) (hN : NW s) (hP : va_P G vwCl (wM cI ga u) H) (hD : va_D A (wM cI ga u)) (hf : fX5_bringHome u = some r) (hsz : ls.size = nL) (hst : (rest.map fun v => v.category).sum ≤ 8) (hR : rmX5_bringHome.frames + 1 ≤ R.frames ∧ 8 + (1 + 11) + rmX5_bringHome.locals ≤ R.locals) (hdg : decode cc pc = .ok (.invokevirtual 106, 3)) (hcs : cells + 0 ≤ R.cells ∧ slots + 0 ≤ R.slots) : va_Run p l e R s m args below meth c H locs cells slots 0 0 (F0 m pc ls (.ref (ga 0) :: rest)) rest (va_Qi (fun r' u' => (r', u') = r) (PoM G (tysW cI cS) (va_A (wM cI ga u) H.size) (wM cI ga)) (va_A (wM cI ga u) H.size) (#[.ref (ga 0)] : Array Value)) (va_A (wM cI ga u) H.size) :=
  va_runV (As := []) (rest := rest) S (kX5_bringHome l G cI cS ga H.size u r hf) (cwV 0 S.2.2.2.2 (gdVL ql_122 ql_123 ql_124 (bwL_of q_392) (bwL_of q_561)) rfl rfl rfl (by decide +kernel) hR) (pvM (q := (RX5, TX5, 12)) hK hN hP hD (ci := 5) (q0 := 0) rfl rfl) rfl rfl hsz rfl (lv_room hst) hdg hcs

def fLc_6 (u : THS × TM × OutR) (a1 a2 : Int32) : Option (THS × TM × OutR) := ((fX4_bringHome u.1).bind fun z34 => ((fX5_bringHome u.2.1).bind fun z35 => (if z34.1 = z35.1 then some (z34.2, z35.2, u.2.2) else none)))
set_option maxRecDepth 100000 in
set_option maxHeartbeats 4000000 in
theorem kLc_6 {p : Program} {l : Launch} {e : Env} {s : State} {m : MethodId} {args : Array Value} {below : List Frame} {meth : Method} {c : Code} {Q : State → Prop} {b L : Nat} {xs : Nat → Int32} {G : va_G} {cI cS cL : ClassId} {A : Nat → Prop} {B0 : Nat} (C0 : LawC p l s m args c b L xs G cI cS cL A B0) (sv : Nat) (gx gm : Nat → Nat) (og : Nat) (u : THS × TM × OutR) (x4 a1 a2 : Int32) (u' : THS × TM × OutR) (hf : fLc_6 u a1 a2 = some u') (hin1 : vp_in (x4 + (1 : Int32)) L) (hin2 : vp_in (x4 + (2 : Int32)) L) (hs1 : xs (x4 + (1 : Int32)).toNatClampNeg = a1) (hs2 : xs (x4 + (2 : Int32)).toNatClampNeg = a2) (cells slots : Nat) (hc9 : cells + 2 ≤ 601024) (hs9 : slots + 12 ≤ 7293034)
    (K : ∀ (v : THS × TM × OutR), v = u' → ∀ (H : Heap) (locs : List Loc) (ls : Array Slot) (cells' slots' : Nat), cells' ≤ cells + 2 → slots' ≤ slots + 12 → va_P G vwCl (wW cI cS cL sv gx gm og v) H → va_D A (wW cI cS cL sv gx gm og v) → va_S A s.heap H locs → lv_has ls 9 [(0, .ref b), (1, .ref (gx 0)), (2, .ref (gm 0)), (3, .ref og), (4, .int x4)] → W p l e room_1 s m args below meth c H locs cells' slots' Q (F0 m 1493 ls []))
    (H : Heap) (locs : List Loc) (ls : Array Slot) (hP : va_P G vwCl (wW cI cS cL sv gx gm og u) H) (hD : va_D A (wW cI cS cL sv gx gm og u)) (hS : va_S A s.heap H locs) (hl : lv_has ls 9 [(0, .ref b), (1, .ref (gx 0)), (2, .ref (gm 0)), (3, .ref og), (4, .int x4)]) : W p l e room_1 s m args below meth c H locs cells slots Q (F0 m 481 ls []) := by
  obtain ⟨hst, S, hK, hN, hC, hA, hAB, hB, hX, hX0, hbl, hbA⟩ := C0
  have hx := S.1; have hb := S.2.1; have hml := S.2.2.1; have hown := S.2.2.2.1; have hq := S.2.2.2.2
  have h := hf
  unfold fLc_6 at h
  refine lv_aload_n hx hb dL_law_481 rfl (lv_at hl 1 rfl) ?_
  obtain ⟨z34, e_z34, h⟩ := bnd h
  refine mkI (cc_L_103 sv gx S (hK.sub [0, 1] rfl) hN (hP.sub [0, 1, 2, 3, 4, 5, 6, 7, 8, 9, 10, 11, 12, 13, 14, 15, 16, 17, 18, 19, 20, 21, 22, 23, 24, 25] rfl) (hD.sub [0, 1, 2, 3, 4, 5, 6, 7, 8, 9, 10, 11, 12, 13, 14, 15, 16, 17, 18, 19, 20, 21, 22, 23, 24, 25] (by decide) rfl) e_z34 hl.1 (Nat.le_of_ble_eq_true rfl) ⟨(Nat.le_of_ble_eq_true rfl), (Nat.le_of_ble_eq_true rfl)⟩ dL_law_482 ⟨by show _ ≤ 601024; omega, by show _ ≤ 7293034; omega⟩) hS hP hD hA [0, 1, 2, 3, 4, 5, 6, 7, 8, 9, 10, 11, 12, 13, 14, 15, 16, 17, 18, 19, 20, 21, 22, 23, 24, 25] [26, 27, 28, 29, 30, 31] rfl rfl (by decide) (by decide) [6, 7, 8, 9, 10, 11, 12, 13, 14, 15, 16, 17, 18, 19, 20, 21, 22, 23, 24, 25, 26, 27, 28, 29, 30, 31, 0, 1, 2, 3, 4, 5] (by decide) (wW cI cS cL sv gx gm og (z34.2, u.2)) rfl (fun H locs hP hD hS => ?_)
  refine lv_aload_n hx hb dL_law_485 rfl (lv_at hl 2 rfl) ?_
  obtain ⟨z35, e_z35, h⟩ := bnd h
  refine mkI (cc_L_106 gm S (hK.sub [0, 1] rfl) hN (hP.sub [26, 27, 28, 29, 30] rfl) (hD.sub [26, 27, 28, 29, 30] (by decide) rfl) e_z35 hl.1 (Nat.le_of_ble_eq_true rfl) ⟨(Nat.le_of_ble_eq_true rfl), (Nat.le_of_ble_eq_true rfl)⟩ dL_law_486 ⟨by show _ ≤ 601024; omega, by show _ ≤ 7293034; omega⟩) hS hP hD hA [26, 27, 28, 29, 30] [0, 1, 2, 3, 4, 5, 6, 7, 8, 9, 10, 11, 12, 13, 14, 15, 16, 17, 18, 19, 20, 21, 22, 23, 24, 25, 31] rfl rfl (by decide) (by decide) [0, 1, 2, 3, 4, 5, 6, 7, 8, 9, 10, 11, 12, 13, 14, 15, 16, 17, 18, 19, 20, 21, 22, 23, 24, 25, 27, 28, 29, 30, 31, 26] (by decide) (wW cI cS cL sv gx gm og (z34.2, z35.2, u.2.2)) rfl (fun H locs hP hD hS => ?_)
  refine lv_icmp_eq (tgt := 1493) hx hb dL_law_489 (by decide) (fun c36 => ?_) (fun c36 => ?_)
  · have h := (if_pos c36).symm.trans h
    exact K _ (Option.some.inj h) _ _ _ _ _ (by omega) (by omega) hP hD hS (lv_sub hl [0, 1, 2, 3, 4] rfl)
  · have h := (if_neg c36).symm.trans h
    refine lv_iconst (v := 0) hx hb dL_law_492 (by decide) ?_
    cases h
theorem cc_L_107 {p : Program} {l : Launch} {e : Env} {R : Room} {s : State} {m : MethodId} {args : Array Value} {below : List Frame} {meth : Method} {c : Code} {H : Heap} {locs : List Loc} {cells slots : Nat} {cc : ByteArray} {pc nL : Nat} {ls : Array Slot} {rest : List Value} {G : va_G} {A : Nat → Prop} {B0 : Nat} (sv : Nat) (gx : Nat → Nat) (og : Nat) {cI cS cL : ClassId} {u : THS × OutR} {p0 : Int32} {r : Int32 × (THS × OutR)} (hst : l.stackTraces = false) (S : CallFix p m c cc nL s args bwL RL) (hK : va_K G vwCl (tysL cI cS cL) s) (hN : NW s) (hC : NC s) (hP : va_P G vwCl (wO cI cS cL sv gx og u) H) (hD : va_D A (wO cI cS cL sv gx og u)) (hS : va_S A s.heap H locs) (hAB : ∀ q, A q → B0 ≤ q) (hB : B0 ≤ s.heap.size) (hX : XT B0 s s.heap) (hf : fL_compact u p0 = some r) (hsz : ls.size = nL) (hsk : (rest.map fun v => v.category).sum ≤ 8) (hR : rmL_compact.frames + 1 ≤ R.frames ∧ 8 + (4 + 11) + rmL_compact.locals ≤ R.locals) (hdg : decode cc pc = .ok (.invokestatic 107, 3)) (hcs : cells + 1 ≤ R.cells ∧ slots + 6 ≤ R.slots) : va_Run p l e R s m args below meth c H locs cells slots 1 6 (F0 m pc ls (.ref og :: .int p0 :: .ref (gx 0) :: rest)) rest (va_Qi (fun r' u' => (r', u') = r) (PoM G (tysL cI cS cL) (va_A (wO cI cS cL sv gx og u) H.size) (wO cI cS cL sv gx og)) (va_A (wO cI cS cL sv gx og u) H.size) (#[.ref (gx 0), .int p0, .ref og] : Array Value)) (va_A (wO cI cS cL sv gx og u) H.size) :=
  vx_runSW (As := [.ref (gx 0), .int p0, .ref og]) (rest := rest) S (kL_compact l hst G cI cS cL sv gx og H.size B0 u p0 r hf) (vx_cwSW 3 S.2.2.2.2 (gdWL ql_125 ql_126 ql_86 ql_26) rfl rfl rfl (by decide +kernel) hR) (psL hK hN hC hP hD hS hAB hB hX) rfl rfl hsz rfl (lv_room hsk) hdg hcs
theorem cc_L_109 {p : Program} {l : Launch} {e : Env} {R : Room} {s : State} {m : MethodId} {args : Array Value} {below : List Frame} {meth : Method} {c : Code} {H : Heap} {locs : List Loc} {cells slots : Nat} {cc : ByteArray} {pc nL : Nat} {ls : Array Slot} {rest : List Value} {G : va_G} {A : Nat → Prop} (ga : Nat → Nat) {cI cS : ClassId} {u : TM}  {p0 : Int32} {r : Int32 × TM} (S : CallFix p m c cc nL s args bwL RL) (hK : va_K G vwCl (tysW cI cS) s) (hN : NW s) (hP : va_P G vwCl (wM cI ga u) H) (hD : va_D A (wM cI ga u)) (hf : fX5_compact u p0 = some r) (hsz : ls.size = nL) (hst : (rest.map fun v => v.category).sum ≤ 8) (hR : rmX5_compact.frames + 1 ≤ R.frames ∧ 8 + (2 + 11) + rmX5_compact.locals ≤ R.locals) (hdg : decode cc pc = .ok (.invokevirtual 109, 3)) (hcs : cells + 0 ≤ R.cells ∧ slots + 0 ≤ R.slots) : va_Run p l e R s m args below meth c H locs cells slots 0 0 (F0 m pc ls (.int p0 :: .ref (ga 0) :: rest)) rest (va_Qi (fun r' u' => (r', u') = r) (PoM G (tysW cI cS) (va_A (wM cI ga u) H.size) (wM cI ga)) (va_A (wM cI ga u) H.size) (#[.ref (ga 0), .int p0] : Array Value)) (va_A (wM cI ga u) H.size) :=
  va_runV (As := [.int p0]) (rest := rest) S (kX5_compact l G cI cS ga H.size u p0 r hf) (cwV 1 S.2.2.2.2 (gdVL ql_127 ql_128 ql_129 (bwL_of q_392) (bwL_of q_566)) rfl rfl rfl (by decide +kernel) hR) (pvM (q := (RX5, TX5, 12)) hK hN hP hD (ci := 5) (q0 := 0) rfl rfl) rfl rfl hsz rfl (lv_room hst) hdg hcs

def fLc_7 (u : THS × TM × OutR) (a1 a2 : Int32) : Option (THS × TM × OutR) := ((fL_compact (u.1, u.2.2) a1).bind fun z37 => ((fX5_compact u.2.1 a1).bind fun z38 => ((fX5_thrown z38.2).bind fun z39 => (if z39 = z37.1 then (if z37.1 = 0 then (if (lg_cmp (z37.2.2 (0 : Int32).toNatClampNeg) z38.1.toInt64) = 0 then some (z37.2.1, z38.2, z37.2.2) else none) else some (z37.2.1, z38.2, z37.2.2)) else none))))
set_option maxRecDepth 100000 in
set_option maxHeartbeats 4000000 in
theorem kLc_7 {p : Program} {l : Launch} {e : Env} {s : State} {m : MethodId} {args : Array Value} {below : List Frame} {meth : Method} {c : Code} {Q : State → Prop} {b L : Nat} {xs : Nat → Int32} {G : va_G} {cI cS cL : ClassId} {A : Nat → Prop} {B0 : Nat} (C0 : LawC p l s m args c b L xs G cI cS cL A B0) (sv : Nat) (gx gm : Nat → Nat) (og : Nat) (u : THS × TM × OutR) (x4 a1 a2 : Int32) (u' : THS × TM × OutR) (hf : fLc_7 u a1 a2 = some u') (hin1 : vp_in (x4 + (1 : Int32)) L) (hin2 : vp_in (x4 + (2 : Int32)) L) (hs1 : xs (x4 + (1 : Int32)).toNatClampNeg = a1) (hs2 : xs (x4 + (2 : Int32)).toNatClampNeg = a2) (cells slots : Nat) (hc9 : cells + 2 ≤ 601024) (hs9 : slots + 12 ≤ 7293034)
    (K : ∀ (v : THS × TM × OutR), v = u' → ∀ (H : Heap) (locs : List Loc) (ls : Array Slot) (cells' slots' : Nat), cells' ≤ cells + 2 → slots' ≤ slots + 12 → va_P G vwCl (wW cI cS cL sv gx gm og v) H → va_D A (wW cI cS cL sv gx gm og v) → va_S A s.heap H locs → lv_has ls 9 [(0, .ref b), (1, .ref (gx 0)), (2, .ref (gm 0)), (3, .ref og), (4, .int x4)] → W p l e room_1 s m args below meth c H locs cells' slots' Q (F0 m 1493 ls []))
    (H : Heap) (locs : List Loc) (ls : Array Slot) (hP : va_P G vwCl (wW cI cS cL sv gx gm og u) H) (hD : va_D A (wW cI cS cL sv gx gm og u)) (hS : va_S A s.heap H locs) (hl : lv_has ls 9 [(0, .ref b), (1, .ref (gx 0)), (2, .ref (gm 0)), (3, .ref og), (4, .int x4)]) : W p l e room_1 s m args below meth c H locs cells slots Q (F0 m 494 ls []) := by
  obtain ⟨hst, S, hK, hN, hC, hA, hAB, hB, hX, hX0, hbl, hbA⟩ := C0
  have hx := S.1; have hb := S.2.1; have hml := S.2.2.1; have hown := S.2.2.2.1; have hq := S.2.2.2.2
  have h := hf
  unfold fLc_7 at h
  refine lv_aload_n hx hb dL_law_494 rfl (lv_at hl 1 rfl) ?_
  refine lv_aload_n hx hb dL_law_495 rfl (lv_at hl 0 rfl) ?_
  refine lv_iload hx hb dL_law_496 (lv_at hl 4 rfl) ?_
  refine lv_iconst (v := 1) hx hb dL_law_498 (by decide) ?_
  refine lv_iadd hx hb dL_law_499 ?_
  refine sldO hx hb hX0 hbl hbA hS hin1 hs1 dL_law_500 ?_
  refine lv_aload_n hx hb dL_law_501 rfl (lv_at hl 3 rfl) ?_
  obtain ⟨z37, e_z37, h⟩ := bnd h
  refine mkI (cc_L_107 sv gx og hst S hK hN hC (hP.sub [0, 1, 2, 3, 4, 5, 6, 7, 8, 9, 10, 11, 12, 13, 14, 15, 16, 17, 18, 19, 20, 21, 22, 23, 24, 25, 31] rfl) (hD.sub [0, 1, 2, 3, 4, 5, 6, 7, 8, 9, 10, 11, 12, 13, 14, 15, 16, 17, 18, 19, 20, 21, 22, 23, 24, 25, 31] (by decide) rfl) hS hAB hB hX e_z37 hl.1 (Nat.le_of_ble_eq_true rfl) ⟨(Nat.le_of_ble_eq_true rfl), (Nat.le_of_ble_eq_true rfl)⟩ dL_law_502 ⟨by show _ ≤ 601024; omega, by show _ ≤ 7293034; omega⟩) hS hP hD hA [0, 1, 2, 3, 4, 5, 6, 7, 8, 9, 10, 11, 12, 13, 14, 15, 16, 17, 18, 19, 20, 21, 22, 23, 24, 25, 31] [26, 27, 28, 29, 30] rfl rfl (by decide) (by decide) [5, 6, 7, 8, 9, 10, 11, 12, 13, 14, 15, 16, 17, 18, 19, 20, 21, 22, 23, 24, 25, 26, 27, 28, 29, 30, 0, 1, 2, 3, 4, 31] (by decide) (wW cI cS cL sv gx gm og (z37.2.1, u.2.1, z37.2.2)) rfl (fun H locs hP hD hS => ?_)
  refine lv_istore (lv' := [(5, .int z37.1), (0, .ref b), (1, .ref (gx 0)), (2, .ref (gm 0)), (3, .ref og), (4, .int x4)]) hx hb dL_law_505 hl (by decide) rfl (fun ls hl => ?_)
  refine lv_aload_n hx hb dL_law_507 rfl (lv_at hl 3 rfl) ?_
  refine lv_aload_n hx hb dL_law_508 rfl (lv_at hl 1 rfl) ?_
  refine lv_iload hx hb dL_law_509 (lv_at hl 5 rfl) ?_
  refine lv_iconst (v := 1) hx hb dL_law_511 (by decide) ?_
  refine lv_iadd hx hb dL_law_512 ?_
  refine sldO hx hb hX0 hbl hbA hS hin1 hs1 dL_law_513 ?_
  obtain ⟨z38, e_z38, h⟩ := bnd h
  refine mkI (cc_L_109 gm S (hK.sub [0, 1] rfl) hN (hP.sub [26, 27, 28, 29, 30] rfl) (hD.sub [26, 27, 28, 29, 30] (by decide) rfl) e_z38 hl.1 (Nat.le_of_ble_eq_true rfl) ⟨(Nat.le_of_ble_eq_true rfl), (Nat.le_of_ble_eq_true rfl)⟩ dL_law_514 ⟨by show _ ≤ 601024; omega, by show _ ≤ 7293034; omega⟩) hS hP hD hA [26, 27, 28, 29, 30] [0, 1, 2, 3, 4, 5, 6, 7, 8, 9, 10, 11, 12, 13, 14, 15, 16, 17, 18, 19, 20, 21, 22, 23, 24, 25, 31] rfl rfl (by decide) (by decide) [0, 1, 2, 3, 4, 5, 6, 7, 8, 9, 10, 11, 12, 13, 14, 15, 16, 17, 18, 19, 20, 21, 22, 23, 24, 25, 27, 28, 29, 30, 31, 26] (by decide) (wW cI cS cL sv gx gm og (z37.2.1, z38.2, z37.2.2)) rfl (fun H locs hP hD hS => ?_)
  refine lv_istore (lv' := [(6, .int z38.1), (5, .int z37.1), (0, .ref b), (1, .ref (gx 0)), (2, .ref (gm 0)), (3, .ref og), (4, .int x4)]) hx hb dL_law_517 hl (by decide) rfl (fun ls hl => ?_)
  refine lv_aload_n hx hb dL_law_519 rfl (lv_at hl 4 rfl) ?_
  obtain ⟨z39, e_z39, h⟩ := bnd h
  refine roI (cc_L_82 gm S (hK.sub [0, 1] rfl) hN (hP.sub [26, 27, 28, 29, 30] rfl) e_z39 hl.1 (Nat.le_of_ble_eq_true rfl) ⟨(Nat.le_of_ble_eq_true rfl), (Nat.le_of_ble_eq_true rfl)⟩ dL_law_520 ⟨by show _ ≤ 601024; omega, by show _ ≤ 7293034; omega⟩) ?_
  refine lv_iload hx hb dL_law_523 (lv_at hl 1 rfl) ?_
  refine lv_icmp_eq (tgt := 530) hx hb dL_law_525 (by decide) (fun c40 => ?_) (fun c40 => ?_)
  · have h := (if_pos c40).symm.trans h
    refine lv_iload hx hb dL_law_530 (lv_at hl 1 rfl) ?_
    refine lv_if_ne (tgt := 547) hx hb dL_law_532 (by decide) (fun c41 => ?_) (fun c41 => ?_)
    · have h := (if_neg c41).symm.trans h
      refine lv_goto (tgt := 1493) hx hb dL_law_547 (by decide) ?_
      exact K _ (Option.some.inj h) _ _ _ _ _ (by omega) (by omega) hP hD hS (lv_sub hl [2, 3, 4, 5, 6] rfl)
    · have h := (if_pos c41).symm.trans h
      refine lv_aload_n hx hb dL_law_535 rfl (lv_at hl 5 rfl) ?_
      refine lv_iconst (v := 0) hx hb dL_law_536 (by decide) ?_
      refine va_lald (f := z37.2.2) hx hb hK hP 31 2 rfl rfl (vp_in_of_not (i := 0) (n := 1) (by decide)) dL_law_537 ?_
      refine lv_iload hx hb dL_law_538 (lv_at hl 0 rfl) ?_
      refine lv_i2l hx hb dL_law_540 rfl ?_
      refine W.lcmp hx hb dL_law_541 ?_
      refine lv_if_eq (tgt := 547) hx hb dL_law_542 (by decide) (fun c42 => ?_) (fun c42 => ?_)
      · have h := (if_pos c42).symm.trans h
        refine lv_goto (tgt := 1493) hx hb dL_law_547 (by decide) ?_
        exact K _ (Option.some.inj h) _ _ _ _ _ (by omega) (by omega) hP hD hS (lv_sub hl [2, 3, 4, 5, 6] rfl)
      · have h := (if_neg c42).symm.trans h
        refine lv_iconst (v := 0) hx hb dL_law_545 (by decide) ?_
        cases h
  · have h := (if_neg c40).symm.trans h
    refine lv_iconst (v := 0) hx hb dL_law_528 (by decide) ?_
    cases h
theorem cc_L_110 {p : Program} {l : Launch} {e : Env} {R : Room} {s : State} {m : MethodId} {args : Array Value} {below : List Frame} {meth : Method} {c : Code} {H : Heap} {locs : List Loc} {cells slots : Nat} {cc : ByteArray} {pc nL : Nat} {ls : Array Slot} {rest : List Value} {G : va_G} (sv : Nat) (ga : Nat → Nat) {cI cS : ClassId} {u : TH}  {r : Int32} (S : CallFix p m c cc nL s args bwL RL) (hK : va_K G vwCl (tysW cI cS) s) (hN : NW s) (hP : va_P G vwCl (wH cI sv ga u) H) (hf : fX4_rows u = some r) (hsz : ls.size = nL) (hst : (rest.map fun v => v.category).sum ≤ 8) (hR : rmX4_rows.frames + 1 ≤ R.frames ∧ 8 + (1 + 11) + rmX4_rows.locals ≤ R.locals) (hdg : decode cc pc = .ok (.invokevirtual 110, 3)) (hcs : cells + 0 ≤ R.cells ∧ slots + 0 ≤ R.slots) : va_Run p l e R s m args below meth c H locs cells slots 0 0 (F0 m pc ls (.ref (ga 0) :: rest)) rest (vp_Si (fun r' => r' = r) (#[.ref (ga 0)] : Array Value)) (fun _ => False) :=
  va_runV (As := []) (rest := rest) S (kX4_rows l G cI cS sv ga u r hf) (cwV 0 S.2.2.2.2 (gdVL ql_130 (bwL_of q_365) (bwL_of q_366) (bwL_of q_76) (bwL_of q_307)) rfl rfl rfl (by decide +kernel) hR) (pvR (q := (RX4, TX4, 8)) hK hN hP (ci := 4) (q0 := 0) rfl rfl) rfl rfl hsz rfl (lv_room hst) hdg hcs
theorem cc_L_113 {p : Program} {l : Launch} {e : Env} {R : Room} {s : State} {m : MethodId} {args : Array Value} {below : List Frame} {meth : Method} {c : Code} {H : Heap} {locs : List Loc} {cells slots : Nat} {cc : ByteArray} {pc nL : Nat} {ls : Array Slot} {rest : List Value} {G : va_G} {A : Nat → Prop} (ga : Nat → Nat) {cI cS : ClassId} {u : TM}  {r : Int32 × TM} (S : CallFix p m c cc nL s args bwL RL) (hK : va_K G vwCl (tysW cI cS) s) (hN : NW s) (hP : va_P G vwCl (wM cI ga u) H) (hD : va_D A (wM cI ga u)) (hf : fX5_rows u = some r) (hsz : ls.size = nL) (hst : (rest.map fun v => v.category).sum ≤ 8) (hR : rmX5_rows.frames + 1 ≤ R.frames ∧ 8 + (1 + 11) + rmX5_rows.locals ≤ R.locals) (hdg : decode cc pc = .ok (.invokevirtual 113, 3)) (hcs : cells + 0 ≤ R.cells ∧ slots + 0 ≤ R.slots) : va_Run p l e R s m args below meth c H locs cells slots 0 0 (F0 m pc ls (.ref (ga 0) :: rest)) rest (va_Qi (fun r' u' => (r', u') = r) (PoM G (tysW cI cS) (va_A (wM cI ga u) H.size) (wM cI ga)) (va_A (wM cI ga u) H.size) (#[.ref (ga 0)] : Array Value)) (va_A (wM cI ga u) H.size) :=
  va_runV (As := []) (rest := rest) S (kX5_rows l G cI cS ga H.size u r hf) (cwV 0 S.2.2.2.2 (gdVL ql_131 ql_132 ql_133 (bwL_of q_392) (bwL_of q_568)) rfl rfl rfl (by decide +kernel) hR) (pvM (q := (RX5, TX5, 12)) hK hN hP hD (ci := 5) (q0 := 0) rfl rfl) rfl rfl hsz rfl (lv_room hst) hdg hcs

def fLc_8 (u : THS × TM × OutR) (a1 a2 : Int32) : Option (THS × TM × OutR) := ((fX4_rows u.1.1).bind fun z43 => ((fX5_rows u.2.1).bind fun z44 => (if z43 = z44.1 then some (u.1, z44.2, u.2.2) else none)))
set_option maxRecDepth 100000 in
set_option maxHeartbeats 4000000 in
theorem kLc_8 {p : Program} {l : Launch} {e : Env} {s : State} {m : MethodId} {args : Array Value} {below : List Frame} {meth : Method} {c : Code} {Q : State → Prop} {b L : Nat} {xs : Nat → Int32} {G : va_G} {cI cS cL : ClassId} {A : Nat → Prop} {B0 : Nat} (C0 : LawC p l s m args c b L xs G cI cS cL A B0) (sv : Nat) (gx gm : Nat → Nat) (og : Nat) (u : THS × TM × OutR) (x4 a1 a2 : Int32) (u' : THS × TM × OutR) (hf : fLc_8 u a1 a2 = some u') (hin1 : vp_in (x4 + (1 : Int32)) L) (hin2 : vp_in (x4 + (2 : Int32)) L) (hs1 : xs (x4 + (1 : Int32)).toNatClampNeg = a1) (hs2 : xs (x4 + (2 : Int32)).toNatClampNeg = a2) (cells slots : Nat) (hc9 : cells + 2 ≤ 601024) (hs9 : slots + 12 ≤ 7293034)
    (K : ∀ (v : THS × TM × OutR), v = u' → ∀ (H : Heap) (locs : List Loc) (ls : Array Slot) (cells' slots' : Nat), cells' ≤ cells + 2 → slots' ≤ slots + 12 → va_P G vwCl (wW cI cS cL sv gx gm og v) H → va_D A (wW cI cS cL sv gx gm og v) → va_S A s.heap H locs → lv_has ls 9 [(0, .ref b), (1, .ref (gx 0)), (2, .ref (gm 0)), (3, .ref og), (4, .int x4)] → W p l e room_1 s m args below meth c H locs cells' slots' Q (F0 m 1493 ls []))
    (H : Heap) (locs : List Loc) (ls : Array Slot) (hP : va_P G vwCl (wW cI cS cL sv gx gm og u) H) (hD : va_D A (wW cI cS cL sv gx gm og u)) (hS : va_S A s.heap H locs) (hl : lv_has ls 9 [(0, .ref b), (1, .ref (gx 0)), (2, .ref (gm 0)), (3, .ref og), (4, .int x4)]) : W p l e room_1 s m args below meth c H locs cells slots Q (F0 m 550 ls []) := by
  obtain ⟨hst, S, hK, hN, hC, hA, hAB, hB, hX, hX0, hbl, hbA⟩ := C0
  have hx := S.1; have hb := S.2.1; have hml := S.2.2.1; have hown := S.2.2.2.1; have hq := S.2.2.2.2
  have h := hf
  unfold fLc_8 at h
  refine lv_aload_n hx hb dL_law_550 rfl (lv_at hl 1 rfl) ?_
  obtain ⟨z43, e_z43, h⟩ := bnd h
  refine roI (cc_L_110 sv gx S (hK.sub [0, 1] rfl) hN (hP.sub [0, 1, 2, 3, 4, 5, 6, 7, 8, 9, 10, 11, 12] rfl) e_z43 hl.1 (Nat.le_of_ble_eq_true rfl) ⟨(Nat.le_of_ble_eq_true rfl), (Nat.le_of_ble_eq_true rfl)⟩ dL_law_551 ⟨by show _ ≤ 601024; omega, by show _ ≤ 7293034; omega⟩) ?_
  refine lv_aload_n hx hb dL_law_554 rfl (lv_at hl 2 rfl) ?_
  obtain ⟨z44, e_z44, h⟩ := bnd h
  refine mkI (cc_L_113 gm S (hK.sub [0, 1] rfl) hN (hP.sub [26, 27, 28, 29, 30] rfl) (hD.sub [26, 27, 28, 29, 30] (by decide) rfl) e_z44 hl.1 (Nat.le_of_ble_eq_true rfl) ⟨(Nat.le_of_ble_eq_true rfl), (Nat.le_of_ble_eq_true rfl)⟩ dL_law_555 ⟨by show _ ≤ 601024; omega, by show _ ≤ 7293034; omega⟩) hS hP hD hA [26, 27, 28, 29, 30] [0, 1, 2, 3, 4, 5, 6, 7, 8, 9, 10, 11, 12, 13, 14, 15, 16, 17, 18, 19, 20, 21, 22, 23, 24, 25, 31] rfl rfl (by decide) (by decide) [0, 1, 2, 3, 4, 5, 6, 7, 8, 9, 10, 11, 12, 13, 14, 15, 16, 17, 18, 19, 20, 21, 22, 23, 24, 25, 27, 28, 29, 30, 31, 26] (by decide) (wW cI cS cL sv gx gm og (u.1, z44.2, u.2.2)) rfl (fun H locs hP hD hS => ?_)
  refine lv_icmp_eq (tgt := 1493) hx hb dL_law_558 (by decide) (fun c45 => ?_) (fun c45 => ?_)
  · have h := (if_pos c45).symm.trans h
    exact K _ (Option.some.inj h) _ _ _ _ _ (by omega) (by omega) hP hD hS (lv_sub hl [0, 1, 2, 3, 4] rfl)
  · have h := (if_neg c45).symm.trans h
    refine lv_iconst (v := 0) hx hb dL_law_561 (by decide) ?_
    cases h
theorem cc_L_114 {p : Program} {l : Launch} {e : Env} {R : Room} {s : State} {m : MethodId} {args : Array Value} {below : List Frame} {meth : Method} {c : Code} {H : Heap} {locs : List Loc} {cells slots : Nat} {cc : ByteArray} {pc nL : Nat} {ls : Array Slot} {rest : List Value} {G : va_G} (sv : Nat) (ga : Nat → Nat) {cI cS : ClassId} {u : TH}  {p0 : Int32} {r : Int32} (S : CallFix p m c cc nL s args bwL RL) (hK : va_K G vwCl (tysW cI cS) s) (hN : NW s) (hP : va_P G vwCl (wH cI sv ga u) H) (hf : fX4_isRow u p0 = some r) (hsz : ls.size = nL) (hst : (rest.map fun v => v.category).sum ≤ 8) (hR : rmX4_isRow.frames + 1 ≤ R.frames ∧ 8 + (3 + 11) + rmX4_isRow.locals ≤ R.locals) (hdg : decode cc pc = .ok (.invokevirtual 114, 3)) (hcs : cells + 0 ≤ R.cells ∧ slots + 0 ≤ R.slots) : va_Run p l e R s m args below meth c H locs cells slots 0 0 (F0 m pc ls (.int p0 :: .ref (ga 0) :: rest)) rest (vp_Si (fun r' => r' = r) (#[.ref (ga 0), .int p0] : Array Value)) (fun _ => False) :=
  va_runV (As := [.int p0]) (rest := rest) S (kX4_isRow l G cI cS sv ga u p0 r hf) (cwV 1 S.2.2.2.2 (gdVL ql_134 (bwL_of q_218) (bwL_of q_219) (bwL_of q_76) (bwL_of q_214)) rfl rfl rfl (by decide +kernel) hR) (pvR (q := (RX4, TX4, 8)) hK hN hP (ci := 4) (q0 := 0) rfl rfl) rfl rfl hsz rfl (lv_room hst) hdg hcs
theorem cc_L_118 {p : Program} {l : Launch} {e : Env} {R : Room} {s : State} {m : MethodId} {args : Array Value} {below : List Frame} {meth : Method} {c : Code} {H : Heap} {locs : List Loc} {cells slots : Nat} {cc : ByteArray} {pc nL : Nat} {ls : Array Slot} {rest : List Value} {G : va_G} {A : Nat → Prop} (ga : Nat → Nat) {cI cS : ClassId} {u : TM}  {p0 : Int32} {r : Int32 × TM} (S : CallFix p m c cc nL s args bwL RL) (hK : va_K G vwCl (tysW cI cS) s) (hN : NW s) (hP : va_P G vwCl (wM cI ga u) H) (hD : va_D A (wM cI ga u)) (hf : fX5_isRow u p0 = some r) (hsz : ls.size = nL) (hst : (rest.map fun v => v.category).sum ≤ 8) (hR : rmX5_isRow.frames + 1 ≤ R.frames ∧ 8 + (2 + 11) + rmX5_isRow.locals ≤ R.locals) (hdg : decode cc pc = .ok (.invokevirtual 118, 3)) (hcs : cells + 0 ≤ R.cells ∧ slots + 0 ≤ R.slots) : va_Run p l e R s m args below meth c H locs cells slots 0 0 (F0 m pc ls (.int p0 :: .ref (ga 0) :: rest)) rest (va_Qi (fun r' u' => (r', u') = r) (PoM G (tysW cI cS) (va_A (wM cI ga u) H.size) (wM cI ga)) (va_A (wM cI ga u) H.size) (#[.ref (ga 0), .int p0] : Array Value)) (va_A (wM cI ga u) H.size) :=
  va_runV (As := [.int p0]) (rest := rest) S (kX5_isRow l G cI cS ga H.size u p0 r hf) (cwV 1 S.2.2.2.2 (gdVL ql_135 ql_136 ql_137 (bwL_of q_392) (bwL_of q_572)) rfl rfl rfl (by decide +kernel) hR) (pvM (q := (RX5, TX5, 12)) hK hN hP hD (ci := 5) (q0 := 0) rfl rfl) rfl rfl hsz rfl (lv_room hst) hdg hcs

def fLc_9 (u : THS × TM × OutR) (a1 a2 : Int32) : Option (THS × TM × OutR) := ((fX4_isRow u.1.1 a1).bind fun z46 => ((fX5_isRow u.2.1 a1).bind fun z47 => (if z46 = z47.1 then some (u.1, z47.2, u.2.2) else none)))
set_option maxRecDepth 100000 in
set_option maxHeartbeats 4000000 in
theorem kLc_9 {p : Program} {l : Launch} {e : Env} {s : State} {m : MethodId} {args : Array Value} {below : List Frame} {meth : Method} {c : Code} {Q : State → Prop} {b L : Nat} {xs : Nat → Int32} {G : va_G} {cI cS cL : ClassId} {A : Nat → Prop} {B0 : Nat} (C0 : LawC p l s m args c b L xs G cI cS cL A B0) (sv : Nat) (gx gm : Nat → Nat) (og : Nat) (u : THS × TM × OutR) (x4 a1 a2 : Int32) (u' : THS × TM × OutR) (hf : fLc_9 u a1 a2 = some u') (hin1 : vp_in (x4 + (1 : Int32)) L) (hin2 : vp_in (x4 + (2 : Int32)) L) (hs1 : xs (x4 + (1 : Int32)).toNatClampNeg = a1) (hs2 : xs (x4 + (2 : Int32)).toNatClampNeg = a2) (cells slots : Nat) (hc9 : cells + 2 ≤ 601024) (hs9 : slots + 12 ≤ 7293034)
    (K : ∀ (v : THS × TM × OutR), v = u' → ∀ (H : Heap) (locs : List Loc) (ls : Array Slot) (cells' slots' : Nat), cells' ≤ cells + 2 → slots' ≤ slots + 12 → va_P G vwCl (wW cI cS cL sv gx gm og v) H → va_D A (wW cI cS cL sv gx gm og v) → va_S A s.heap H locs → lv_has ls 9 [(0, .ref b), (1, .ref (gx 0)), (2, .ref (gm 0)), (3, .ref og), (4, .int x4)] → W p l e room_1 s m args below meth c H locs cells' slots' Q (F0 m 1493 ls []))
    (H : Heap) (locs : List Loc) (ls : Array Slot) (hP : va_P G vwCl (wW cI cS cL sv gx gm og u) H) (hD : va_D A (wW cI cS cL sv gx gm og u)) (hS : va_S A s.heap H locs) (hl : lv_has ls 9 [(0, .ref b), (1, .ref (gx 0)), (2, .ref (gm 0)), (3, .ref og), (4, .int x4)]) : W p l e room_1 s m args below meth c H locs cells slots Q (F0 m 563 ls []) := by
  obtain ⟨hst, S, hK, hN, hC, hA, hAB, hB, hX, hX0, hbl, hbA⟩ := C0
  have hx := S.1; have hb := S.2.1; have hml := S.2.2.1; have hown := S.2.2.2.1; have hq := S.2.2.2.2
  have h := hf
  unfold fLc_9 at h
  refine lv_aload_n hx hb dL_law_563 rfl (lv_at hl 1 rfl) ?_
  refine lv_aload_n hx hb dL_law_564 rfl (lv_at hl 0 rfl) ?_
  refine lv_iload hx hb dL_law_565 (lv_at hl 4 rfl) ?_
  refine lv_iconst (v := 1) hx hb dL_law_567 (by decide) ?_
  refine lv_iadd hx hb dL_law_568 ?_
  refine sldO hx hb hX0 hbl hbA hS hin1 hs1 dL_law_569 ?_
  obtain ⟨z46, e_z46, h⟩ := bnd h
  refine roI (cc_L_114 sv gx S (hK.sub [0, 1] rfl) hN (hP.sub [0, 1, 2, 3, 4, 5, 6, 7, 8, 9, 10, 11, 12] rfl) e_z46 hl.1 (Nat.le_of_ble_eq_true rfl) ⟨(Nat.le_of_ble_eq_true rfl), (Nat.le_of_ble_eq_true rfl)⟩ dL_law_570 ⟨by show _ ≤ 601024; omega, by show _ ≤ 7293034; omega⟩) ?_
  refine lv_aload_n hx hb dL_law_573 rfl (lv_at hl 2 rfl) ?_
  refine lv_aload_n hx hb dL_law_574 rfl (lv_at hl 0 rfl) ?_
  refine lv_iload hx hb dL_law_575 (lv_at hl 4 rfl) ?_
  refine lv_iconst (v := 1) hx hb dL_law_577 (by decide) ?_
  refine lv_iadd hx hb dL_law_578 ?_
  refine sldO hx hb hX0 hbl hbA hS hin1 hs1 dL_law_579 ?_
  obtain ⟨z47, e_z47, h⟩ := bnd h
  refine mkI (cc_L_118 gm S (hK.sub [0, 1] rfl) hN (hP.sub [26, 27, 28, 29, 30] rfl) (hD.sub [26, 27, 28, 29, 30] (by decide) rfl) e_z47 hl.1 (Nat.le_of_ble_eq_true rfl) ⟨(Nat.le_of_ble_eq_true rfl), (Nat.le_of_ble_eq_true rfl)⟩ dL_law_580 ⟨by show _ ≤ 601024; omega, by show _ ≤ 7293034; omega⟩) hS hP hD hA [26, 27, 28, 29, 30] [0, 1, 2, 3, 4, 5, 6, 7, 8, 9, 10, 11, 12, 13, 14, 15, 16, 17, 18, 19, 20, 21, 22, 23, 24, 25, 31] rfl rfl (by decide) (by decide) [0, 1, 2, 3, 4, 5, 6, 7, 8, 9, 10, 11, 12, 13, 14, 15, 16, 17, 18, 19, 20, 21, 22, 23, 24, 25, 27, 28, 29, 30, 31, 26] (by decide) (wW cI cS cL sv gx gm og (u.1, z47.2, u.2.2)) rfl (fun H locs hP hD hS => ?_)
  refine lv_icmp_eq (tgt := 1493) hx hb dL_law_583 (by decide) (fun c48 => ?_) (fun c48 => ?_)
  · have h := (if_pos c48).symm.trans h
    exact K _ (Option.some.inj h) _ _ _ _ _ (by omega) (by omega) hP hD hS (lv_sub hl [0, 1, 2, 3, 4] rfl)
  · have h := (if_neg c48).symm.trans h
    refine lv_iconst (v := 0) hx hb dL_law_586 (by decide) ?_
    cases h
theorem cc_L_119 {p : Program} {l : Launch} {e : Env} {R : Room} {s : State} {m : MethodId} {args : Array Value} {below : List Frame} {meth : Method} {c : Code} {H : Heap} {locs : List Loc} {cells slots : Nat} {cc : ByteArray} {pc nL : Nat} {ls : Array Slot} {rest : List Value} {G : va_G} {A : Nat → Prop} {B0 : Nat} (sv : Nat) (gx : Nat → Nat) (og : Nat) {cI cS cL : ClassId} {u : THS × OutR} {p0 : Int32} {r : Int32 × (THS × OutR)} (hst : l.stackTraces = false) (S : CallFix p m c cc nL s args bwL RL) (hK : va_K G vwCl (tysL cI cS cL) s) (hN : NW s) (hC : NC s) (hP : va_P G vwCl (wO cI cS cL sv gx og u) H) (hD : va_D A (wO cI cS cL sv gx og u)) (hS : va_S A s.heap H locs) (hAB : ∀ q, A q → B0 ≤ q) (hB : B0 ≤ s.heap.size) (hX : XT B0 s s.heap) (hf : fL_length u p0 = some r) (hsz : ls.size = nL) (hsk : (rest.map fun v => v.category).sum ≤ 8) (hR : rmL_length.frames + 1 ≤ R.frames ∧ 8 + (4 + 11) + rmL_length.locals ≤ R.locals) (hdg : decode cc pc = .ok (.invokestatic 119, 3)) (hcs : cells + 1 ≤ R.cells ∧ slots + 6 ≤ R.slots) : va_Run p l e R s m args below meth c H locs cells slots 1 6 (F0 m pc ls (.ref og :: .int p0 :: .ref (gx 0) :: rest)) rest (va_Qi (fun r' u' => (r', u') = r) (PoM G (tysL cI cS cL) (va_A (wO cI cS cL sv gx og u) H.size) (wO cI cS cL sv gx og)) (va_A (wO cI cS cL sv gx og u) H.size) (#[.ref (gx 0), .int p0, .ref og] : Array Value)) (va_A (wO cI cS cL sv gx og u) H.size) :=
  vx_runSW (As := [.ref (gx 0), .int p0, .ref og]) (rest := rest) S (kL_length l hst G cI cS cL sv gx og H.size B0 u p0 r hf) (vx_cwSW 3 S.2.2.2.2 (gdWL ql_138 ql_139 ql_86 ql_30) rfl rfl rfl (by decide +kernel) hR) (psL hK hN hC hP hD hS hAB hB hX) rfl rfl hsz rfl (lv_room hsk) hdg hcs
theorem cc_L_121 {p : Program} {l : Launch} {e : Env} {R : Room} {s : State} {m : MethodId} {args : Array Value} {below : List Frame} {meth : Method} {c : Code} {H : Heap} {locs : List Loc} {cells slots : Nat} {cc : ByteArray} {pc nL : Nat} {ls : Array Slot} {rest : List Value} {G : va_G} {A : Nat → Prop} (ga : Nat → Nat) {cI cS : ClassId} {u : TM}  {p0 : Int32} {r : Int32 × TM} (S : CallFix p m c cc nL s args bwL RL) (hK : va_K G vwCl (tysW cI cS) s) (hN : NW s) (hP : va_P G vwCl (wM cI ga u) H) (hD : va_D A (wM cI ga u)) (hf : fX5_length u p0 = some r) (hsz : ls.size = nL) (hst : (rest.map fun v => v.category).sum ≤ 8) (hR : rmX5_length.frames + 1 ≤ R.frames ∧ 8 + (2 + 11) + rmX5_length.locals ≤ R.locals) (hdg : decode cc pc = .ok (.invokevirtual 121, 3)) (hcs : cells + 0 ≤ R.cells ∧ slots + 0 ≤ R.slots) : va_Run p l e R s m args below meth c H locs cells slots 0 0 (F0 m pc ls (.int p0 :: .ref (ga 0) :: rest)) rest (va_Qi (fun r' u' => (r', u') = r) (PoM G (tysW cI cS) (va_A (wM cI ga u) H.size) (wM cI ga)) (va_A (wM cI ga u) H.size) (#[.ref (ga 0), .int p0] : Array Value)) (va_A (wM cI ga u) H.size) :=
  va_runV (As := [.int p0]) (rest := rest) S (kX5_length l G cI cS ga H.size u p0 r hf) (cwV 1 S.2.2.2.2 (gdVL ql_140 ql_141 ql_142 (bwL_of q_392) (bwL_of q_573)) rfl rfl rfl (by decide +kernel) hR) (pvM (q := (RX5, TX5, 12)) hK hN hP hD (ci := 5) (q0 := 0) rfl rfl) rfl rfl hsz rfl (lv_room hst) hdg hcs

def fLc_10 (u : THS × TM × OutR) (a1 a2 : Int32) : Option (THS × TM × OutR) := ((fL_length (u.1, u.2.2) a1).bind fun z49 => ((fX5_length u.2.1 a1).bind fun z50 => ((fX5_thrown z50.2).bind fun z51 => (if z51 = z49.1 then (if z49.1 = 0 then (if (lg_cmp (z49.2.2 (0 : Int32).toNatClampNeg) z50.1.toInt64) = 0 then some (z49.2.1, z50.2, z49.2.2) else none) else some (z49.2.1, z50.2, z49.2.2)) else none))))
set_option maxRecDepth 100000 in
set_option maxHeartbeats 4000000 in
theorem kLc_10 {p : Program} {l : Launch} {e : Env} {s : State} {m : MethodId} {args : Array Value} {below : List Frame} {meth : Method} {c : Code} {Q : State → Prop} {b L : Nat} {xs : Nat → Int32} {G : va_G} {cI cS cL : ClassId} {A : Nat → Prop} {B0 : Nat} (C0 : LawC p l s m args c b L xs G cI cS cL A B0) (sv : Nat) (gx gm : Nat → Nat) (og : Nat) (u : THS × TM × OutR) (x4 a1 a2 : Int32) (u' : THS × TM × OutR) (hf : fLc_10 u a1 a2 = some u') (hin1 : vp_in (x4 + (1 : Int32)) L) (hin2 : vp_in (x4 + (2 : Int32)) L) (hs1 : xs (x4 + (1 : Int32)).toNatClampNeg = a1) (hs2 : xs (x4 + (2 : Int32)).toNatClampNeg = a2) (cells slots : Nat) (hc9 : cells + 2 ≤ 601024) (hs9 : slots + 12 ≤ 7293034)
    (K : ∀ (v : THS × TM × OutR), v = u' → ∀ (H : Heap) (locs : List Loc) (ls : Array Slot) (cells' slots' : Nat), cells' ≤ cells + 2 → slots' ≤ slots + 12 → va_P G vwCl (wW cI cS cL sv gx gm og v) H → va_D A (wW cI cS cL sv gx gm og v) → va_S A s.heap H locs → lv_has ls 9 [(0, .ref b), (1, .ref (gx 0)), (2, .ref (gm 0)), (3, .ref og), (4, .int x4)] → W p l e room_1 s m args below meth c H locs cells' slots' Q (F0 m 1493 ls []))
    (H : Heap) (locs : List Loc) (ls : Array Slot) (hP : va_P G vwCl (wW cI cS cL sv gx gm og u) H) (hD : va_D A (wW cI cS cL sv gx gm og u)) (hS : va_S A s.heap H locs) (hl : lv_has ls 9 [(0, .ref b), (1, .ref (gx 0)), (2, .ref (gm 0)), (3, .ref og), (4, .int x4)]) : W p l e room_1 s m args below meth c H locs cells slots Q (F0 m 588 ls []) := by
  obtain ⟨hst, S, hK, hN, hC, hA, hAB, hB, hX, hX0, hbl, hbA⟩ := C0
  have hx := S.1; have hb := S.2.1; have hml := S.2.2.1; have hown := S.2.2.2.1; have hq := S.2.2.2.2
  have h := hf
  unfold fLc_10 at h
  refine lv_aload_n hx hb dL_law_588 rfl (lv_at hl 1 rfl) ?_
  refine lv_aload_n hx hb dL_law_589 rfl (lv_at hl 0 rfl) ?_
  refine lv_iload hx hb dL_law_590 (lv_at hl 4 rfl) ?_
  refine lv_iconst (v := 1) hx hb dL_law_592 (by decide) ?_
  refine lv_iadd hx hb dL_law_593 ?_
  refine sldO hx hb hX0 hbl hbA hS hin1 hs1 dL_law_594 ?_
  refine lv_aload_n hx hb dL_law_595 rfl (lv_at hl 3 rfl) ?_
  obtain ⟨z49, e_z49, h⟩ := bnd h
  refine mkI (cc_L_119 sv gx og hst S hK hN hC (hP.sub [0, 1, 2, 3, 4, 5, 6, 7, 8, 9, 10, 11, 12, 13, 14, 15, 16, 17, 18, 19, 20, 21, 22, 23, 24, 25, 31] rfl) (hD.sub [0, 1, 2, 3, 4, 5, 6, 7, 8, 9, 10, 11, 12, 13, 14, 15, 16, 17, 18, 19, 20, 21, 22, 23, 24, 25, 31] (by decide) rfl) hS hAB hB hX e_z49 hl.1 (Nat.le_of_ble_eq_true rfl) ⟨(Nat.le_of_ble_eq_true rfl), (Nat.le_of_ble_eq_true rfl)⟩ dL_law_596 ⟨by show _ ≤ 601024; omega, by show _ ≤ 7293034; omega⟩) hS hP hD hA [0, 1, 2, 3, 4, 5, 6, 7, 8, 9, 10, 11, 12, 13, 14, 15, 16, 17, 18, 19, 20, 21, 22, 23, 24, 25, 31] [26, 27, 28, 29, 30] rfl rfl (by decide) (by decide) [5, 6, 7, 8, 9, 10, 11, 12, 13, 14, 15, 16, 17, 18, 19, 20, 21, 22, 23, 24, 25, 26, 27, 28, 29, 30, 0, 1, 2, 3, 4, 31] (by decide) (wW cI cS cL sv gx gm og (z49.2.1, u.2.1, z49.2.2)) rfl (fun H locs hP hD hS => ?_)
  refine lv_istore (lv' := [(5, .int z49.1), (0, .ref b), (1, .ref (gx 0)), (2, .ref (gm 0)), (3, .ref og), (4, .int x4)]) hx hb dL_law_599 hl (by decide) rfl (fun ls hl => ?_)
  refine lv_aload_n hx hb dL_law_601 rfl (lv_at hl 3 rfl) ?_
  refine lv_aload_n hx hb dL_law_602 rfl (lv_at hl 1 rfl) ?_
  refine lv_iload hx hb dL_law_603 (lv_at hl 5 rfl) ?_
  refine lv_iconst (v := 1) hx hb dL_law_605 (by decide) ?_
  refine lv_iadd hx hb dL_law_606 ?_
  refine sldO hx hb hX0 hbl hbA hS hin1 hs1 dL_law_607 ?_
  obtain ⟨z50, e_z50, h⟩ := bnd h
  refine mkI (cc_L_121 gm S (hK.sub [0, 1] rfl) hN (hP.sub [26, 27, 28, 29, 30] rfl) (hD.sub [26, 27, 28, 29, 30] (by decide) rfl) e_z50 hl.1 (Nat.le_of_ble_eq_true rfl) ⟨(Nat.le_of_ble_eq_true rfl), (Nat.le_of_ble_eq_true rfl)⟩ dL_law_608 ⟨by show _ ≤ 601024; omega, by show _ ≤ 7293034; omega⟩) hS hP hD hA [26, 27, 28, 29, 30] [0, 1, 2, 3, 4, 5, 6, 7, 8, 9, 10, 11, 12, 13, 14, 15, 16, 17, 18, 19, 20, 21, 22, 23, 24, 25, 31] rfl rfl (by decide) (by decide) [0, 1, 2, 3, 4, 5, 6, 7, 8, 9, 10, 11, 12, 13, 14, 15, 16, 17, 18, 19, 20, 21, 22, 23, 24, 25, 27, 28, 29, 30, 31, 26] (by decide) (wW cI cS cL sv gx gm og (z49.2.1, z50.2, z49.2.2)) rfl (fun H locs hP hD hS => ?_)
  refine lv_istore (lv' := [(6, .int z50.1), (5, .int z49.1), (0, .ref b), (1, .ref (gx 0)), (2, .ref (gm 0)), (3, .ref og), (4, .int x4)]) hx hb dL_law_611 hl (by decide) rfl (fun ls hl => ?_)
  refine lv_aload_n hx hb dL_law_613 rfl (lv_at hl 4 rfl) ?_
  obtain ⟨z51, e_z51, h⟩ := bnd h
  refine roI (cc_L_82 gm S (hK.sub [0, 1] rfl) hN (hP.sub [26, 27, 28, 29, 30] rfl) e_z51 hl.1 (Nat.le_of_ble_eq_true rfl) ⟨(Nat.le_of_ble_eq_true rfl), (Nat.le_of_ble_eq_true rfl)⟩ dL_law_614 ⟨by show _ ≤ 601024; omega, by show _ ≤ 7293034; omega⟩) ?_
  refine lv_iload hx hb dL_law_617 (lv_at hl 1 rfl) ?_
  refine lv_icmp_eq (tgt := 624) hx hb dL_law_619 (by decide) (fun c52 => ?_) (fun c52 => ?_)
  · have h := (if_pos c52).symm.trans h
    refine lv_iload hx hb dL_law_624 (lv_at hl 1 rfl) ?_
    refine lv_if_ne (tgt := 641) hx hb dL_law_626 (by decide) (fun c53 => ?_) (fun c53 => ?_)
    · have h := (if_neg c53).symm.trans h
      refine lv_goto (tgt := 1493) hx hb dL_law_641 (by decide) ?_
      exact K _ (Option.some.inj h) _ _ _ _ _ (by omega) (by omega) hP hD hS (lv_sub hl [2, 3, 4, 5, 6] rfl)
    · have h := (if_pos c53).symm.trans h
      refine lv_aload_n hx hb dL_law_629 rfl (lv_at hl 5 rfl) ?_
      refine lv_iconst (v := 0) hx hb dL_law_630 (by decide) ?_
      refine va_lald (f := z49.2.2) hx hb hK hP 31 2 rfl rfl (vp_in_of_not (i := 0) (n := 1) (by decide)) dL_law_631 ?_
      refine lv_iload hx hb dL_law_632 (lv_at hl 0 rfl) ?_
      refine lv_i2l hx hb dL_law_634 rfl ?_
      refine W.lcmp hx hb dL_law_635 ?_
      refine lv_if_eq (tgt := 641) hx hb dL_law_636 (by decide) (fun c54 => ?_) (fun c54 => ?_)
      · have h := (if_pos c54).symm.trans h
        refine lv_goto (tgt := 1493) hx hb dL_law_641 (by decide) ?_
        exact K _ (Option.some.inj h) _ _ _ _ _ (by omega) (by omega) hP hD hS (lv_sub hl [2, 3, 4, 5, 6] rfl)
      · have h := (if_neg c54).symm.trans h
        refine lv_iconst (v := 0) hx hb dL_law_639 (by decide) ?_
        cases h
  · have h := (if_neg c52).symm.trans h
    refine lv_iconst (v := 0) hx hb dL_law_622 (by decide) ?_
    cases h
theorem cc_L_122 {p : Program} {l : Launch} {e : Env} {R : Room} {s : State} {m : MethodId} {args : Array Value} {below : List Frame} {meth : Method} {c : Code} {H : Heap} {locs : List Loc} {cells slots : Nat} {cc : ByteArray} {pc nL : Nat} {ls : Array Slot} {rest : List Value} {G : va_G} {A : Nat → Prop} {B0 : Nat} (sv : Nat) (gx : Nat → Nat) (og : Nat) {cI cS cL : ClassId} {u : THS × OutR} {p0 : Int32} {p1 : Int32} {r : Int32 × (THS × OutR)} (hst : l.stackTraces = false) (S : CallFix p m c cc nL s args bwL RL) (hK : va_K G vwCl (tysL cI cS cL) s) (hN : NW s) (hC : NC s) (hP : va_P G vwCl (wO cI cS cL sv gx og u) H) (hD : va_D A (wO cI cS cL sv gx og u)) (hS : va_S A s.heap H locs) (hAB : ∀ q, A q → B0 ≤ q) (hB : B0 ≤ s.heap.size) (hX : XT B0 s s.heap) (hf : fL_byteOf u p0 p1 = some r) (hsz : ls.size = nL) (hsk : (rest.map fun v => v.category).sum ≤ 8) (hR : rmL_byteOf.frames + 1 ≤ R.frames ∧ 8 + (5 + 11) + rmL_byteOf.locals ≤ R.locals) (hdg : decode cc pc = .ok (.invokestatic 122, 3)) (hcs : cells + 2 ≤ R.cells ∧ slots + 12 ≤ R.slots) : va_Run p l e R s m args below meth c H locs cells slots 2 12 (F0 m pc ls (.ref og :: .int p1 :: .int p0 :: .ref (gx 0) :: rest)) rest (va_Qi (fun r' u' => (r', u') = r) (PoM G (tysL cI cS cL) (va_A (wO cI cS cL sv gx og u) H.size) (wO cI cS cL sv gx og)) (va_A (wO cI cS cL sv gx og u) H.size) (#[.ref (gx 0), .int p0, .int p1, .ref og] : Array Value)) (va_A (wO cI cS cL sv gx og u) H.size) :=
  vx_runSW (As := [.ref (gx 0), .int p0, .int p1, .ref og]) (rest := rest) S (kL_byteOf l hst G cI cS cL sv gx og H.size B0 u p0 p1 r hf) (vx_cwSW 4 S.2.2.2.2 (gdWL ql_143 ql_144 ql_86 ql_34) rfl rfl rfl (by decide +kernel) hR) (psL hK hN hC hP hD hS hAB hB hX) rfl rfl hsz rfl (lv_room hsk) hdg hcs
theorem cc_L_124 {p : Program} {l : Launch} {e : Env} {R : Room} {s : State} {m : MethodId} {args : Array Value} {below : List Frame} {meth : Method} {c : Code} {H : Heap} {locs : List Loc} {cells slots : Nat} {cc : ByteArray} {pc nL : Nat} {ls : Array Slot} {rest : List Value} {G : va_G} {A : Nat → Prop} (ga : Nat → Nat) {cI cS : ClassId} {u : TM}  {p0 : Int32} {p1 : Int32} {r : Int32 × TM} (S : CallFix p m c cc nL s args bwL RL) (hK : va_K G vwCl (tysW cI cS) s) (hN : NW s) (hP : va_P G vwCl (wM cI ga u) H) (hD : va_D A (wM cI ga u)) (hf : fX5_byteOf u p0 p1 = some r) (hsz : ls.size = nL) (hst : (rest.map fun v => v.category).sum ≤ 8) (hR : rmX5_byteOf.frames + 1 ≤ R.frames ∧ 8 + (4 + 11) + rmX5_byteOf.locals ≤ R.locals) (hdg : decode cc pc = .ok (.invokevirtual 124, 3)) (hcs : cells + 0 ≤ R.cells ∧ slots + 0 ≤ R.slots) : va_Run p l e R s m args below meth c H locs cells slots 0 0 (F0 m pc ls (.int p1 :: .int p0 :: .ref (ga 0) :: rest)) rest (va_Qi (fun r' u' => (r', u') = r) (PoM G (tysW cI cS) (va_A (wM cI ga u) H.size) (wM cI ga)) (va_A (wM cI ga u) H.size) (#[.ref (ga 0), .int p0, .int p1] : Array Value)) (va_A (wM cI ga u) H.size) :=
  va_runV (As := [.int p0, .int p1]) (rest := rest) S (kX5_byteOf l G cI cS ga H.size u p0 p1 r hf) (cwV 2 S.2.2.2.2 (gdVL ql_145 ql_146 ql_147 (bwL_of q_392) (bwL_of q_574)) rfl rfl rfl (by decide +kernel) hR) (pvM (q := (RX5, TX5, 12)) hK hN hP hD (ci := 5) (q0 := 0) rfl rfl) rfl rfl hsz rfl (lv_room hst) hdg hcs

def fLc_11 (u : THS × TM × OutR) (a1 a2 : Int32) : Option (THS × TM × OutR) := ((fL_byteOf (u.1, u.2.2) a1 a2).bind fun z55 => ((fX5_byteOf u.2.1 a1 a2).bind fun z56 => ((fX5_thrown z56.2).bind fun z57 => (if z57 = z55.1 then (if z55.1 = 0 then (if (lg_cmp (z55.2.2 (0 : Int32).toNatClampNeg) z56.1.toInt64) = 0 then some (z55.2.1, z56.2, z55.2.2) else none) else some (z55.2.1, z56.2, z55.2.2)) else none))))
set_option maxRecDepth 100000 in
set_option maxHeartbeats 4000000 in
theorem kLc_11 {p : Program} {l : Launch} {e : Env} {s : State} {m : MethodId} {args : Array Value} {below : List Frame} {meth : Method} {c : Code} {Q : State → Prop} {b L : Nat} {xs : Nat → Int32} {G : va_G} {cI cS cL : ClassId} {A : Nat → Prop} {B0 : Nat} (C0 : LawC p l s m args c b L xs G cI cS cL A B0) (sv : Nat) (gx gm : Nat → Nat) (og : Nat) (u : THS × TM × OutR) (x4 a1 a2 : Int32) (u' : THS × TM × OutR) (hf : fLc_11 u a1 a2 = some u') (hin1 : vp_in (x4 + (1 : Int32)) L) (hin2 : vp_in (x4 + (2 : Int32)) L) (hs1 : xs (x4 + (1 : Int32)).toNatClampNeg = a1) (hs2 : xs (x4 + (2 : Int32)).toNatClampNeg = a2) (cells slots : Nat) (hc9 : cells + 2 ≤ 601024) (hs9 : slots + 12 ≤ 7293034)
    (K : ∀ (v : THS × TM × OutR), v = u' → ∀ (H : Heap) (locs : List Loc) (ls : Array Slot) (cells' slots' : Nat), cells' ≤ cells + 2 → slots' ≤ slots + 12 → va_P G vwCl (wW cI cS cL sv gx gm og v) H → va_D A (wW cI cS cL sv gx gm og v) → va_S A s.heap H locs → lv_has ls 9 [(0, .ref b), (1, .ref (gx 0)), (2, .ref (gm 0)), (3, .ref og), (4, .int x4)] → W p l e room_1 s m args below meth c H locs cells' slots' Q (F0 m 1493 ls []))
    (H : Heap) (locs : List Loc) (ls : Array Slot) (hP : va_P G vwCl (wW cI cS cL sv gx gm og u) H) (hD : va_D A (wW cI cS cL sv gx gm og u)) (hS : va_S A s.heap H locs) (hl : lv_has ls 9 [(0, .ref b), (1, .ref (gx 0)), (2, .ref (gm 0)), (3, .ref og), (4, .int x4)]) : W p l e room_1 s m args below meth c H locs cells slots Q (F0 m 644 ls []) := by
  obtain ⟨hst, S, hK, hN, hC, hA, hAB, hB, hX, hX0, hbl, hbA⟩ := C0
  have hx := S.1; have hb := S.2.1; have hml := S.2.2.1; have hown := S.2.2.2.1; have hq := S.2.2.2.2
  have h := hf
  unfold fLc_11 at h
  refine lv_aload_n hx hb dL_law_644 rfl (lv_at hl 1 rfl) ?_
  refine lv_aload_n hx hb dL_law_645 rfl (lv_at hl 0 rfl) ?_
  refine lv_iload hx hb dL_law_646 (lv_at hl 4 rfl) ?_
  refine lv_iconst (v := 1) hx hb dL_law_648 (by decide) ?_
  refine lv_iadd hx hb dL_law_649 ?_
  refine sldO hx hb hX0 hbl hbA hS hin1 hs1 dL_law_650 ?_
  refine lv_aload_n hx hb dL_law_651 rfl (lv_at hl 0 rfl) ?_
  refine lv_iload hx hb dL_law_652 (lv_at hl 4 rfl) ?_
  refine lv_iconst (v := 2) hx hb dL_law_654 (by decide) ?_
  refine lv_iadd hx hb dL_law_655 ?_
  refine sldO hx hb hX0 hbl hbA hS hin2 hs2 dL_law_656 ?_
  refine lv_aload_n hx hb dL_law_657 rfl (lv_at hl 3 rfl) ?_
  obtain ⟨z55, e_z55, h⟩ := bnd h
  refine mkI (cc_L_122 sv gx og hst S hK hN hC (hP.sub [0, 1, 2, 3, 4, 5, 6, 7, 8, 9, 10, 11, 12, 13, 14, 15, 16, 17, 18, 19, 20, 21, 22, 23, 24, 25, 31] rfl) (hD.sub [0, 1, 2, 3, 4, 5, 6, 7, 8, 9, 10, 11, 12, 13, 14, 15, 16, 17, 18, 19, 20, 21, 22, 23, 24, 25, 31] (by decide) rfl) hS hAB hB hX e_z55 hl.1 (Nat.le_of_ble_eq_true rfl) ⟨(Nat.le_of_ble_eq_true rfl), (Nat.le_of_ble_eq_true rfl)⟩ dL_law_658 ⟨by show _ ≤ 601024; omega, by show _ ≤ 7293034; omega⟩) hS hP hD hA [0, 1, 2, 3, 4, 5, 6, 7, 8, 9, 10, 11, 12, 13, 14, 15, 16, 17, 18, 19, 20, 21, 22, 23, 24, 25, 31] [26, 27, 28, 29, 30] rfl rfl (by decide) (by decide) [5, 6, 7, 8, 9, 10, 11, 12, 13, 14, 15, 16, 17, 18, 19, 20, 21, 22, 23, 24, 25, 26, 27, 28, 29, 30, 0, 1, 2, 3, 4, 31] (by decide) (wW cI cS cL sv gx gm og (z55.2.1, u.2.1, z55.2.2)) rfl (fun H locs hP hD hS => ?_)
  refine lv_istore (lv' := [(5, .int z55.1), (0, .ref b), (1, .ref (gx 0)), (2, .ref (gm 0)), (3, .ref og), (4, .int x4)]) hx hb dL_law_661 hl (by decide) rfl (fun ls hl => ?_)
  refine lv_aload_n hx hb dL_law_663 rfl (lv_at hl 3 rfl) ?_
  refine lv_aload_n hx hb dL_law_664 rfl (lv_at hl 1 rfl) ?_
  refine lv_iload hx hb dL_law_665 (lv_at hl 5 rfl) ?_
  refine lv_iconst (v := 1) hx hb dL_law_667 (by decide) ?_
  refine lv_iadd hx hb dL_law_668 ?_
  refine sldO hx hb hX0 hbl hbA hS hin1 hs1 dL_law_669 ?_
  refine lv_aload_n hx hb dL_law_670 rfl (lv_at hl 1 rfl) ?_
  refine lv_iload hx hb dL_law_671 (lv_at hl 5 rfl) ?_
  refine lv_iconst (v := 2) hx hb dL_law_673 (by decide) ?_
  refine lv_iadd hx hb dL_law_674 ?_
  refine sldO hx hb hX0 hbl hbA hS hin2 hs2 dL_law_675 ?_
  obtain ⟨z56, e_z56, h⟩ := bnd h
  refine mkI (cc_L_124 gm S (hK.sub [0, 1] rfl) hN (hP.sub [26, 27, 28, 29, 30] rfl) (hD.sub [26, 27, 28, 29, 30] (by decide) rfl) e_z56 hl.1 (Nat.le_of_ble_eq_true rfl) ⟨(Nat.le_of_ble_eq_true rfl), (Nat.le_of_ble_eq_true rfl)⟩ dL_law_676 ⟨by show _ ≤ 601024; omega, by show _ ≤ 7293034; omega⟩) hS hP hD hA [26, 27, 28, 29, 30] [0, 1, 2, 3, 4, 5, 6, 7, 8, 9, 10, 11, 12, 13, 14, 15, 16, 17, 18, 19, 20, 21, 22, 23, 24, 25, 31] rfl rfl (by decide) (by decide) [0, 1, 2, 3, 4, 5, 6, 7, 8, 9, 10, 11, 12, 13, 14, 15, 16, 17, 18, 19, 20, 21, 22, 23, 24, 25, 27, 28, 29, 30, 31, 26] (by decide) (wW cI cS cL sv gx gm og (z55.2.1, z56.2, z55.2.2)) rfl (fun H locs hP hD hS => ?_)
  refine lv_istore (lv' := [(6, .int z56.1), (5, .int z55.1), (0, .ref b), (1, .ref (gx 0)), (2, .ref (gm 0)), (3, .ref og), (4, .int x4)]) hx hb dL_law_679 hl (by decide) rfl (fun ls hl => ?_)
  refine lv_aload_n hx hb dL_law_681 rfl (lv_at hl 4 rfl) ?_
  obtain ⟨z57, e_z57, h⟩ := bnd h
  refine roI (cc_L_82 gm S (hK.sub [0, 1] rfl) hN (hP.sub [26, 27, 28, 29, 30] rfl) e_z57 hl.1 (Nat.le_of_ble_eq_true rfl) ⟨(Nat.le_of_ble_eq_true rfl), (Nat.le_of_ble_eq_true rfl)⟩ dL_law_682 ⟨by show _ ≤ 601024; omega, by show _ ≤ 7293034; omega⟩) ?_
  refine lv_iload hx hb dL_law_685 (lv_at hl 1 rfl) ?_
  refine lv_icmp_eq (tgt := 692) hx hb dL_law_687 (by decide) (fun c58 => ?_) (fun c58 => ?_)
  · have h := (if_pos c58).symm.trans h
    refine lv_iload hx hb dL_law_692 (lv_at hl 1 rfl) ?_
    refine lv_if_ne (tgt := 709) hx hb dL_law_694 (by decide) (fun c59 => ?_) (fun c59 => ?_)
    · have h := (if_neg c59).symm.trans h
      refine lv_goto (tgt := 1493) hx hb dL_law_709 (by decide) ?_
      exact K _ (Option.some.inj h) _ _ _ _ _ (by omega) (by omega) hP hD hS (lv_sub hl [2, 3, 4, 5, 6] rfl)
    · have h := (if_pos c59).symm.trans h
      refine lv_aload_n hx hb dL_law_697 rfl (lv_at hl 5 rfl) ?_
      refine lv_iconst (v := 0) hx hb dL_law_698 (by decide) ?_
      refine va_lald (f := z55.2.2) hx hb hK hP 31 2 rfl rfl (vp_in_of_not (i := 0) (n := 1) (by decide)) dL_law_699 ?_
      refine lv_iload hx hb dL_law_700 (lv_at hl 0 rfl) ?_
      refine lv_i2l hx hb dL_law_702 rfl ?_
      refine W.lcmp hx hb dL_law_703 ?_
      refine lv_if_eq (tgt := 709) hx hb dL_law_704 (by decide) (fun c60 => ?_) (fun c60 => ?_)
      · have h := (if_pos c60).symm.trans h
        refine lv_goto (tgt := 1493) hx hb dL_law_709 (by decide) ?_
        exact K _ (Option.some.inj h) _ _ _ _ _ (by omega) (by omega) hP hD hS (lv_sub hl [2, 3, 4, 5, 6] rfl)
      · have h := (if_neg c60).symm.trans h
        refine lv_iconst (v := 0) hx hb dL_law_707 (by decide) ?_
        cases h
  · have h := (if_neg c58).symm.trans h
    refine lv_iconst (v := 0) hx hb dL_law_690 (by decide) ?_
    cases h
theorem cc_L_125 {p : Program} {l : Launch} {e : Env} {R : Room} {s : State} {m : MethodId} {args : Array Value} {below : List Frame} {meth : Method} {c : Code} {H : Heap} {locs : List Loc} {cells slots : Nat} {cc : ByteArray} {pc nL : Nat} {ls : Array Slot} {rest : List Value} {G : va_G} {A : Nat → Prop} {B0 : Nat} (sv : Nat) (gx : Nat → Nat) (og : Nat) {cI cS cL : ClassId} {u : THS × OutR} {p0 : Int32} {r : Int32 × (THS × OutR)} (hst : l.stackTraces = false) (S : CallFix p m c cc nL s args bwL RL) (hK : va_K G vwCl (tysL cI cS cL) s) (hN : NW s) (hC : NC s) (hP : va_P G vwCl (wO cI cS cL sv gx og u) H) (hD : va_D A (wO cI cS cL sv gx og u)) (hS : va_S A s.heap H locs) (hAB : ∀ q, A q → B0 ≤ q) (hB : B0 ≤ s.heap.size) (hX : XT B0 s s.heap) (hf : fL_placeOf u p0 = some r) (hsz : ls.size = nL) (hsk : (rest.map fun v => v.category).sum ≤ 8) (hR : rmL_placeOf.frames + 1 ≤ R.frames ∧ 8 + (4 + 11) + rmL_placeOf.locals ≤ R.locals) (hdg : decode cc pc = .ok (.invokestatic 125, 3)) (hcs : cells + 1 ≤ R.cells ∧ slots + 6 ≤ R.slots) : va_Run p l e R s m args below meth c H locs cells slots 1 6 (F0 m pc ls (.ref og :: .int p0 :: .ref (gx 0) :: rest)) rest (va_Qi (fun r' u' => (r', u') = r) (PoM G (tysL cI cS cL) (va_A (wO cI cS cL sv gx og u) H.size) (wO cI cS cL sv gx og)) (va_A (wO cI cS cL sv gx og u) H.size) (#[.ref (gx 0), .int p0, .ref og] : Array Value)) (va_A (wO cI cS cL sv gx og u) H.size) :=
  vx_runSW (As := [.ref (gx 0), .int p0, .ref og]) (rest := rest) S (kL_placeOf l hst G cI cS cL sv gx og H.size B0 u p0 r hf) (vx_cwSW 3 S.2.2.2.2 (gdWL ql_148 ql_149 ql_86 ql_38) rfl rfl rfl (by decide +kernel) hR) (psL hK hN hC hP hD hS hAB hB hX) rfl rfl hsz rfl (lv_room hsk) hdg hcs
theorem cc_L_127 {p : Program} {l : Launch} {e : Env} {R : Room} {s : State} {m : MethodId} {args : Array Value} {below : List Frame} {meth : Method} {c : Code} {H : Heap} {locs : List Loc} {cells slots : Nat} {cc : ByteArray} {pc nL : Nat} {ls : Array Slot} {rest : List Value} {G : va_G} {A : Nat → Prop} (ga : Nat → Nat) {cI cS : ClassId} {u : TM}  {p0 : Int32} {r : Int32 × TM} (S : CallFix p m c cc nL s args bwL RL) (hK : va_K G vwCl (tysW cI cS) s) (hN : NW s) (hP : va_P G vwCl (wM cI ga u) H) (hD : va_D A (wM cI ga u)) (hf : fX5_placeOf u p0 = some r) (hsz : ls.size = nL) (hst : (rest.map fun v => v.category).sum ≤ 8) (hR : rmX5_placeOf.frames + 1 ≤ R.frames ∧ 8 + (2 + 11) + rmX5_placeOf.locals ≤ R.locals) (hdg : decode cc pc = .ok (.invokevirtual 127, 3)) (hcs : cells + 0 ≤ R.cells ∧ slots + 0 ≤ R.slots) : va_Run p l e R s m args below meth c H locs cells slots 0 0 (F0 m pc ls (.int p0 :: .ref (ga 0) :: rest)) rest (va_Qi (fun r' u' => (r', u') = r) (PoM G (tysW cI cS) (va_A (wM cI ga u) H.size) (wM cI ga)) (va_A (wM cI ga u) H.size) (#[.ref (ga 0), .int p0] : Array Value)) (va_A (wM cI ga u) H.size) :=
  va_runV (As := [.int p0]) (rest := rest) S (kX5_placeOf l G cI cS ga H.size u p0 r hf) (cwV 1 S.2.2.2.2 (gdVL ql_150 ql_151 ql_152 (bwL_of q_392) (bwL_of q_575)) rfl rfl rfl (by decide +kernel) hR) (pvM (q := (RX5, TX5, 12)) hK hN hP hD (ci := 5) (q0 := 0) rfl rfl) rfl rfl hsz rfl (lv_room hst) hdg hcs

def fLc_12 (u : THS × TM × OutR) (a1 a2 : Int32) : Option (THS × TM × OutR) := ((fL_placeOf (u.1, u.2.2) a1).bind fun z61 => ((fX5_placeOf u.2.1 a1).bind fun z62 => ((fX5_thrown z62.2).bind fun z63 => (if z63 = z61.1 then (if z61.1 = 0 then (if (lg_cmp (z61.2.2 (0 : Int32).toNatClampNeg) z62.1.toInt64) = 0 then some (z61.2.1, z62.2, z61.2.2) else none) else some (z61.2.1, z62.2, z61.2.2)) else none))))
set_option maxRecDepth 100000 in
set_option maxHeartbeats 4000000 in
theorem kLc_12 {p : Program} {l : Launch} {e : Env} {s : State} {m : MethodId} {args : Array Value} {below : List Frame} {meth : Method} {c : Code} {Q : State → Prop} {b L : Nat} {xs : Nat → Int32} {G : va_G} {cI cS cL : ClassId} {A : Nat → Prop} {B0 : Nat} (C0 : LawC p l s m args c b L xs G cI cS cL A B0) (sv : Nat) (gx gm : Nat → Nat) (og : Nat) (u : THS × TM × OutR) (x4 a1 a2 : Int32) (u' : THS × TM × OutR) (hf : fLc_12 u a1 a2 = some u') (hin1 : vp_in (x4 + (1 : Int32)) L) (hin2 : vp_in (x4 + (2 : Int32)) L) (hs1 : xs (x4 + (1 : Int32)).toNatClampNeg = a1) (hs2 : xs (x4 + (2 : Int32)).toNatClampNeg = a2) (cells slots : Nat) (hc9 : cells + 2 ≤ 601024) (hs9 : slots + 12 ≤ 7293034)
    (K : ∀ (v : THS × TM × OutR), v = u' → ∀ (H : Heap) (locs : List Loc) (ls : Array Slot) (cells' slots' : Nat), cells' ≤ cells + 2 → slots' ≤ slots + 12 → va_P G vwCl (wW cI cS cL sv gx gm og v) H → va_D A (wW cI cS cL sv gx gm og v) → va_S A s.heap H locs → lv_has ls 9 [(0, .ref b), (1, .ref (gx 0)), (2, .ref (gm 0)), (3, .ref og), (4, .int x4)] → W p l e room_1 s m args below meth c H locs cells' slots' Q (F0 m 1493 ls []))
    (H : Heap) (locs : List Loc) (ls : Array Slot) (hP : va_P G vwCl (wW cI cS cL sv gx gm og u) H) (hD : va_D A (wW cI cS cL sv gx gm og u)) (hS : va_S A s.heap H locs) (hl : lv_has ls 9 [(0, .ref b), (1, .ref (gx 0)), (2, .ref (gm 0)), (3, .ref og), (4, .int x4)]) : W p l e room_1 s m args below meth c H locs cells slots Q (F0 m 712 ls []) := by
  obtain ⟨hst, S, hK, hN, hC, hA, hAB, hB, hX, hX0, hbl, hbA⟩ := C0
  have hx := S.1; have hb := S.2.1; have hml := S.2.2.1; have hown := S.2.2.2.1; have hq := S.2.2.2.2
  have h := hf
  unfold fLc_12 at h
  refine lv_aload_n hx hb dL_law_712 rfl (lv_at hl 1 rfl) ?_
  refine lv_aload_n hx hb dL_law_713 rfl (lv_at hl 0 rfl) ?_
  refine lv_iload hx hb dL_law_714 (lv_at hl 4 rfl) ?_
  refine lv_iconst (v := 1) hx hb dL_law_716 (by decide) ?_
  refine lv_iadd hx hb dL_law_717 ?_
  refine sldO hx hb hX0 hbl hbA hS hin1 hs1 dL_law_718 ?_
  refine lv_aload_n hx hb dL_law_719 rfl (lv_at hl 3 rfl) ?_
  obtain ⟨z61, e_z61, h⟩ := bnd h
  refine mkI (cc_L_125 sv gx og hst S hK hN hC (hP.sub [0, 1, 2, 3, 4, 5, 6, 7, 8, 9, 10, 11, 12, 13, 14, 15, 16, 17, 18, 19, 20, 21, 22, 23, 24, 25, 31] rfl) (hD.sub [0, 1, 2, 3, 4, 5, 6, 7, 8, 9, 10, 11, 12, 13, 14, 15, 16, 17, 18, 19, 20, 21, 22, 23, 24, 25, 31] (by decide) rfl) hS hAB hB hX e_z61 hl.1 (Nat.le_of_ble_eq_true rfl) ⟨(Nat.le_of_ble_eq_true rfl), (Nat.le_of_ble_eq_true rfl)⟩ dL_law_720 ⟨by show _ ≤ 601024; omega, by show _ ≤ 7293034; omega⟩) hS hP hD hA [0, 1, 2, 3, 4, 5, 6, 7, 8, 9, 10, 11, 12, 13, 14, 15, 16, 17, 18, 19, 20, 21, 22, 23, 24, 25, 31] [26, 27, 28, 29, 30] rfl rfl (by decide) (by decide) [5, 6, 7, 8, 9, 10, 11, 12, 13, 14, 15, 16, 17, 18, 19, 20, 21, 22, 23, 24, 25, 26, 27, 28, 29, 30, 0, 1, 2, 3, 4, 31] (by decide) (wW cI cS cL sv gx gm og (z61.2.1, u.2.1, z61.2.2)) rfl (fun H locs hP hD hS => ?_)
  refine lv_istore (lv' := [(5, .int z61.1), (0, .ref b), (1, .ref (gx 0)), (2, .ref (gm 0)), (3, .ref og), (4, .int x4)]) hx hb dL_law_723 hl (by decide) rfl (fun ls hl => ?_)
  refine lv_aload_n hx hb dL_law_725 rfl (lv_at hl 3 rfl) ?_
  refine lv_aload_n hx hb dL_law_726 rfl (lv_at hl 1 rfl) ?_
  refine lv_iload hx hb dL_law_727 (lv_at hl 5 rfl) ?_
  refine lv_iconst (v := 1) hx hb dL_law_729 (by decide) ?_
  refine lv_iadd hx hb dL_law_730 ?_
  refine sldO hx hb hX0 hbl hbA hS hin1 hs1 dL_law_731 ?_
  obtain ⟨z62, e_z62, h⟩ := bnd h
  refine mkI (cc_L_127 gm S (hK.sub [0, 1] rfl) hN (hP.sub [26, 27, 28, 29, 30] rfl) (hD.sub [26, 27, 28, 29, 30] (by decide) rfl) e_z62 hl.1 (Nat.le_of_ble_eq_true rfl) ⟨(Nat.le_of_ble_eq_true rfl), (Nat.le_of_ble_eq_true rfl)⟩ dL_law_732 ⟨by show _ ≤ 601024; omega, by show _ ≤ 7293034; omega⟩) hS hP hD hA [26, 27, 28, 29, 30] [0, 1, 2, 3, 4, 5, 6, 7, 8, 9, 10, 11, 12, 13, 14, 15, 16, 17, 18, 19, 20, 21, 22, 23, 24, 25, 31] rfl rfl (by decide) (by decide) [0, 1, 2, 3, 4, 5, 6, 7, 8, 9, 10, 11, 12, 13, 14, 15, 16, 17, 18, 19, 20, 21, 22, 23, 24, 25, 27, 28, 29, 30, 31, 26] (by decide) (wW cI cS cL sv gx gm og (z61.2.1, z62.2, z61.2.2)) rfl (fun H locs hP hD hS => ?_)
  refine lv_istore (lv' := [(6, .int z62.1), (5, .int z61.1), (0, .ref b), (1, .ref (gx 0)), (2, .ref (gm 0)), (3, .ref og), (4, .int x4)]) hx hb dL_law_735 hl (by decide) rfl (fun ls hl => ?_)
  refine lv_aload_n hx hb dL_law_737 rfl (lv_at hl 4 rfl) ?_
  obtain ⟨z63, e_z63, h⟩ := bnd h
  refine roI (cc_L_82 gm S (hK.sub [0, 1] rfl) hN (hP.sub [26, 27, 28, 29, 30] rfl) e_z63 hl.1 (Nat.le_of_ble_eq_true rfl) ⟨(Nat.le_of_ble_eq_true rfl), (Nat.le_of_ble_eq_true rfl)⟩ dL_law_738 ⟨by show _ ≤ 601024; omega, by show _ ≤ 7293034; omega⟩) ?_
  refine lv_iload hx hb dL_law_741 (lv_at hl 1 rfl) ?_
  refine lv_icmp_eq (tgt := 748) hx hb dL_law_743 (by decide) (fun c64 => ?_) (fun c64 => ?_)
  · have h := (if_pos c64).symm.trans h
    refine lv_iload hx hb dL_law_748 (lv_at hl 1 rfl) ?_
    refine lv_if_ne (tgt := 765) hx hb dL_law_750 (by decide) (fun c65 => ?_) (fun c65 => ?_)
    · have h := (if_neg c65).symm.trans h
      refine lv_goto (tgt := 1493) hx hb dL_law_765 (by decide) ?_
      exact K _ (Option.some.inj h) _ _ _ _ _ (by omega) (by omega) hP hD hS (lv_sub hl [2, 3, 4, 5, 6] rfl)
    · have h := (if_pos c65).symm.trans h
      refine lv_aload_n hx hb dL_law_753 rfl (lv_at hl 5 rfl) ?_
      refine lv_iconst (v := 0) hx hb dL_law_754 (by decide) ?_
      refine va_lald (f := z61.2.2) hx hb hK hP 31 2 rfl rfl (vp_in_of_not (i := 0) (n := 1) (by decide)) dL_law_755 ?_
      refine lv_iload hx hb dL_law_756 (lv_at hl 0 rfl) ?_
      refine lv_i2l hx hb dL_law_758 rfl ?_
      refine W.lcmp hx hb dL_law_759 ?_
      refine lv_if_eq (tgt := 765) hx hb dL_law_760 (by decide) (fun c66 => ?_) (fun c66 => ?_)
      · have h := (if_pos c66).symm.trans h
        refine lv_goto (tgt := 1493) hx hb dL_law_765 (by decide) ?_
        exact K _ (Option.some.inj h) _ _ _ _ _ (by omega) (by omega) hP hD hS (lv_sub hl [2, 3, 4, 5, 6] rfl)
      · have h := (if_neg c66).symm.trans h
        refine lv_iconst (v := 0) hx hb dL_law_763 (by decide) ?_
        cases h
  · have h := (if_neg c64).symm.trans h
    refine lv_iconst (v := 0) hx hb dL_law_746 (by decide) ?_
    cases h
theorem cc_L_128 {p : Program} {l : Launch} {e : Env} {R : Room} {s : State} {m : MethodId} {args : Array Value} {below : List Frame} {meth : Method} {c : Code} {H : Heap} {locs : List Loc} {cells slots : Nat} {cc : ByteArray} {pc nL : Nat} {ls : Array Slot} {rest : List Value} {G : va_G} (sv : Nat) (ga : Nat → Nat) {cI cS : ClassId} {u : TH}  {p0 : Int32} {r : Int32} (S : CallFix p m c cc nL s args bwL RL) (hK : va_K G vwCl (tysW cI cS) s) (hN : NW s) (hP : va_P G vwCl (wH cI sv ga u) H) (hf : fX4_next u p0 = some r) (hsz : ls.size = nL) (hst : (rest.map fun v => v.category).sum ≤ 8) (hR : rmX4_next.frames + 1 ≤ R.frames ∧ 8 + (6 + 11) + rmX4_next.locals ≤ R.locals) (hdg : decode cc pc = .ok (.invokevirtual 128, 3)) (hcs : cells + 0 ≤ R.cells ∧ slots + 0 ≤ R.slots) : va_Run p l e R s m args below meth c H locs cells slots 0 0 (F0 m pc ls (.int p0 :: .ref (ga 0) :: rest)) rest (vp_Si (fun r' => r' = r) (#[.ref (ga 0), .int p0] : Array Value)) (fun _ => False) :=
  va_runV (As := [.int p0]) (rest := rest) S (kX4_next l G cI cS sv ga u p0 r hf) (cwV 1 S.2.2.2.2 (gdVL ql_153 ql_154 ql_155 (bwL_of q_76) (bwL_of q_315)) rfl rfl rfl (by decide +kernel) hR) (pvR (q := (RX4, TX4, 8)) hK hN hP (ci := 4) (q0 := 0) rfl rfl) rfl rfl hsz rfl (lv_room hst) hdg hcs
theorem cc_L_131 {p : Program} {l : Launch} {e : Env} {R : Room} {s : State} {m : MethodId} {args : Array Value} {below : List Frame} {meth : Method} {c : Code} {H : Heap} {locs : List Loc} {cells slots : Nat} {cc : ByteArray} {pc nL : Nat} {ls : Array Slot} {rest : List Value} {G : va_G} {A : Nat → Prop} (ga : Nat → Nat) {cI cS : ClassId} {u : TM}  {p0 : Int32} {r : Int32 × TM} (S : CallFix p m c cc nL s args bwL RL) (hK : va_K G vwCl (tysW cI cS) s) (hN : NW s) (hP : va_P G vwCl (wM cI ga u) H) (hD : va_D A (wM cI ga u)) (hf : fX5_next u p0 = some r) (hsz : ls.size = nL) (hst : (rest.map fun v => v.category).sum ≤ 8) (hR : rmX5_next.frames + 1 ≤ R.frames ∧ 8 + (4 + 11) + rmX5_next.locals ≤ R.locals) (hdg : decode cc pc = .ok (.invokevirtual 131, 3)) (hcs : cells + 0 ≤ R.cells ∧ slots + 0 ≤ R.slots) : va_Run p l e R s m args below meth c H locs cells slots 0 0 (F0 m pc ls (.int p0 :: .ref (ga 0) :: rest)) rest (va_Qi (fun r' u' => (r', u') = r) (PoM G (tysW cI cS) (va_A (wM cI ga u) H.size) (wM cI ga)) (va_A (wM cI ga u) H.size) (#[.ref (ga 0), .int p0] : Array Value)) (va_A (wM cI ga u) H.size) :=
  va_runV (As := [.int p0]) (rest := rest) S (kX5_next l G cI cS ga H.size u p0 r hf) (cwV 1 S.2.2.2.2 (gdVL ql_156 ql_157 ql_158 (bwL_of q_392) (bwL_of q_576)) rfl rfl rfl (by decide +kernel) hR) (pvM (q := (RX5, TX5, 12)) hK hN hP hD (ci := 5) (q0 := 0) rfl rfl) rfl rfl hsz rfl (lv_room hst) hdg hcs

def fLc_13 (u : THS × TM × OutR) (a1 a2 : Int32) : Option (THS × TM × OutR) := ((fX4_next u.1.1 a1).bind fun z67 => ((fX5_next u.2.1 a1).bind fun z68 => (if z67 = z68.1 then some (u.1, z68.2, u.2.2) else none)))
set_option maxRecDepth 100000 in
set_option maxHeartbeats 4000000 in
theorem kLc_13 {p : Program} {l : Launch} {e : Env} {s : State} {m : MethodId} {args : Array Value} {below : List Frame} {meth : Method} {c : Code} {Q : State → Prop} {b L : Nat} {xs : Nat → Int32} {G : va_G} {cI cS cL : ClassId} {A : Nat → Prop} {B0 : Nat} (C0 : LawC p l s m args c b L xs G cI cS cL A B0) (sv : Nat) (gx gm : Nat → Nat) (og : Nat) (u : THS × TM × OutR) (x4 a1 a2 : Int32) (u' : THS × TM × OutR) (hf : fLc_13 u a1 a2 = some u') (hin1 : vp_in (x4 + (1 : Int32)) L) (hin2 : vp_in (x4 + (2 : Int32)) L) (hs1 : xs (x4 + (1 : Int32)).toNatClampNeg = a1) (hs2 : xs (x4 + (2 : Int32)).toNatClampNeg = a2) (cells slots : Nat) (hc9 : cells + 2 ≤ 601024) (hs9 : slots + 12 ≤ 7293034)
    (K : ∀ (v : THS × TM × OutR), v = u' → ∀ (H : Heap) (locs : List Loc) (ls : Array Slot) (cells' slots' : Nat), cells' ≤ cells + 2 → slots' ≤ slots + 12 → va_P G vwCl (wW cI cS cL sv gx gm og v) H → va_D A (wW cI cS cL sv gx gm og v) → va_S A s.heap H locs → lv_has ls 9 [(0, .ref b), (1, .ref (gx 0)), (2, .ref (gm 0)), (3, .ref og), (4, .int x4)] → W p l e room_1 s m args below meth c H locs cells' slots' Q (F0 m 1493 ls []))
    (H : Heap) (locs : List Loc) (ls : Array Slot) (hP : va_P G vwCl (wW cI cS cL sv gx gm og u) H) (hD : va_D A (wW cI cS cL sv gx gm og u)) (hS : va_S A s.heap H locs) (hl : lv_has ls 9 [(0, .ref b), (1, .ref (gx 0)), (2, .ref (gm 0)), (3, .ref og), (4, .int x4)]) : W p l e room_1 s m args below meth c H locs cells slots Q (F0 m 768 ls []) := by
  obtain ⟨hst, S, hK, hN, hC, hA, hAB, hB, hX, hX0, hbl, hbA⟩ := C0
  have hx := S.1; have hb := S.2.1; have hml := S.2.2.1; have hown := S.2.2.2.1; have hq := S.2.2.2.2
  have h := hf
  unfold fLc_13 at h
  refine lv_aload_n hx hb dL_law_768 rfl (lv_at hl 1 rfl) ?_
  refine lv_aload_n hx hb dL_law_769 rfl (lv_at hl 0 rfl) ?_
  refine lv_iload hx hb dL_law_770 (lv_at hl 4 rfl) ?_
  refine lv_iconst (v := 1) hx hb dL_law_772 (by decide) ?_
  refine lv_iadd hx hb dL_law_773 ?_
  refine sldO hx hb hX0 hbl hbA hS hin1 hs1 dL_law_774 ?_
  obtain ⟨z67, e_z67, h⟩ := bnd h
  refine roI (cc_L_128 sv gx S (hK.sub [0, 1] rfl) hN (hP.sub [0, 1, 2, 3, 4, 5, 6, 7, 8, 9, 10, 11, 12] rfl) e_z67 hl.1 (Nat.le_of_ble_eq_true rfl) ⟨(Nat.le_of_ble_eq_true rfl), (Nat.le_of_ble_eq_true rfl)⟩ dL_law_775 ⟨by show _ ≤ 601024; omega, by show _ ≤ 7293034; omega⟩) ?_
  refine lv_aload_n hx hb dL_law_778 rfl (lv_at hl 2 rfl) ?_
  refine lv_aload_n hx hb dL_law_779 rfl (lv_at hl 0 rfl) ?_
  refine lv_iload hx hb dL_law_780 (lv_at hl 4 rfl) ?_
  refine lv_iconst (v := 1) hx hb dL_law_782 (by decide) ?_
  refine lv_iadd hx hb dL_law_783 ?_
  refine sldO hx hb hX0 hbl hbA hS hin1 hs1 dL_law_784 ?_
  obtain ⟨z68, e_z68, h⟩ := bnd h
  refine mkI (cc_L_131 gm S (hK.sub [0, 1] rfl) hN (hP.sub [26, 27, 28, 29, 30] rfl) (hD.sub [26, 27, 28, 29, 30] (by decide) rfl) e_z68 hl.1 (Nat.le_of_ble_eq_true rfl) ⟨(Nat.le_of_ble_eq_true rfl), (Nat.le_of_ble_eq_true rfl)⟩ dL_law_785 ⟨by show _ ≤ 601024; omega, by show _ ≤ 7293034; omega⟩) hS hP hD hA [26, 27, 28, 29, 30] [0, 1, 2, 3, 4, 5, 6, 7, 8, 9, 10, 11, 12, 13, 14, 15, 16, 17, 18, 19, 20, 21, 22, 23, 24, 25, 31] rfl rfl (by decide) (by decide) [0, 1, 2, 3, 4, 5, 6, 7, 8, 9, 10, 11, 12, 13, 14, 15, 16, 17, 18, 19, 20, 21, 22, 23, 24, 25, 27, 28, 29, 30, 31, 26] (by decide) (wW cI cS cL sv gx gm og (u.1, z68.2, u.2.2)) rfl (fun H locs hP hD hS => ?_)
  refine lv_icmp_eq (tgt := 1493) hx hb dL_law_788 (by decide) (fun c69 => ?_) (fun c69 => ?_)
  · have h := (if_pos c69).symm.trans h
    exact K _ (Option.some.inj h) _ _ _ _ _ (by omega) (by omega) hP hD hS (lv_sub hl [0, 1, 2, 3, 4] rfl)
  · have h := (if_neg c69).symm.trans h
    refine lv_iconst (v := 0) hx hb dL_law_791 (by decide) ?_
    cases h
theorem cc_L_132 {p : Program} {l : Launch} {e : Env} {R : Room} {s : State} {m : MethodId} {args : Array Value} {below : List Frame} {meth : Method} {c : Code} {H : Heap} {locs : List Loc} {cells slots : Nat} {cc : ByteArray} {pc nL : Nat} {ls : Array Slot} {rest : List Value} {G : va_G} (sv : Nat) (ga : Nat → Nat) {cI cS : ClassId} {u : TH}  {p0 : Int32} {r : Int32} (S : CallFix p m c cc nL s args bwL RL) (hK : va_K G vwCl (tysW cI cS) s) (hN : NW s) (hP : va_P G vwCl (wH cI sv ga u) H) (hf : fX4_rowAt u p0 = some r) (hsz : ls.size = nL) (hst : (rest.map fun v => v.category).sum ≤ 8) (hR : rmX4_rowAt.frames + 1 ≤ R.frames ∧ 8 + (3 + 11) + rmX4_rowAt.locals ≤ R.locals) (hdg : decode cc pc = .ok (.invokevirtual 132, 3)) (hcs : cells + 0 ≤ R.cells ∧ slots + 0 ≤ R.slots) : va_Run p l e R s m args below meth c H locs cells slots 0 0 (F0 m pc ls (.int p0 :: .ref (ga 0) :: rest)) rest (vp_Si (fun r' => r' = r) (#[.ref (ga 0), .int p0] : Array Value)) (fun _ => False) :=
  va_runV (As := [.int p0]) (rest := rest) S (kX4_rowAt l G cI cS sv ga u p0 r hf) (cwV 1 S.2.2.2.2 (gdVL ql_159 (bwL_of q_313) (bwL_of q_314) (bwL_of q_76) (bwL_of q_311)) rfl rfl rfl (by decide +kernel) hR) (pvR (q := (RX4, TX4, 8)) hK hN hP (ci := 4) (q0 := 0) rfl rfl) rfl rfl hsz rfl (lv_room hst) hdg hcs
theorem cc_L_135 {p : Program} {l : Launch} {e : Env} {R : Room} {s : State} {m : MethodId} {args : Array Value} {below : List Frame} {meth : Method} {c : Code} {H : Heap} {locs : List Loc} {cells slots : Nat} {cc : ByteArray} {pc nL : Nat} {ls : Array Slot} {rest : List Value} {G : va_G} {A : Nat → Prop} (ga : Nat → Nat) {cI cS : ClassId} {u : TM}  {p0 : Int32} {r : Int32 × TM} (S : CallFix p m c cc nL s args bwL RL) (hK : va_K G vwCl (tysW cI cS) s) (hN : NW s) (hP : va_P G vwCl (wM cI ga u) H) (hD : va_D A (wM cI ga u)) (hf : fX5_rowAt u p0 = some r) (hsz : ls.size = nL) (hst : (rest.map fun v => v.category).sum ≤ 8) (hR : rmX5_rowAt.frames + 1 ≤ R.frames ∧ 8 + (3 + 11) + rmX5_rowAt.locals ≤ R.locals) (hdg : decode cc pc = .ok (.invokevirtual 135, 3)) (hcs : cells + 0 ≤ R.cells ∧ slots + 0 ≤ R.slots) : va_Run p l e R s m args below meth c H locs cells slots 0 0 (F0 m pc ls (.int p0 :: .ref (ga 0) :: rest)) rest (va_Qi (fun r' u' => (r', u') = r) (PoM G (tysW cI cS) (va_A (wM cI ga u) H.size) (wM cI ga)) (va_A (wM cI ga u) H.size) (#[.ref (ga 0), .int p0] : Array Value)) (va_A (wM cI ga u) H.size) :=
  va_runV (As := [.int p0]) (rest := rest) S (kX5_rowAt l G cI cS ga H.size u p0 r hf) (cwV 1 S.2.2.2.2 (gdVL ql_160 ql_161 ql_162 (bwL_of q_392) (bwL_of q_577)) rfl rfl rfl (by decide +kernel) hR) (pvM (q := (RX5, TX5, 12)) hK hN hP hD (ci := 5) (q0 := 0) rfl rfl) rfl rfl hsz rfl (lv_room hst) hdg hcs

def fLc_14 (u : THS × TM × OutR) (a1 a2 : Int32) : Option (THS × TM × OutR) := ((fX4_rowAt u.1.1 a1).bind fun z70 => ((fX5_rowAt u.2.1 a1).bind fun z71 => (if z70 = z71.1 then some (u.1, z71.2, u.2.2) else none)))
set_option maxRecDepth 100000 in
set_option maxHeartbeats 4000000 in
theorem kLc_14 {p : Program} {l : Launch} {e : Env} {s : State} {m : MethodId} {args : Array Value} {below : List Frame} {meth : Method} {c : Code} {Q : State → Prop} {b L : Nat} {xs : Nat → Int32} {G : va_G} {cI cS cL : ClassId} {A : Nat → Prop} {B0 : Nat} (C0 : LawC p l s m args c b L xs G cI cS cL A B0) (sv : Nat) (gx gm : Nat → Nat) (og : Nat) (u : THS × TM × OutR) (x4 a1 a2 : Int32) (u' : THS × TM × OutR) (hf : fLc_14 u a1 a2 = some u') (hin1 : vp_in (x4 + (1 : Int32)) L) (hin2 : vp_in (x4 + (2 : Int32)) L) (hs1 : xs (x4 + (1 : Int32)).toNatClampNeg = a1) (hs2 : xs (x4 + (2 : Int32)).toNatClampNeg = a2) (cells slots : Nat) (hc9 : cells + 2 ≤ 601024) (hs9 : slots + 12 ≤ 7293034)
    (K : ∀ (v : THS × TM × OutR), v = u' → ∀ (H : Heap) (locs : List Loc) (ls : Array Slot) (cells' slots' : Nat), cells' ≤ cells + 2 → slots' ≤ slots + 12 → va_P G vwCl (wW cI cS cL sv gx gm og v) H → va_D A (wW cI cS cL sv gx gm og v) → va_S A s.heap H locs → lv_has ls 9 [(0, .ref b), (1, .ref (gx 0)), (2, .ref (gm 0)), (3, .ref og), (4, .int x4)] → W p l e room_1 s m args below meth c H locs cells' slots' Q (F0 m 1493 ls []))
    (H : Heap) (locs : List Loc) (ls : Array Slot) (hP : va_P G vwCl (wW cI cS cL sv gx gm og u) H) (hD : va_D A (wW cI cS cL sv gx gm og u)) (hS : va_S A s.heap H locs) (hl : lv_has ls 9 [(0, .ref b), (1, .ref (gx 0)), (2, .ref (gm 0)), (3, .ref og), (4, .int x4)]) : W p l e room_1 s m args below meth c H locs cells slots Q (F0 m 793 ls []) := by
  obtain ⟨hst, S, hK, hN, hC, hA, hAB, hB, hX, hX0, hbl, hbA⟩ := C0
  have hx := S.1; have hb := S.2.1; have hml := S.2.2.1; have hown := S.2.2.2.1; have hq := S.2.2.2.2
  have h := hf
  unfold fLc_14 at h
  refine lv_aload_n hx hb dL_law_793 rfl (lv_at hl 1 rfl) ?_
  refine lv_aload_n hx hb dL_law_794 rfl (lv_at hl 0 rfl) ?_
  refine lv_iload hx hb dL_law_795 (lv_at hl 4 rfl) ?_
  refine lv_iconst (v := 1) hx hb dL_law_797 (by decide) ?_
  refine lv_iadd hx hb dL_law_798 ?_
  refine sldO hx hb hX0 hbl hbA hS hin1 hs1 dL_law_799 ?_
  obtain ⟨z70, e_z70, h⟩ := bnd h
  refine roI (cc_L_132 sv gx S (hK.sub [0, 1] rfl) hN (hP.sub [0, 1, 2, 3, 4, 5, 6, 7, 8, 9, 10, 11, 12] rfl) e_z70 hl.1 (Nat.le_of_ble_eq_true rfl) ⟨(Nat.le_of_ble_eq_true rfl), (Nat.le_of_ble_eq_true rfl)⟩ dL_law_800 ⟨by show _ ≤ 601024; omega, by show _ ≤ 7293034; omega⟩) ?_
  refine lv_aload_n hx hb dL_law_803 rfl (lv_at hl 2 rfl) ?_
  refine lv_aload_n hx hb dL_law_804 rfl (lv_at hl 0 rfl) ?_
  refine lv_iload hx hb dL_law_805 (lv_at hl 4 rfl) ?_
  refine lv_iconst (v := 1) hx hb dL_law_807 (by decide) ?_
  refine lv_iadd hx hb dL_law_808 ?_
  refine sldO hx hb hX0 hbl hbA hS hin1 hs1 dL_law_809 ?_
  obtain ⟨z71, e_z71, h⟩ := bnd h
  refine mkI (cc_L_135 gm S (hK.sub [0, 1] rfl) hN (hP.sub [26, 27, 28, 29, 30] rfl) (hD.sub [26, 27, 28, 29, 30] (by decide) rfl) e_z71 hl.1 (Nat.le_of_ble_eq_true rfl) ⟨(Nat.le_of_ble_eq_true rfl), (Nat.le_of_ble_eq_true rfl)⟩ dL_law_810 ⟨by show _ ≤ 601024; omega, by show _ ≤ 7293034; omega⟩) hS hP hD hA [26, 27, 28, 29, 30] [0, 1, 2, 3, 4, 5, 6, 7, 8, 9, 10, 11, 12, 13, 14, 15, 16, 17, 18, 19, 20, 21, 22, 23, 24, 25, 31] rfl rfl (by decide) (by decide) [0, 1, 2, 3, 4, 5, 6, 7, 8, 9, 10, 11, 12, 13, 14, 15, 16, 17, 18, 19, 20, 21, 22, 23, 24, 25, 27, 28, 29, 30, 31, 26] (by decide) (wW cI cS cL sv gx gm og (u.1, z71.2, u.2.2)) rfl (fun H locs hP hD hS => ?_)
  refine lv_icmp_eq (tgt := 1493) hx hb dL_law_813 (by decide) (fun c72 => ?_) (fun c72 => ?_)
  · have h := (if_pos c72).symm.trans h
    exact K _ (Option.some.inj h) _ _ _ _ _ (by omega) (by omega) hP hD hS (lv_sub hl [0, 1, 2, 3, 4] rfl)
  · have h := (if_neg c72).symm.trans h
    refine lv_iconst (v := 0) hx hb dL_law_816 (by decide) ?_
    cases h
theorem cc_L_136 {p : Program} {l : Launch} {e : Env} {R : Room} {s : State} {m : MethodId} {args : Array Value} {below : List Frame} {meth : Method} {c : Code} {H : Heap} {locs : List Loc} {cells slots : Nat} {cc : ByteArray} {pc nL : Nat} {ls : Array Slot} {rest : List Value} {G : va_G} (sv : Nat) (ga : Nat → Nat) {cI cS : ClassId} {u : TH}  {r : Int32} (S : CallFix p m c cc nL s args bwL RL) (hK : va_K G vwCl (tysW cI cS) s) (hN : NW s) (hP : va_P G vwCl (wH cI sv ga u) H) (hf : fX4_pages u = some r) (hsz : ls.size = nL) (hst : (rest.map fun v => v.category).sum ≤ 8) (hR : rmX4_pages.frames + 1 ≤ R.frames ∧ 8 + (1 + 11) + rmX4_pages.locals ≤ R.locals) (hdg : decode cc pc = .ok (.invokevirtual 136, 3)) (hcs : cells + 0 ≤ R.cells ∧ slots + 0 ≤ R.slots) : va_Run p l e R s m args below meth c H locs cells slots 0 0 (F0 m pc ls (.ref (ga 0) :: rest)) rest (vp_Si (fun r' => r' = r) (#[.ref (ga 0)] : Array Value)) (fun _ => False) :=
  va_runV (As := []) (rest := rest) S (kX4_pages l G cI cS sv ga u r hf) (cwV 0 S.2.2.2.2 (gdVL ql_163 ql_164 ql_165 (bwL_of q_76) (bwL_of q_316)) rfl rfl rfl (by decide +kernel) hR) (pvR (q := (RX4, TX4, 8)) hK hN hP (ci := 4) (q0 := 0) rfl rfl) rfl rfl hsz rfl (lv_room hst) hdg hcs
theorem cc_L_139 {p : Program} {l : Launch} {e : Env} {R : Room} {s : State} {m : MethodId} {args : Array Value} {below : List Frame} {meth : Method} {c : Code} {H : Heap} {locs : List Loc} {cells slots : Nat} {cc : ByteArray} {pc nL : Nat} {ls : Array Slot} {rest : List Value} {G : va_G} {A : Nat → Prop} (ga : Nat → Nat) {cI cS : ClassId} {u : TM}  {r : Int32 × TM} (S : CallFix p m c cc nL s args bwL RL) (hK : va_K G vwCl (tysW cI cS) s) (hN : NW s) (hP : va_P G vwCl (wM cI ga u) H) (hD : va_D A (wM cI ga u)) (hf : fX5_pages u = some r) (hsz : ls.size = nL) (hst : (rest.map fun v => v.category).sum ≤ 8) (hR : rmX5_pages.frames + 1 ≤ R.frames ∧ 8 + (1 + 11) + rmX5_pages.locals ≤ R.locals) (hdg : decode cc pc = .ok (.invokevirtual 139, 3)) (hcs : cells + 0 ≤ R.cells ∧ slots + 0 ≤ R.slots) : va_Run p l e R s m args below meth c H locs cells slots 0 0 (F0 m pc ls (.ref (ga 0) :: rest)) rest (va_Qi (fun r' u' => (r', u') = r) (PoM G (tysW cI cS) (va_A (wM cI ga u) H.size) (wM cI ga)) (va_A (wM cI ga u) H.size) (#[.ref (ga 0)] : Array Value)) (va_A (wM cI ga u) H.size) :=
  va_runV (As := []) (rest := rest) S (kX5_pages l G cI cS ga H.size u r hf) (cwV 0 S.2.2.2.2 (gdVL ql_166 ql_167 ql_168 (bwL_of q_392) (bwL_of q_578)) rfl rfl rfl (by decide +kernel) hR) (pvM (q := (RX5, TX5, 12)) hK hN hP hD (ci := 5) (q0 := 0) rfl rfl) rfl rfl hsz rfl (lv_room hst) hdg hcs

def fLc_15 (u : THS × TM × OutR) (a1 a2 : Int32) : Option (THS × TM × OutR) := ((fX4_pages u.1.1).bind fun z73 => ((fX5_pages u.2.1).bind fun z74 => (if z73 = z74.1 then some (u.1, z74.2, u.2.2) else none)))
set_option maxRecDepth 100000 in
set_option maxHeartbeats 4000000 in
theorem kLc_15 {p : Program} {l : Launch} {e : Env} {s : State} {m : MethodId} {args : Array Value} {below : List Frame} {meth : Method} {c : Code} {Q : State → Prop} {b L : Nat} {xs : Nat → Int32} {G : va_G} {cI cS cL : ClassId} {A : Nat → Prop} {B0 : Nat} (C0 : LawC p l s m args c b L xs G cI cS cL A B0) (sv : Nat) (gx gm : Nat → Nat) (og : Nat) (u : THS × TM × OutR) (x4 a1 a2 : Int32) (u' : THS × TM × OutR) (hf : fLc_15 u a1 a2 = some u') (hin1 : vp_in (x4 + (1 : Int32)) L) (hin2 : vp_in (x4 + (2 : Int32)) L) (hs1 : xs (x4 + (1 : Int32)).toNatClampNeg = a1) (hs2 : xs (x4 + (2 : Int32)).toNatClampNeg = a2) (cells slots : Nat) (hc9 : cells + 2 ≤ 601024) (hs9 : slots + 12 ≤ 7293034)
    (K : ∀ (v : THS × TM × OutR), v = u' → ∀ (H : Heap) (locs : List Loc) (ls : Array Slot) (cells' slots' : Nat), cells' ≤ cells + 2 → slots' ≤ slots + 12 → va_P G vwCl (wW cI cS cL sv gx gm og v) H → va_D A (wW cI cS cL sv gx gm og v) → va_S A s.heap H locs → lv_has ls 9 [(0, .ref b), (1, .ref (gx 0)), (2, .ref (gm 0)), (3, .ref og), (4, .int x4)] → W p l e room_1 s m args below meth c H locs cells' slots' Q (F0 m 1493 ls []))
    (H : Heap) (locs : List Loc) (ls : Array Slot) (hP : va_P G vwCl (wW cI cS cL sv gx gm og u) H) (hD : va_D A (wW cI cS cL sv gx gm og u)) (hS : va_S A s.heap H locs) (hl : lv_has ls 9 [(0, .ref b), (1, .ref (gx 0)), (2, .ref (gm 0)), (3, .ref og), (4, .int x4)]) : W p l e room_1 s m args below meth c H locs cells slots Q (F0 m 818 ls []) := by
  obtain ⟨hst, S, hK, hN, hC, hA, hAB, hB, hX, hX0, hbl, hbA⟩ := C0
  have hx := S.1; have hb := S.2.1; have hml := S.2.2.1; have hown := S.2.2.2.1; have hq := S.2.2.2.2
  have h := hf
  unfold fLc_15 at h
  refine lv_aload_n hx hb dL_law_818 rfl (lv_at hl 1 rfl) ?_
  obtain ⟨z73, e_z73, h⟩ := bnd h
  refine roI (cc_L_136 sv gx S (hK.sub [0, 1] rfl) hN (hP.sub [0, 1, 2, 3, 4, 5, 6, 7, 8, 9, 10, 11, 12] rfl) e_z73 hl.1 (Nat.le_of_ble_eq_true rfl) ⟨(Nat.le_of_ble_eq_true rfl), (Nat.le_of_ble_eq_true rfl)⟩ dL_law_819 ⟨by show _ ≤ 601024; omega, by show _ ≤ 7293034; omega⟩) ?_
  refine lv_aload_n hx hb dL_law_822 rfl (lv_at hl 2 rfl) ?_
  obtain ⟨z74, e_z74, h⟩ := bnd h
  refine mkI (cc_L_139 gm S (hK.sub [0, 1] rfl) hN (hP.sub [26, 27, 28, 29, 30] rfl) (hD.sub [26, 27, 28, 29, 30] (by decide) rfl) e_z74 hl.1 (Nat.le_of_ble_eq_true rfl) ⟨(Nat.le_of_ble_eq_true rfl), (Nat.le_of_ble_eq_true rfl)⟩ dL_law_823 ⟨by show _ ≤ 601024; omega, by show _ ≤ 7293034; omega⟩) hS hP hD hA [26, 27, 28, 29, 30] [0, 1, 2, 3, 4, 5, 6, 7, 8, 9, 10, 11, 12, 13, 14, 15, 16, 17, 18, 19, 20, 21, 22, 23, 24, 25, 31] rfl rfl (by decide) (by decide) [0, 1, 2, 3, 4, 5, 6, 7, 8, 9, 10, 11, 12, 13, 14, 15, 16, 17, 18, 19, 20, 21, 22, 23, 24, 25, 27, 28, 29, 30, 31, 26] (by decide) (wW cI cS cL sv gx gm og (u.1, z74.2, u.2.2)) rfl (fun H locs hP hD hS => ?_)
  refine lv_icmp_eq (tgt := 1493) hx hb dL_law_826 (by decide) (fun c75 => ?_) (fun c75 => ?_)
  · have h := (if_pos c75).symm.trans h
    exact K _ (Option.some.inj h) _ _ _ _ _ (by omega) (by omega) hP hD hS (lv_sub hl [0, 1, 2, 3, 4] rfl)
  · have h := (if_neg c75).symm.trans h
    refine lv_iconst (v := 0) hx hb dL_law_829 (by decide) ?_
    cases h
theorem cc_L_140 {p : Program} {l : Launch} {e : Env} {R : Room} {s : State} {m : MethodId} {args : Array Value} {below : List Frame} {meth : Method} {c : Code} {H : Heap} {locs : List Loc} {cells slots : Nat} {cc : ByteArray} {pc nL : Nat} {ls : Array Slot} {rest : List Value} {G : va_G} {A : Nat → Prop} {B0 : Nat} (sv : Nat) (gx : Nat → Nat) (og : Nat) {cI cS cL : ClassId} {u : THS × OutR} {p0 : Int32} {p1 : Int32} {r : Int32 × (THS × OutR)} (hst : l.stackTraces = false) (S : CallFix p m c cc nL s args bwL RL) (hK : va_K G vwCl (tysL cI cS cL) s) (hN : NW s) (hC : NC s) (hP : va_P G vwCl (wO cI cS cL sv gx og u) H) (hD : va_D A (wO cI cS cL sv gx og u)) (hS : va_S A s.heap H locs) (hAB : ∀ q, A q → B0 ≤ q) (hB : B0 ≤ s.heap.size) (hX : XT B0 s s.heap) (hf : fL_pageByte u p0 p1 = some r) (hsz : ls.size = nL) (hsk : (rest.map fun v => v.category).sum ≤ 8) (hR : rmL_pageByte.frames + 1 ≤ R.frames ∧ 8 + (5 + 11) + rmL_pageByte.locals ≤ R.locals) (hdg : decode cc pc = .ok (.invokestatic 140, 3)) (hcs : cells + 2 ≤ R.cells ∧ slots + 12 ≤ R.slots) : va_Run p l e R s m args below meth c H locs cells slots 2 12 (F0 m pc ls (.ref og :: .int p1 :: .int p0 :: .ref (gx 0) :: rest)) rest (va_Qi (fun r' u' => (r', u') = r) (PoM G (tysL cI cS cL) (va_A (wO cI cS cL sv gx og u) H.size) (wO cI cS cL sv gx og)) (va_A (wO cI cS cL sv gx og u) H.size) (#[.ref (gx 0), .int p0, .int p1, .ref og] : Array Value)) (va_A (wO cI cS cL sv gx og u) H.size) :=
  vx_runSW (As := [.ref (gx 0), .int p0, .int p1, .ref og]) (rest := rest) S (kL_pageByte l hst G cI cS cL sv gx og H.size B0 u p0 p1 r hf) (vx_cwSW 4 S.2.2.2.2 (gdWL ql_169 ql_170 ql_86 ql_39) rfl rfl rfl (by decide +kernel) hR) (psL hK hN hC hP hD hS hAB hB hX) rfl rfl hsz rfl (lv_room hsk) hdg hcs
theorem cc_L_142 {p : Program} {l : Launch} {e : Env} {R : Room} {s : State} {m : MethodId} {args : Array Value} {below : List Frame} {meth : Method} {c : Code} {H : Heap} {locs : List Loc} {cells slots : Nat} {cc : ByteArray} {pc nL : Nat} {ls : Array Slot} {rest : List Value} {G : va_G} {A : Nat → Prop} (ga : Nat → Nat) {cI cS : ClassId} {u : TM}  {p0 : Int32} {p1 : Int32} {r : Int32 × TM} (S : CallFix p m c cc nL s args bwL RL) (hK : va_K G vwCl (tysW cI cS) s) (hN : NW s) (hP : va_P G vwCl (wM cI ga u) H) (hD : va_D A (wM cI ga u)) (hf : fX5_pageByte u p0 p1 = some r) (hsz : ls.size = nL) (hst : (rest.map fun v => v.category).sum ≤ 8) (hR : rmX5_pageByte.frames + 1 ≤ R.frames ∧ 8 + (3 + 11) + rmX5_pageByte.locals ≤ R.locals) (hdg : decode cc pc = .ok (.invokevirtual 142, 3)) (hcs : cells + 0 ≤ R.cells ∧ slots + 0 ≤ R.slots) : va_Run p l e R s m args below meth c H locs cells slots 0 0 (F0 m pc ls (.int p1 :: .int p0 :: .ref (ga 0) :: rest)) rest (va_Qi (fun r' u' => (r', u') = r) (PoM G (tysW cI cS) (va_A (wM cI ga u) H.size) (wM cI ga)) (va_A (wM cI ga u) H.size) (#[.ref (ga 0), .int p0, .int p1] : Array Value)) (va_A (wM cI ga u) H.size) :=
  va_runV (As := [.int p0, .int p1]) (rest := rest) S (kX5_pageByte l G cI cS ga H.size u p0 p1 r hf) (cwV 2 S.2.2.2.2 (gdVL ql_171 ql_172 ql_173 (bwL_of q_392) (bwL_of q_582)) rfl rfl rfl (by decide +kernel) hR) (pvM (q := (RX5, TX5, 12)) hK hN hP hD (ci := 5) (q0 := 0) rfl rfl) rfl rfl hsz rfl (lv_room hst) hdg hcs

def fLc_16 (u : THS × TM × OutR) (a1 a2 : Int32) : Option (THS × TM × OutR) := ((fL_pageByte (u.1, u.2.2) a1 a2).bind fun z76 => ((fX5_pageByte u.2.1 a1 a2).bind fun z77 => ((fX5_thrown z77.2).bind fun z78 => (if z78 = z76.1 then (if z76.1 = 0 then (if (lg_cmp (z76.2.2 (0 : Int32).toNatClampNeg) z77.1.toInt64) = 0 then some (z76.2.1, z77.2, z76.2.2) else none) else some (z76.2.1, z77.2, z76.2.2)) else none))))
set_option maxRecDepth 100000 in
set_option maxHeartbeats 4000000 in
theorem kLc_16 {p : Program} {l : Launch} {e : Env} {s : State} {m : MethodId} {args : Array Value} {below : List Frame} {meth : Method} {c : Code} {Q : State → Prop} {b L : Nat} {xs : Nat → Int32} {G : va_G} {cI cS cL : ClassId} {A : Nat → Prop} {B0 : Nat} (C0 : LawC p l s m args c b L xs G cI cS cL A B0) (sv : Nat) (gx gm : Nat → Nat) (og : Nat) (u : THS × TM × OutR) (x4 a1 a2 : Int32) (u' : THS × TM × OutR) (hf : fLc_16 u a1 a2 = some u') (hin1 : vp_in (x4 + (1 : Int32)) L) (hin2 : vp_in (x4 + (2 : Int32)) L) (hs1 : xs (x4 + (1 : Int32)).toNatClampNeg = a1) (hs2 : xs (x4 + (2 : Int32)).toNatClampNeg = a2) (cells slots : Nat) (hc9 : cells + 2 ≤ 601024) (hs9 : slots + 12 ≤ 7293034)
    (K : ∀ (v : THS × TM × OutR), v = u' → ∀ (H : Heap) (locs : List Loc) (ls : Array Slot) (cells' slots' : Nat), cells' ≤ cells + 2 → slots' ≤ slots + 12 → va_P G vwCl (wW cI cS cL sv gx gm og v) H → va_D A (wW cI cS cL sv gx gm og v) → va_S A s.heap H locs → lv_has ls 9 [(0, .ref b), (1, .ref (gx 0)), (2, .ref (gm 0)), (3, .ref og), (4, .int x4)] → W p l e room_1 s m args below meth c H locs cells' slots' Q (F0 m 1493 ls []))
    (H : Heap) (locs : List Loc) (ls : Array Slot) (hP : va_P G vwCl (wW cI cS cL sv gx gm og u) H) (hD : va_D A (wW cI cS cL sv gx gm og u)) (hS : va_S A s.heap H locs) (hl : lv_has ls 9 [(0, .ref b), (1, .ref (gx 0)), (2, .ref (gm 0)), (3, .ref og), (4, .int x4)]) : W p l e room_1 s m args below meth c H locs cells slots Q (F0 m 831 ls []) := by
  obtain ⟨hst, S, hK, hN, hC, hA, hAB, hB, hX, hX0, hbl, hbA⟩ := C0
  have hx := S.1; have hb := S.2.1; have hml := S.2.2.1; have hown := S.2.2.2.1; have hq := S.2.2.2.2
  have h := hf
  unfold fLc_16 at h
  refine lv_aload_n hx hb dL_law_831 rfl (lv_at hl 1 rfl) ?_
  refine lv_aload_n hx hb dL_law_832 rfl (lv_at hl 0 rfl) ?_
  refine lv_iload hx hb dL_law_833 (lv_at hl 4 rfl) ?_
  refine lv_iconst (v := 1) hx hb dL_law_835 (by decide) ?_
  refine lv_iadd hx hb dL_law_836 ?_
  refine sldO hx hb hX0 hbl hbA hS hin1 hs1 dL_law_837 ?_
  refine lv_aload_n hx hb dL_law_838 rfl (lv_at hl 0 rfl) ?_
  refine lv_iload hx hb dL_law_839 (lv_at hl 4 rfl) ?_
  refine lv_iconst (v := 2) hx hb dL_law_841 (by decide) ?_
  refine lv_iadd hx hb dL_law_842 ?_
  refine sldO hx hb hX0 hbl hbA hS hin2 hs2 dL_law_843 ?_
  refine lv_aload_n hx hb dL_law_844 rfl (lv_at hl 3 rfl) ?_
  obtain ⟨z76, e_z76, h⟩ := bnd h
  refine mkI (cc_L_140 sv gx og hst S hK hN hC (hP.sub [0, 1, 2, 3, 4, 5, 6, 7, 8, 9, 10, 11, 12, 13, 14, 15, 16, 17, 18, 19, 20, 21, 22, 23, 24, 25, 31] rfl) (hD.sub [0, 1, 2, 3, 4, 5, 6, 7, 8, 9, 10, 11, 12, 13, 14, 15, 16, 17, 18, 19, 20, 21, 22, 23, 24, 25, 31] (by decide) rfl) hS hAB hB hX e_z76 hl.1 (Nat.le_of_ble_eq_true rfl) ⟨(Nat.le_of_ble_eq_true rfl), (Nat.le_of_ble_eq_true rfl)⟩ dL_law_845 ⟨by show _ ≤ 601024; omega, by show _ ≤ 7293034; omega⟩) hS hP hD hA [0, 1, 2, 3, 4, 5, 6, 7, 8, 9, 10, 11, 12, 13, 14, 15, 16, 17, 18, 19, 20, 21, 22, 23, 24, 25, 31] [26, 27, 28, 29, 30] rfl rfl (by decide) (by decide) [5, 6, 7, 8, 9, 10, 11, 12, 13, 14, 15, 16, 17, 18, 19, 20, 21, 22, 23, 24, 25, 26, 27, 28, 29, 30, 0, 1, 2, 3, 4, 31] (by decide) (wW cI cS cL sv gx gm og (z76.2.1, u.2.1, z76.2.2)) rfl (fun H locs hP hD hS => ?_)
  refine lv_istore (lv' := [(5, .int z76.1), (0, .ref b), (1, .ref (gx 0)), (2, .ref (gm 0)), (3, .ref og), (4, .int x4)]) hx hb dL_law_848 hl (by decide) rfl (fun ls hl => ?_)
  refine lv_aload_n hx hb dL_law_850 rfl (lv_at hl 3 rfl) ?_
  refine lv_aload_n hx hb dL_law_851 rfl (lv_at hl 1 rfl) ?_
  refine lv_iload hx hb dL_law_852 (lv_at hl 5 rfl) ?_
  refine lv_iconst (v := 1) hx hb dL_law_854 (by decide) ?_
  refine lv_iadd hx hb dL_law_855 ?_
  refine sldO hx hb hX0 hbl hbA hS hin1 hs1 dL_law_856 ?_
  refine lv_aload_n hx hb dL_law_857 rfl (lv_at hl 1 rfl) ?_
  refine lv_iload hx hb dL_law_858 (lv_at hl 5 rfl) ?_
  refine lv_iconst (v := 2) hx hb dL_law_860 (by decide) ?_
  refine lv_iadd hx hb dL_law_861 ?_
  refine sldO hx hb hX0 hbl hbA hS hin2 hs2 dL_law_862 ?_
  obtain ⟨z77, e_z77, h⟩ := bnd h
  refine mkI (cc_L_142 gm S (hK.sub [0, 1] rfl) hN (hP.sub [26, 27, 28, 29, 30] rfl) (hD.sub [26, 27, 28, 29, 30] (by decide) rfl) e_z77 hl.1 (Nat.le_of_ble_eq_true rfl) ⟨(Nat.le_of_ble_eq_true rfl), (Nat.le_of_ble_eq_true rfl)⟩ dL_law_863 ⟨by show _ ≤ 601024; omega, by show _ ≤ 7293034; omega⟩) hS hP hD hA [26, 27, 28, 29, 30] [0, 1, 2, 3, 4, 5, 6, 7, 8, 9, 10, 11, 12, 13, 14, 15, 16, 17, 18, 19, 20, 21, 22, 23, 24, 25, 31] rfl rfl (by decide) (by decide) [0, 1, 2, 3, 4, 5, 6, 7, 8, 9, 10, 11, 12, 13, 14, 15, 16, 17, 18, 19, 20, 21, 22, 23, 24, 25, 27, 28, 29, 30, 31, 26] (by decide) (wW cI cS cL sv gx gm og (z76.2.1, z77.2, z76.2.2)) rfl (fun H locs hP hD hS => ?_)
  refine lv_istore (lv' := [(6, .int z77.1), (5, .int z76.1), (0, .ref b), (1, .ref (gx 0)), (2, .ref (gm 0)), (3, .ref og), (4, .int x4)]) hx hb dL_law_866 hl (by decide) rfl (fun ls hl => ?_)
  refine lv_aload_n hx hb dL_law_868 rfl (lv_at hl 4 rfl) ?_
  obtain ⟨z78, e_z78, h⟩ := bnd h
  refine roI (cc_L_82 gm S (hK.sub [0, 1] rfl) hN (hP.sub [26, 27, 28, 29, 30] rfl) e_z78 hl.1 (Nat.le_of_ble_eq_true rfl) ⟨(Nat.le_of_ble_eq_true rfl), (Nat.le_of_ble_eq_true rfl)⟩ dL_law_869 ⟨by show _ ≤ 601024; omega, by show _ ≤ 7293034; omega⟩) ?_
  refine lv_iload hx hb dL_law_872 (lv_at hl 1 rfl) ?_
  refine lv_icmp_eq (tgt := 879) hx hb dL_law_874 (by decide) (fun c79 => ?_) (fun c79 => ?_)
  · have h := (if_pos c79).symm.trans h
    refine lv_iload hx hb dL_law_879 (lv_at hl 1 rfl) ?_
    refine lv_if_ne (tgt := 896) hx hb dL_law_881 (by decide) (fun c80 => ?_) (fun c80 => ?_)
    · have h := (if_neg c80).symm.trans h
      refine lv_goto (tgt := 1493) hx hb dL_law_896 (by decide) ?_
      exact K _ (Option.some.inj h) _ _ _ _ _ (by omega) (by omega) hP hD hS (lv_sub hl [2, 3, 4, 5, 6] rfl)
    · have h := (if_pos c80).symm.trans h
      refine lv_aload_n hx hb dL_law_884 rfl (lv_at hl 5 rfl) ?_
      refine lv_iconst (v := 0) hx hb dL_law_885 (by decide) ?_
      refine va_lald (f := z76.2.2) hx hb hK hP 31 2 rfl rfl (vp_in_of_not (i := 0) (n := 1) (by decide)) dL_law_886 ?_
      refine lv_iload hx hb dL_law_887 (lv_at hl 0 rfl) ?_
      refine lv_i2l hx hb dL_law_889 rfl ?_
      refine W.lcmp hx hb dL_law_890 ?_
      refine lv_if_eq (tgt := 896) hx hb dL_law_891 (by decide) (fun c81 => ?_) (fun c81 => ?_)
      · have h := (if_pos c81).symm.trans h
        refine lv_goto (tgt := 1493) hx hb dL_law_896 (by decide) ?_
        exact K _ (Option.some.inj h) _ _ _ _ _ (by omega) (by omega) hP hD hS (lv_sub hl [2, 3, 4, 5, 6] rfl)
      · have h := (if_neg c81).symm.trans h
        refine lv_iconst (v := 0) hx hb dL_law_894 (by decide) ?_
        cases h
  · have h := (if_neg c79).symm.trans h
    refine lv_iconst (v := 0) hx hb dL_law_877 (by decide) ?_
    cases h
theorem cc_L_143 {p : Program} {l : Launch} {e : Env} {R : Room} {s : State} {m : MethodId} {args : Array Value} {below : List Frame} {meth : Method} {c : Code} {H : Heap} {locs : List Loc} {cells slots : Nat} {cc : ByteArray} {pc nL : Nat} {ls : Array Slot} {rest : List Value} {G : va_G} {A : Nat → Prop} {B0 : Nat} (sv : Nat) (gx : Nat → Nat) (og : Nat) {cI cS cL : ClassId} {u : THS × OutR} {p0 : Int32} {r : Int32 × (THS × OutR)} (hst : l.stackTraces = false) (S : CallFix p m c cc nL s args bwL RL) (hK : va_K G vwCl (tysL cI cS cL) s) (hN : NW s) (hC : NC s) (hP : va_P G vwCl (wO cI cS cL sv gx og u) H) (hD : va_D A (wO cI cS cL sv gx og u)) (hS : va_S A s.heap H locs) (hAB : ∀ q, A q → B0 ≤ q) (hB : B0 ≤ s.heap.size) (hX : XT B0 s s.heap) (hf : fL_free u p0 = some r) (hsz : ls.size = nL) (hsk : (rest.map fun v => v.category).sum ≤ 8) (hR : rmL_free.frames + 1 ≤ R.frames ∧ 8 + (4 + 11) + rmL_free.locals ≤ R.locals) (hdg : decode cc pc = .ok (.invokestatic 143, 3)) (hcs : cells + 1 ≤ R.cells ∧ slots + 6 ≤ R.slots) : va_Run p l e R s m args below meth c H locs cells slots 1 6 (F0 m pc ls (.ref og :: .int p0 :: .ref (gx 0) :: rest)) rest (va_Qi (fun r' u' => (r', u') = r) (PoM G (tysL cI cS cL) (va_A (wO cI cS cL sv gx og u) H.size) (wO cI cS cL sv gx og)) (va_A (wO cI cS cL sv gx og u) H.size) (#[.ref (gx 0), .int p0, .ref og] : Array Value)) (va_A (wO cI cS cL sv gx og u) H.size) :=
  vx_runSW (As := [.ref (gx 0), .int p0, .ref og]) (rest := rest) S (kL_free l hst G cI cS cL sv gx og H.size B0 u p0 r hf) (vx_cwSW 3 S.2.2.2.2 (gdWL ql_174 ql_175 ql_86 ql_46) rfl rfl rfl (by decide +kernel) hR) (psL hK hN hC hP hD hS hAB hB hX) rfl rfl hsz rfl (lv_room hsk) hdg hcs
theorem cc_L_145 {p : Program} {l : Launch} {e : Env} {R : Room} {s : State} {m : MethodId} {args : Array Value} {below : List Frame} {meth : Method} {c : Code} {H : Heap} {locs : List Loc} {cells slots : Nat} {cc : ByteArray} {pc nL : Nat} {ls : Array Slot} {rest : List Value} {G : va_G} {A : Nat → Prop} (ga : Nat → Nat) {cI cS : ClassId} {u : TM}  {p0 : Int32} {r : Int32 × TM} (S : CallFix p m c cc nL s args bwL RL) (hK : va_K G vwCl (tysW cI cS) s) (hN : NW s) (hP : va_P G vwCl (wM cI ga u) H) (hD : va_D A (wM cI ga u)) (hf : fX5_free u p0 = some r) (hsz : ls.size = nL) (hst : (rest.map fun v => v.category).sum ≤ 8) (hR : rmX5_free.frames + 1 ≤ R.frames ∧ 8 + (2 + 11) + rmX5_free.locals ≤ R.locals) (hdg : decode cc pc = .ok (.invokevirtual 145, 3)) (hcs : cells + 0 ≤ R.cells ∧ slots + 0 ≤ R.slots) : va_Run p l e R s m args below meth c H locs cells slots 0 0 (F0 m pc ls (.int p0 :: .ref (ga 0) :: rest)) rest (va_Qi (fun r' u' => (r', u') = r) (PoM G (tysW cI cS) (va_A (wM cI ga u) H.size) (wM cI ga)) (va_A (wM cI ga u) H.size) (#[.ref (ga 0), .int p0] : Array Value)) (va_A (wM cI ga u) H.size) :=
  va_runV (As := [.int p0]) (rest := rest) S (kX5_free l G cI cS ga H.size u p0 r hf) (cwV 1 S.2.2.2.2 (gdVL ql_176 ql_177 ql_178 (bwL_of q_392) (bwL_of q_583)) rfl rfl rfl (by decide +kernel) hR) (pvM (q := (RX5, TX5, 12)) hK hN hP hD (ci := 5) (q0 := 0) rfl rfl) rfl rfl hsz rfl (lv_room hst) hdg hcs

def fLc_17 (u : THS × TM × OutR) (a1 a2 : Int32) : Option (THS × TM × OutR) := ((fL_free (u.1, u.2.2) a1).bind fun z82 => ((fX5_free u.2.1 a1).bind fun z83 => ((fX5_thrown z83.2).bind fun z84 => (if z84 = z82.1 then (if z82.1 = 0 then (if (lg_cmp (z82.2.2 (0 : Int32).toNatClampNeg) z83.1.toInt64) = 0 then some (z82.2.1, z83.2, z82.2.2) else none) else some (z82.2.1, z83.2, z82.2.2)) else none))))
set_option maxRecDepth 100000 in
set_option maxHeartbeats 4000000 in
theorem kLc_17 {p : Program} {l : Launch} {e : Env} {s : State} {m : MethodId} {args : Array Value} {below : List Frame} {meth : Method} {c : Code} {Q : State → Prop} {b L : Nat} {xs : Nat → Int32} {G : va_G} {cI cS cL : ClassId} {A : Nat → Prop} {B0 : Nat} (C0 : LawC p l s m args c b L xs G cI cS cL A B0) (sv : Nat) (gx gm : Nat → Nat) (og : Nat) (u : THS × TM × OutR) (x4 a1 a2 : Int32) (u' : THS × TM × OutR) (hf : fLc_17 u a1 a2 = some u') (hin1 : vp_in (x4 + (1 : Int32)) L) (hin2 : vp_in (x4 + (2 : Int32)) L) (hs1 : xs (x4 + (1 : Int32)).toNatClampNeg = a1) (hs2 : xs (x4 + (2 : Int32)).toNatClampNeg = a2) (cells slots : Nat) (hc9 : cells + 2 ≤ 601024) (hs9 : slots + 12 ≤ 7293034)
    (K : ∀ (v : THS × TM × OutR), v = u' → ∀ (H : Heap) (locs : List Loc) (ls : Array Slot) (cells' slots' : Nat), cells' ≤ cells + 2 → slots' ≤ slots + 12 → va_P G vwCl (wW cI cS cL sv gx gm og v) H → va_D A (wW cI cS cL sv gx gm og v) → va_S A s.heap H locs → lv_has ls 9 [(0, .ref b), (1, .ref (gx 0)), (2, .ref (gm 0)), (3, .ref og), (4, .int x4)] → W p l e room_1 s m args below meth c H locs cells' slots' Q (F0 m 1493 ls []))
    (H : Heap) (locs : List Loc) (ls : Array Slot) (hP : va_P G vwCl (wW cI cS cL sv gx gm og u) H) (hD : va_D A (wW cI cS cL sv gx gm og u)) (hS : va_S A s.heap H locs) (hl : lv_has ls 9 [(0, .ref b), (1, .ref (gx 0)), (2, .ref (gm 0)), (3, .ref og), (4, .int x4)]) : W p l e room_1 s m args below meth c H locs cells slots Q (F0 m 899 ls []) := by
  obtain ⟨hst, S, hK, hN, hC, hA, hAB, hB, hX, hX0, hbl, hbA⟩ := C0
  have hx := S.1; have hb := S.2.1; have hml := S.2.2.1; have hown := S.2.2.2.1; have hq := S.2.2.2.2
  have h := hf
  unfold fLc_17 at h
  refine lv_aload_n hx hb dL_law_899 rfl (lv_at hl 1 rfl) ?_
  refine lv_aload_n hx hb dL_law_900 rfl (lv_at hl 0 rfl) ?_
  refine lv_iload hx hb dL_law_901 (lv_at hl 4 rfl) ?_
  refine lv_iconst (v := 1) hx hb dL_law_903 (by decide) ?_
  refine lv_iadd hx hb dL_law_904 ?_
  refine sldO hx hb hX0 hbl hbA hS hin1 hs1 dL_law_905 ?_
  refine lv_aload_n hx hb dL_law_906 rfl (lv_at hl 3 rfl) ?_
  obtain ⟨z82, e_z82, h⟩ := bnd h
  refine mkI (cc_L_143 sv gx og hst S hK hN hC (hP.sub [0, 1, 2, 3, 4, 5, 6, 7, 8, 9, 10, 11, 12, 13, 14, 15, 16, 17, 18, 19, 20, 21, 22, 23, 24, 25, 31] rfl) (hD.sub [0, 1, 2, 3, 4, 5, 6, 7, 8, 9, 10, 11, 12, 13, 14, 15, 16, 17, 18, 19, 20, 21, 22, 23, 24, 25, 31] (by decide) rfl) hS hAB hB hX e_z82 hl.1 (Nat.le_of_ble_eq_true rfl) ⟨(Nat.le_of_ble_eq_true rfl), (Nat.le_of_ble_eq_true rfl)⟩ dL_law_907 ⟨by show _ ≤ 601024; omega, by show _ ≤ 7293034; omega⟩) hS hP hD hA [0, 1, 2, 3, 4, 5, 6, 7, 8, 9, 10, 11, 12, 13, 14, 15, 16, 17, 18, 19, 20, 21, 22, 23, 24, 25, 31] [26, 27, 28, 29, 30] rfl rfl (by decide) (by decide) [5, 6, 7, 8, 9, 10, 11, 12, 13, 14, 15, 16, 17, 18, 19, 20, 21, 22, 23, 24, 25, 26, 27, 28, 29, 30, 0, 1, 2, 3, 4, 31] (by decide) (wW cI cS cL sv gx gm og (z82.2.1, u.2.1, z82.2.2)) rfl (fun H locs hP hD hS => ?_)
  refine lv_istore (lv' := [(5, .int z82.1), (0, .ref b), (1, .ref (gx 0)), (2, .ref (gm 0)), (3, .ref og), (4, .int x4)]) hx hb dL_law_910 hl (by decide) rfl (fun ls hl => ?_)
  refine lv_aload_n hx hb dL_law_912 rfl (lv_at hl 3 rfl) ?_
  refine lv_aload_n hx hb dL_law_913 rfl (lv_at hl 1 rfl) ?_
  refine lv_iload hx hb dL_law_914 (lv_at hl 5 rfl) ?_
  refine lv_iconst (v := 1) hx hb dL_law_916 (by decide) ?_
  refine lv_iadd hx hb dL_law_917 ?_
  refine sldO hx hb hX0 hbl hbA hS hin1 hs1 dL_law_918 ?_
  obtain ⟨z83, e_z83, h⟩ := bnd h
  refine mkI (cc_L_145 gm S (hK.sub [0, 1] rfl) hN (hP.sub [26, 27, 28, 29, 30] rfl) (hD.sub [26, 27, 28, 29, 30] (by decide) rfl) e_z83 hl.1 (Nat.le_of_ble_eq_true rfl) ⟨(Nat.le_of_ble_eq_true rfl), (Nat.le_of_ble_eq_true rfl)⟩ dL_law_919 ⟨by show _ ≤ 601024; omega, by show _ ≤ 7293034; omega⟩) hS hP hD hA [26, 27, 28, 29, 30] [0, 1, 2, 3, 4, 5, 6, 7, 8, 9, 10, 11, 12, 13, 14, 15, 16, 17, 18, 19, 20, 21, 22, 23, 24, 25, 31] rfl rfl (by decide) (by decide) [0, 1, 2, 3, 4, 5, 6, 7, 8, 9, 10, 11, 12, 13, 14, 15, 16, 17, 18, 19, 20, 21, 22, 23, 24, 25, 27, 28, 29, 30, 31, 26] (by decide) (wW cI cS cL sv gx gm og (z82.2.1, z83.2, z82.2.2)) rfl (fun H locs hP hD hS => ?_)
  refine lv_istore (lv' := [(6, .int z83.1), (5, .int z82.1), (0, .ref b), (1, .ref (gx 0)), (2, .ref (gm 0)), (3, .ref og), (4, .int x4)]) hx hb dL_law_922 hl (by decide) rfl (fun ls hl => ?_)
  refine lv_aload_n hx hb dL_law_924 rfl (lv_at hl 4 rfl) ?_
  obtain ⟨z84, e_z84, h⟩ := bnd h
  refine roI (cc_L_82 gm S (hK.sub [0, 1] rfl) hN (hP.sub [26, 27, 28, 29, 30] rfl) e_z84 hl.1 (Nat.le_of_ble_eq_true rfl) ⟨(Nat.le_of_ble_eq_true rfl), (Nat.le_of_ble_eq_true rfl)⟩ dL_law_925 ⟨by show _ ≤ 601024; omega, by show _ ≤ 7293034; omega⟩) ?_
  refine lv_iload hx hb dL_law_928 (lv_at hl 1 rfl) ?_
  refine lv_icmp_eq (tgt := 935) hx hb dL_law_930 (by decide) (fun c85 => ?_) (fun c85 => ?_)
  · have h := (if_pos c85).symm.trans h
    refine lv_iload hx hb dL_law_935 (lv_at hl 1 rfl) ?_
    refine lv_if_ne (tgt := 952) hx hb dL_law_937 (by decide) (fun c86 => ?_) (fun c86 => ?_)
    · have h := (if_neg c86).symm.trans h
      refine lv_goto (tgt := 1493) hx hb dL_law_952 (by decide) ?_
      exact K _ (Option.some.inj h) _ _ _ _ _ (by omega) (by omega) hP hD hS (lv_sub hl [2, 3, 4, 5, 6] rfl)
    · have h := (if_pos c86).symm.trans h
      refine lv_aload_n hx hb dL_law_940 rfl (lv_at hl 5 rfl) ?_
      refine lv_iconst (v := 0) hx hb dL_law_941 (by decide) ?_
      refine va_lald (f := z82.2.2) hx hb hK hP 31 2 rfl rfl (vp_in_of_not (i := 0) (n := 1) (by decide)) dL_law_942 ?_
      refine lv_iload hx hb dL_law_943 (lv_at hl 0 rfl) ?_
      refine lv_i2l hx hb dL_law_945 rfl ?_
      refine W.lcmp hx hb dL_law_946 ?_
      refine lv_if_eq (tgt := 952) hx hb dL_law_947 (by decide) (fun c87 => ?_) (fun c87 => ?_)
      · have h := (if_pos c87).symm.trans h
        refine lv_goto (tgt := 1493) hx hb dL_law_952 (by decide) ?_
        exact K _ (Option.some.inj h) _ _ _ _ _ (by omega) (by omega) hP hD hS (lv_sub hl [2, 3, 4, 5, 6] rfl)
      · have h := (if_neg c87).symm.trans h
        refine lv_iconst (v := 0) hx hb dL_law_950 (by decide) ?_
        cases h
  · have h := (if_neg c85).symm.trans h
    refine lv_iconst (v := 0) hx hb dL_law_933 (by decide) ?_
    cases h
theorem cc_L_146 {p : Program} {l : Launch} {e : Env} {R : Room} {s : State} {m : MethodId} {args : Array Value} {below : List Frame} {meth : Method} {c : Code} {H : Heap} {locs : List Loc} {cells slots : Nat} {cc : ByteArray} {pc nL : Nat} {ls : Array Slot} {rest : List Value} {G : va_G} {A : Nat → Prop} {B0 : Nat} (sv : Nat) (gx : Nat → Nat) (og : Nat) {cI cS cL : ClassId} {u : THS × OutR} {p0 : Int32} {r : Int32 × (THS × OutR)} (hst : l.stackTraces = false) (S : CallFix p m c cc nL s args bwL RL) (hK : va_K G vwCl (tysL cI cS cL) s) (hN : NW s) (hC : NC s) (hP : va_P G vwCl (wO cI cS cL sv gx og u) H) (hD : va_D A (wO cI cS cL sv gx og u)) (hS : va_S A s.heap H locs) (hAB : ∀ q, A q → B0 ≤ q) (hB : B0 ≤ s.heap.size) (hX : XT B0 s s.heap) (hf : fL_gap u p0 = some r) (hsz : ls.size = nL) (hsk : (rest.map fun v => v.category).sum ≤ 8) (hR : rmL_gap.frames + 1 ≤ R.frames ∧ 8 + (4 + 11) + rmL_gap.locals ≤ R.locals) (hdg : decode cc pc = .ok (.invokestatic 146, 3)) (hcs : cells + 1 ≤ R.cells ∧ slots + 6 ≤ R.slots) : va_Run p l e R s m args below meth c H locs cells slots 1 6 (F0 m pc ls (.ref og :: .int p0 :: .ref (gx 0) :: rest)) rest (va_Qi (fun r' u' => (r', u') = r) (PoM G (tysL cI cS cL) (va_A (wO cI cS cL sv gx og u) H.size) (wO cI cS cL sv gx og)) (va_A (wO cI cS cL sv gx og u) H.size) (#[.ref (gx 0), .int p0, .ref og] : Array Value)) (va_A (wO cI cS cL sv gx og u) H.size) :=
  vx_runSW (As := [.ref (gx 0), .int p0, .ref og]) (rest := rest) S (kL_gap l hst G cI cS cL sv gx og H.size B0 u p0 r hf) (vx_cwSW 3 S.2.2.2.2 (gdWL ql_179 ql_180 ql_86 ql_50) rfl rfl rfl (by decide +kernel) hR) (psL hK hN hC hP hD hS hAB hB hX) rfl rfl hsz rfl (lv_room hsk) hdg hcs
theorem cc_L_148 {p : Program} {l : Launch} {e : Env} {R : Room} {s : State} {m : MethodId} {args : Array Value} {below : List Frame} {meth : Method} {c : Code} {H : Heap} {locs : List Loc} {cells slots : Nat} {cc : ByteArray} {pc nL : Nat} {ls : Array Slot} {rest : List Value} {G : va_G} {A : Nat → Prop} (ga : Nat → Nat) {cI cS : ClassId} {u : TM}  {p0 : Int32} {r : Int32 × TM} (S : CallFix p m c cc nL s args bwL RL) (hK : va_K G vwCl (tysW cI cS) s) (hN : NW s) (hP : va_P G vwCl (wM cI ga u) H) (hD : va_D A (wM cI ga u)) (hf : fX5_gap u p0 = some r) (hsz : ls.size = nL) (hst : (rest.map fun v => v.category).sum ≤ 8) (hR : rmX5_gap.frames + 1 ≤ R.frames ∧ 8 + (2 + 11) + rmX5_gap.locals ≤ R.locals) (hdg : decode cc pc = .ok (.invokevirtual 148, 3)) (hcs : cells + 0 ≤ R.cells ∧ slots + 0 ≤ R.slots) : va_Run p l e R s m args below meth c H locs cells slots 0 0 (F0 m pc ls (.int p0 :: .ref (ga 0) :: rest)) rest (va_Qi (fun r' u' => (r', u') = r) (PoM G (tysW cI cS) (va_A (wM cI ga u) H.size) (wM cI ga)) (va_A (wM cI ga u) H.size) (#[.ref (ga 0), .int p0] : Array Value)) (va_A (wM cI ga u) H.size) :=
  va_runV (As := [.int p0]) (rest := rest) S (kX5_gap l G cI cS ga H.size u p0 r hf) (cwV 1 S.2.2.2.2 (gdVL ql_181 ql_182 ql_183 (bwL_of q_392) (bwL_of q_584)) rfl rfl rfl (by decide +kernel) hR) (pvM (q := (RX5, TX5, 12)) hK hN hP hD (ci := 5) (q0 := 0) rfl rfl) rfl rfl hsz rfl (lv_room hst) hdg hcs

def fLc_18 (u : THS × TM × OutR) (a1 a2 : Int32) : Option (THS × TM × OutR) := ((fL_gap (u.1, u.2.2) a1).bind fun z88 => ((fX5_gap u.2.1 a1).bind fun z89 => ((fX5_thrown z89.2).bind fun z90 => (if z90 = z88.1 then (if z88.1 = 0 then (if (lg_cmp (z88.2.2 (0 : Int32).toNatClampNeg) z89.1.toInt64) = 0 then some (z88.2.1, z89.2, z88.2.2) else none) else some (z88.2.1, z89.2, z88.2.2)) else none))))
set_option maxRecDepth 100000 in
set_option maxHeartbeats 4000000 in
theorem kLc_18 {p : Program} {l : Launch} {e : Env} {s : State} {m : MethodId} {args : Array Value} {below : List Frame} {meth : Method} {c : Code} {Q : State → Prop} {b L : Nat} {xs : Nat → Int32} {G : va_G} {cI cS cL : ClassId} {A : Nat → Prop} {B0 : Nat} (C0 : LawC p l s m args c b L xs G cI cS cL A B0) (sv : Nat) (gx gm : Nat → Nat) (og : Nat) (u : THS × TM × OutR) (x4 a1 a2 : Int32) (u' : THS × TM × OutR) (hf : fLc_18 u a1 a2 = some u') (hin1 : vp_in (x4 + (1 : Int32)) L) (hin2 : vp_in (x4 + (2 : Int32)) L) (hs1 : xs (x4 + (1 : Int32)).toNatClampNeg = a1) (hs2 : xs (x4 + (2 : Int32)).toNatClampNeg = a2) (cells slots : Nat) (hc9 : cells + 2 ≤ 601024) (hs9 : slots + 12 ≤ 7293034)
    (K : ∀ (v : THS × TM × OutR), v = u' → ∀ (H : Heap) (locs : List Loc) (ls : Array Slot) (cells' slots' : Nat), cells' ≤ cells + 2 → slots' ≤ slots + 12 → va_P G vwCl (wW cI cS cL sv gx gm og v) H → va_D A (wW cI cS cL sv gx gm og v) → va_S A s.heap H locs → lv_has ls 9 [(0, .ref b), (1, .ref (gx 0)), (2, .ref (gm 0)), (3, .ref og), (4, .int x4)] → W p l e room_1 s m args below meth c H locs cells' slots' Q (F0 m 1493 ls []))
    (H : Heap) (locs : List Loc) (ls : Array Slot) (hP : va_P G vwCl (wW cI cS cL sv gx gm og u) H) (hD : va_D A (wW cI cS cL sv gx gm og u)) (hS : va_S A s.heap H locs) (hl : lv_has ls 9 [(0, .ref b), (1, .ref (gx 0)), (2, .ref (gm 0)), (3, .ref og), (4, .int x4)]) : W p l e room_1 s m args below meth c H locs cells slots Q (F0 m 955 ls []) := by
  obtain ⟨hst, S, hK, hN, hC, hA, hAB, hB, hX, hX0, hbl, hbA⟩ := C0
  have hx := S.1; have hb := S.2.1; have hml := S.2.2.1; have hown := S.2.2.2.1; have hq := S.2.2.2.2
  have h := hf
  unfold fLc_18 at h
  refine lv_aload_n hx hb dL_law_955 rfl (lv_at hl 1 rfl) ?_
  refine lv_aload_n hx hb dL_law_956 rfl (lv_at hl 0 rfl) ?_
  refine lv_iload hx hb dL_law_957 (lv_at hl 4 rfl) ?_
  refine lv_iconst (v := 1) hx hb dL_law_959 (by decide) ?_
  refine lv_iadd hx hb dL_law_960 ?_
  refine sldO hx hb hX0 hbl hbA hS hin1 hs1 dL_law_961 ?_
  refine lv_aload_n hx hb dL_law_962 rfl (lv_at hl 3 rfl) ?_
  obtain ⟨z88, e_z88, h⟩ := bnd h
  refine mkI (cc_L_146 sv gx og hst S hK hN hC (hP.sub [0, 1, 2, 3, 4, 5, 6, 7, 8, 9, 10, 11, 12, 13, 14, 15, 16, 17, 18, 19, 20, 21, 22, 23, 24, 25, 31] rfl) (hD.sub [0, 1, 2, 3, 4, 5, 6, 7, 8, 9, 10, 11, 12, 13, 14, 15, 16, 17, 18, 19, 20, 21, 22, 23, 24, 25, 31] (by decide) rfl) hS hAB hB hX e_z88 hl.1 (Nat.le_of_ble_eq_true rfl) ⟨(Nat.le_of_ble_eq_true rfl), (Nat.le_of_ble_eq_true rfl)⟩ dL_law_963 ⟨by show _ ≤ 601024; omega, by show _ ≤ 7293034; omega⟩) hS hP hD hA [0, 1, 2, 3, 4, 5, 6, 7, 8, 9, 10, 11, 12, 13, 14, 15, 16, 17, 18, 19, 20, 21, 22, 23, 24, 25, 31] [26, 27, 28, 29, 30] rfl rfl (by decide) (by decide) [5, 6, 7, 8, 9, 10, 11, 12, 13, 14, 15, 16, 17, 18, 19, 20, 21, 22, 23, 24, 25, 26, 27, 28, 29, 30, 0, 1, 2, 3, 4, 31] (by decide) (wW cI cS cL sv gx gm og (z88.2.1, u.2.1, z88.2.2)) rfl (fun H locs hP hD hS => ?_)
  refine lv_istore (lv' := [(5, .int z88.1), (0, .ref b), (1, .ref (gx 0)), (2, .ref (gm 0)), (3, .ref og), (4, .int x4)]) hx hb dL_law_966 hl (by decide) rfl (fun ls hl => ?_)
  refine lv_aload_n hx hb dL_law_968 rfl (lv_at hl 3 rfl) ?_
  refine lv_aload_n hx hb dL_law_969 rfl (lv_at hl 1 rfl) ?_
  refine lv_iload hx hb dL_law_970 (lv_at hl 5 rfl) ?_
  refine lv_iconst (v := 1) hx hb dL_law_972 (by decide) ?_
  refine lv_iadd hx hb dL_law_973 ?_
  refine sldO hx hb hX0 hbl hbA hS hin1 hs1 dL_law_974 ?_
  obtain ⟨z89, e_z89, h⟩ := bnd h
  refine mkI (cc_L_148 gm S (hK.sub [0, 1] rfl) hN (hP.sub [26, 27, 28, 29, 30] rfl) (hD.sub [26, 27, 28, 29, 30] (by decide) rfl) e_z89 hl.1 (Nat.le_of_ble_eq_true rfl) ⟨(Nat.le_of_ble_eq_true rfl), (Nat.le_of_ble_eq_true rfl)⟩ dL_law_975 ⟨by show _ ≤ 601024; omega, by show _ ≤ 7293034; omega⟩) hS hP hD hA [26, 27, 28, 29, 30] [0, 1, 2, 3, 4, 5, 6, 7, 8, 9, 10, 11, 12, 13, 14, 15, 16, 17, 18, 19, 20, 21, 22, 23, 24, 25, 31] rfl rfl (by decide) (by decide) [0, 1, 2, 3, 4, 5, 6, 7, 8, 9, 10, 11, 12, 13, 14, 15, 16, 17, 18, 19, 20, 21, 22, 23, 24, 25, 27, 28, 29, 30, 31, 26] (by decide) (wW cI cS cL sv gx gm og (z88.2.1, z89.2, z88.2.2)) rfl (fun H locs hP hD hS => ?_)
  refine lv_istore (lv' := [(6, .int z89.1), (5, .int z88.1), (0, .ref b), (1, .ref (gx 0)), (2, .ref (gm 0)), (3, .ref og), (4, .int x4)]) hx hb dL_law_978 hl (by decide) rfl (fun ls hl => ?_)
  refine lv_aload_n hx hb dL_law_980 rfl (lv_at hl 4 rfl) ?_
  obtain ⟨z90, e_z90, h⟩ := bnd h
  refine roI (cc_L_82 gm S (hK.sub [0, 1] rfl) hN (hP.sub [26, 27, 28, 29, 30] rfl) e_z90 hl.1 (Nat.le_of_ble_eq_true rfl) ⟨(Nat.le_of_ble_eq_true rfl), (Nat.le_of_ble_eq_true rfl)⟩ dL_law_981 ⟨by show _ ≤ 601024; omega, by show _ ≤ 7293034; omega⟩) ?_
  refine lv_iload hx hb dL_law_984 (lv_at hl 1 rfl) ?_
  refine lv_icmp_eq (tgt := 991) hx hb dL_law_986 (by decide) (fun c91 => ?_) (fun c91 => ?_)
  · have h := (if_pos c91).symm.trans h
    refine lv_iload hx hb dL_law_991 (lv_at hl 1 rfl) ?_
    refine lv_if_ne (tgt := 1008) hx hb dL_law_993 (by decide) (fun c92 => ?_) (fun c92 => ?_)
    · have h := (if_neg c92).symm.trans h
      refine lv_goto (tgt := 1493) hx hb dL_law_1008 (by decide) ?_
      exact K _ (Option.some.inj h) _ _ _ _ _ (by omega) (by omega) hP hD hS (lv_sub hl [2, 3, 4, 5, 6] rfl)
    · have h := (if_pos c92).symm.trans h
      refine lv_aload_n hx hb dL_law_996 rfl (lv_at hl 5 rfl) ?_
      refine lv_iconst (v := 0) hx hb dL_law_997 (by decide) ?_
      refine va_lald (f := z88.2.2) hx hb hK hP 31 2 rfl rfl (vp_in_of_not (i := 0) (n := 1) (by decide)) dL_law_998 ?_
      refine lv_iload hx hb dL_law_999 (lv_at hl 0 rfl) ?_
      refine lv_i2l hx hb dL_law_1001 rfl ?_
      refine W.lcmp hx hb dL_law_1002 ?_
      refine lv_if_eq (tgt := 1008) hx hb dL_law_1003 (by decide) (fun c93 => ?_) (fun c93 => ?_)
      · have h := (if_pos c93).symm.trans h
        refine lv_goto (tgt := 1493) hx hb dL_law_1008 (by decide) ?_
        exact K _ (Option.some.inj h) _ _ _ _ _ (by omega) (by omega) hP hD hS (lv_sub hl [2, 3, 4, 5, 6] rfl)
      · have h := (if_neg c93).symm.trans h
        refine lv_iconst (v := 0) hx hb dL_law_1006 (by decide) ?_
        cases h
  · have h := (if_neg c91).symm.trans h
    refine lv_iconst (v := 0) hx hb dL_law_989 (by decide) ?_
    cases h
theorem cc_L_149 {p : Program} {l : Launch} {e : Env} {R : Room} {s : State} {m : MethodId} {args : Array Value} {below : List Frame} {meth : Method} {c : Code} {H : Heap} {locs : List Loc} {cells slots : Nat} {cc : ByteArray} {pc nL : Nat} {ls : Array Slot} {rest : List Value} {G : va_G} (sv : Nat) (ga : Nat → Nat) {cI cS : ClassId} {u : TH}  {p0 : Int32} {r : Int32} (S : CallFix p m c cc nL s args bwL RL) (hK : va_K G vwCl (tysW cI cS) s) (hN : NW s) (hP : va_P G vwCl (wH cI sv ga u) H) (hf : fX4_kind u p0 = some r) (hsz : ls.size = nL) (hst : (rest.map fun v => v.category).sum ≤ 8) (hR : rmX4_kind.frames + 1 ≤ R.frames ∧ 8 + (5 + 11) + rmX4_kind.locals ≤ R.locals) (hdg : decode cc pc = .ok (.invokevirtual 149, 3)) (hcs : cells + 0 ≤ R.cells ∧ slots + 0 ≤ R.slots) : va_Run p l e R s m args below meth c H locs cells slots 0 0 (F0 m pc ls (.int p0 :: .ref (ga 0) :: rest)) rest (vp_Si (fun r' => r' = r) (#[.ref (ga 0), .int p0] : Array Value)) (fun _ => False) :=
  va_runV (As := [.int p0]) (rest := rest) S (kX4_kind l G cI cS sv ga u p0 r hf) (cwV 1 S.2.2.2.2 (gdVL ql_184 (bwL_of q_212) (bwL_of q_213) (bwL_of q_76) (bwL_of q_210)) rfl rfl rfl (by decide +kernel) hR) (pvR (q := (RX4, TX4, 8)) hK hN hP (ci := 4) (q0 := 0) rfl rfl) rfl rfl hsz rfl (lv_room hst) hdg hcs
theorem cc_L_152 {p : Program} {l : Launch} {e : Env} {R : Room} {s : State} {m : MethodId} {args : Array Value} {below : List Frame} {meth : Method} {c : Code} {H : Heap} {locs : List Loc} {cells slots : Nat} {cc : ByteArray} {pc nL : Nat} {ls : Array Slot} {rest : List Value} {G : va_G} {A : Nat → Prop} (ga : Nat → Nat) {cI cS : ClassId} {u : TM}  {p0 : Int32} {r : Int32 × TM} (S : CallFix p m c cc nL s args bwL RL) (hK : va_K G vwCl (tysW cI cS) s) (hN : NW s) (hP : va_P G vwCl (wM cI ga u) H) (hD : va_D A (wM cI ga u)) (hf : fX5_kind u p0 = some r) (hsz : ls.size = nL) (hst : (rest.map fun v => v.category).sum ≤ 8) (hR : rmX5_kind.frames + 1 ≤ R.frames ∧ 8 + (2 + 11) + rmX5_kind.locals ≤ R.locals) (hdg : decode cc pc = .ok (.invokevirtual 152, 3)) (hcs : cells + 0 ≤ R.cells ∧ slots + 0 ≤ R.slots) : va_Run p l e R s m args below meth c H locs cells slots 0 0 (F0 m pc ls (.int p0 :: .ref (ga 0) :: rest)) rest (va_Qi (fun r' u' => (r', u') = r) (PoM G (tysW cI cS) (va_A (wM cI ga u) H.size) (wM cI ga)) (va_A (wM cI ga u) H.size) (#[.ref (ga 0), .int p0] : Array Value)) (va_A (wM cI ga u) H.size) :=
  va_runV (As := [.int p0]) (rest := rest) S (kX5_kind l G cI cS ga H.size u p0 r hf) (cwV 1 S.2.2.2.2 (gdVL ql_185 ql_186 ql_187 (bwL_of q_392) (bwL_of q_585)) rfl rfl rfl (by decide +kernel) hR) (pvM (q := (RX5, TX5, 12)) hK hN hP hD (ci := 5) (q0 := 0) rfl rfl) rfl rfl hsz rfl (lv_room hst) hdg hcs

def fLc_19 (u : THS × TM × OutR) (a1 a2 : Int32) : Option (THS × TM × OutR) := ((fX4_kind u.1.1 a1).bind fun z94 => ((fX5_kind u.2.1 a1).bind fun z95 => (if z94 = z95.1 then some (u.1, z95.2, u.2.2) else none)))
set_option maxRecDepth 100000 in
set_option maxHeartbeats 4000000 in
theorem kLc_19 {p : Program} {l : Launch} {e : Env} {s : State} {m : MethodId} {args : Array Value} {below : List Frame} {meth : Method} {c : Code} {Q : State → Prop} {b L : Nat} {xs : Nat → Int32} {G : va_G} {cI cS cL : ClassId} {A : Nat → Prop} {B0 : Nat} (C0 : LawC p l s m args c b L xs G cI cS cL A B0) (sv : Nat) (gx gm : Nat → Nat) (og : Nat) (u : THS × TM × OutR) (x4 a1 a2 : Int32) (u' : THS × TM × OutR) (hf : fLc_19 u a1 a2 = some u') (hin1 : vp_in (x4 + (1 : Int32)) L) (hin2 : vp_in (x4 + (2 : Int32)) L) (hs1 : xs (x4 + (1 : Int32)).toNatClampNeg = a1) (hs2 : xs (x4 + (2 : Int32)).toNatClampNeg = a2) (cells slots : Nat) (hc9 : cells + 2 ≤ 601024) (hs9 : slots + 12 ≤ 7293034)
    (K : ∀ (v : THS × TM × OutR), v = u' → ∀ (H : Heap) (locs : List Loc) (ls : Array Slot) (cells' slots' : Nat), cells' ≤ cells + 2 → slots' ≤ slots + 12 → va_P G vwCl (wW cI cS cL sv gx gm og v) H → va_D A (wW cI cS cL sv gx gm og v) → va_S A s.heap H locs → lv_has ls 9 [(0, .ref b), (1, .ref (gx 0)), (2, .ref (gm 0)), (3, .ref og), (4, .int x4)] → W p l e room_1 s m args below meth c H locs cells' slots' Q (F0 m 1493 ls []))
    (H : Heap) (locs : List Loc) (ls : Array Slot) (hP : va_P G vwCl (wW cI cS cL sv gx gm og u) H) (hD : va_D A (wW cI cS cL sv gx gm og u)) (hS : va_S A s.heap H locs) (hl : lv_has ls 9 [(0, .ref b), (1, .ref (gx 0)), (2, .ref (gm 0)), (3, .ref og), (4, .int x4)]) : W p l e room_1 s m args below meth c H locs cells slots Q (F0 m 1011 ls []) := by
  obtain ⟨hst, S, hK, hN, hC, hA, hAB, hB, hX, hX0, hbl, hbA⟩ := C0
  have hx := S.1; have hb := S.2.1; have hml := S.2.2.1; have hown := S.2.2.2.1; have hq := S.2.2.2.2
  have h := hf
  unfold fLc_19 at h
  refine lv_aload_n hx hb dL_law_1011 rfl (lv_at hl 1 rfl) ?_
  refine lv_aload_n hx hb dL_law_1012 rfl (lv_at hl 0 rfl) ?_
  refine lv_iload hx hb dL_law_1013 (lv_at hl 4 rfl) ?_
  refine lv_iconst (v := 1) hx hb dL_law_1015 (by decide) ?_
  refine lv_iadd hx hb dL_law_1016 ?_
  refine sldO hx hb hX0 hbl hbA hS hin1 hs1 dL_law_1017 ?_
  obtain ⟨z94, e_z94, h⟩ := bnd h
  refine roI (cc_L_149 sv gx S (hK.sub [0, 1] rfl) hN (hP.sub [0, 1, 2, 3, 4, 5, 6, 7, 8, 9, 10, 11, 12] rfl) e_z94 hl.1 (Nat.le_of_ble_eq_true rfl) ⟨(Nat.le_of_ble_eq_true rfl), (Nat.le_of_ble_eq_true rfl)⟩ dL_law_1018 ⟨by show _ ≤ 601024; omega, by show _ ≤ 7293034; omega⟩) ?_
  refine lv_aload_n hx hb dL_law_1021 rfl (lv_at hl 2 rfl) ?_
  refine lv_aload_n hx hb dL_law_1022 rfl (lv_at hl 0 rfl) ?_
  refine lv_iload hx hb dL_law_1023 (lv_at hl 4 rfl) ?_
  refine lv_iconst (v := 1) hx hb dL_law_1025 (by decide) ?_
  refine lv_iadd hx hb dL_law_1026 ?_
  refine sldO hx hb hX0 hbl hbA hS hin1 hs1 dL_law_1027 ?_
  obtain ⟨z95, e_z95, h⟩ := bnd h
  refine mkI (cc_L_152 gm S (hK.sub [0, 1] rfl) hN (hP.sub [26, 27, 28, 29, 30] rfl) (hD.sub [26, 27, 28, 29, 30] (by decide) rfl) e_z95 hl.1 (Nat.le_of_ble_eq_true rfl) ⟨(Nat.le_of_ble_eq_true rfl), (Nat.le_of_ble_eq_true rfl)⟩ dL_law_1028 ⟨by show _ ≤ 601024; omega, by show _ ≤ 7293034; omega⟩) hS hP hD hA [26, 27, 28, 29, 30] [0, 1, 2, 3, 4, 5, 6, 7, 8, 9, 10, 11, 12, 13, 14, 15, 16, 17, 18, 19, 20, 21, 22, 23, 24, 25, 31] rfl rfl (by decide) (by decide) [0, 1, 2, 3, 4, 5, 6, 7, 8, 9, 10, 11, 12, 13, 14, 15, 16, 17, 18, 19, 20, 21, 22, 23, 24, 25, 27, 28, 29, 30, 31, 26] (by decide) (wW cI cS cL sv gx gm og (u.1, z95.2, u.2.2)) rfl (fun H locs hP hD hS => ?_)
  refine lv_icmp_eq (tgt := 1493) hx hb dL_law_1031 (by decide) (fun c96 => ?_) (fun c96 => ?_)
  · have h := (if_pos c96).symm.trans h
    exact K _ (Option.some.inj h) _ _ _ _ _ (by omega) (by omega) hP hD hS (lv_sub hl [0, 1, 2, 3, 4] rfl)
  · have h := (if_neg c96).symm.trans h
    refine lv_iconst (v := 0) hx hb dL_law_1034 (by decide) ?_
    cases h
theorem cc_L_153 {p : Program} {l : Launch} {e : Env} {R : Room} {s : State} {m : MethodId} {args : Array Value} {below : List Frame} {meth : Method} {c : Code} {H : Heap} {locs : List Loc} {cells slots : Nat} {cc : ByteArray} {pc nL : Nat} {ls : Array Slot} {rest : List Value} {G : va_G} (sv : Nat) (ga : Nat → Nat) {cI cS : ClassId} {u : TH}  {r : Int32} (S : CallFix p m c cc nL s args bwL RL) (hK : va_K G vwCl (tysW cI cS) s) (hN : NW s) (hP : va_P G vwCl (wH cI sv ga u) H) (hf : fX4_notes u = some r) (hsz : ls.size = nL) (hst : (rest.map fun v => v.category).sum ≤ 8) (hR : rmX4_notes.frames + 1 ≤ R.frames ∧ 8 + (1 + 11) + rmX4_notes.locals ≤ R.locals) (hdg : decode cc pc = .ok (.invokevirtual 153, 3)) (hcs : cells + 0 ≤ R.cells ∧ slots + 0 ≤ R.slots) : va_Run p l e R s m args below meth c H locs cells slots 0 0 (F0 m pc ls (.ref (ga 0) :: rest)) rest (vp_Si (fun r' => r' = r) (#[.ref (ga 0)] : Array Value)) (fun _ => False) :=
  va_runV (As := []) (rest := rest) S (kX4_notes l G cI cS sv ga u r hf) (cwV 0 S.2.2.2.2 (gdVL ql_188 (bwL_of q_368) (bwL_of q_369) (bwL_of q_76) (bwL_of q_320)) rfl rfl rfl (by decide +kernel) hR) (pvR (q := (RX4, TX4, 8)) hK hN hP (ci := 4) (q0 := 0) rfl rfl) rfl rfl hsz rfl (lv_room hst) hdg hcs
theorem cc_L_156 {p : Program} {l : Launch} {e : Env} {R : Room} {s : State} {m : MethodId} {args : Array Value} {below : List Frame} {meth : Method} {c : Code} {H : Heap} {locs : List Loc} {cells slots : Nat} {cc : ByteArray} {pc nL : Nat} {ls : Array Slot} {rest : List Value} {G : va_G} {A : Nat → Prop} (ga : Nat → Nat) {cI cS : ClassId} {u : TM}  {r : Int32 × TM} (S : CallFix p m c cc nL s args bwL RL) (hK : va_K G vwCl (tysW cI cS) s) (hN : NW s) (hP : va_P G vwCl (wM cI ga u) H) (hD : va_D A (wM cI ga u)) (hf : fX5_notes u = some r) (hsz : ls.size = nL) (hst : (rest.map fun v => v.category).sum ≤ 8) (hR : rmX5_notes.frames + 1 ≤ R.frames ∧ 8 + (1 + 11) + rmX5_notes.locals ≤ R.locals) (hdg : decode cc pc = .ok (.invokevirtual 156, 3)) (hcs : cells + 0 ≤ R.cells ∧ slots + 0 ≤ R.slots) : va_Run p l e R s m args below meth c H locs cells slots 0 0 (F0 m pc ls (.ref (ga 0) :: rest)) rest (va_Qi (fun r' u' => (r', u') = r) (PoM G (tysW cI cS) (va_A (wM cI ga u) H.size) (wM cI ga)) (va_A (wM cI ga u) H.size) (#[.ref (ga 0)] : Array Value)) (va_A (wM cI ga u) H.size) :=
  va_runV (As := []) (rest := rest) S (kX5_notes l G cI cS ga H.size u r hf) (cwV 0 S.2.2.2.2 (gdVL ql_189 ql_190 ql_191 (bwL_of q_392) (bwL_of q_586)) rfl rfl rfl (by decide +kernel) hR) (pvM (q := (RX5, TX5, 12)) hK hN hP hD (ci := 5) (q0 := 0) rfl rfl) rfl rfl hsz rfl (lv_room hst) hdg hcs

def fLc_20 (u : THS × TM × OutR) (a1 a2 : Int32) : Option (THS × TM × OutR) := ((fX4_notes u.1.1).bind fun z97 => ((fX5_notes u.2.1).bind fun z98 => (if z97 = z98.1 then some (u.1, z98.2, u.2.2) else none)))
set_option maxRecDepth 100000 in
set_option maxHeartbeats 4000000 in
theorem kLc_20 {p : Program} {l : Launch} {e : Env} {s : State} {m : MethodId} {args : Array Value} {below : List Frame} {meth : Method} {c : Code} {Q : State → Prop} {b L : Nat} {xs : Nat → Int32} {G : va_G} {cI cS cL : ClassId} {A : Nat → Prop} {B0 : Nat} (C0 : LawC p l s m args c b L xs G cI cS cL A B0) (sv : Nat) (gx gm : Nat → Nat) (og : Nat) (u : THS × TM × OutR) (x4 a1 a2 : Int32) (u' : THS × TM × OutR) (hf : fLc_20 u a1 a2 = some u') (hin1 : vp_in (x4 + (1 : Int32)) L) (hin2 : vp_in (x4 + (2 : Int32)) L) (hs1 : xs (x4 + (1 : Int32)).toNatClampNeg = a1) (hs2 : xs (x4 + (2 : Int32)).toNatClampNeg = a2) (cells slots : Nat) (hc9 : cells + 2 ≤ 601024) (hs9 : slots + 12 ≤ 7293034)
    (K : ∀ (v : THS × TM × OutR), v = u' → ∀ (H : Heap) (locs : List Loc) (ls : Array Slot) (cells' slots' : Nat), cells' ≤ cells + 2 → slots' ≤ slots + 12 → va_P G vwCl (wW cI cS cL sv gx gm og v) H → va_D A (wW cI cS cL sv gx gm og v) → va_S A s.heap H locs → lv_has ls 9 [(0, .ref b), (1, .ref (gx 0)), (2, .ref (gm 0)), (3, .ref og), (4, .int x4)] → W p l e room_1 s m args below meth c H locs cells' slots' Q (F0 m 1493 ls []))
    (H : Heap) (locs : List Loc) (ls : Array Slot) (hP : va_P G vwCl (wW cI cS cL sv gx gm og u) H) (hD : va_D A (wW cI cS cL sv gx gm og u)) (hS : va_S A s.heap H locs) (hl : lv_has ls 9 [(0, .ref b), (1, .ref (gx 0)), (2, .ref (gm 0)), (3, .ref og), (4, .int x4)]) : W p l e room_1 s m args below meth c H locs cells slots Q (F0 m 1036 ls []) := by
  obtain ⟨hst, S, hK, hN, hC, hA, hAB, hB, hX, hX0, hbl, hbA⟩ := C0
  have hx := S.1; have hb := S.2.1; have hml := S.2.2.1; have hown := S.2.2.2.1; have hq := S.2.2.2.2
  have h := hf
  unfold fLc_20 at h
  refine lv_aload_n hx hb dL_law_1036 rfl (lv_at hl 1 rfl) ?_
  obtain ⟨z97, e_z97, h⟩ := bnd h
  refine roI (cc_L_153 sv gx S (hK.sub [0, 1] rfl) hN (hP.sub [0, 1, 2, 3, 4, 5, 6, 7, 8, 9, 10, 11, 12] rfl) e_z97 hl.1 (Nat.le_of_ble_eq_true rfl) ⟨(Nat.le_of_ble_eq_true rfl), (Nat.le_of_ble_eq_true rfl)⟩ dL_law_1037 ⟨by show _ ≤ 601024; omega, by show _ ≤ 7293034; omega⟩) ?_
  refine lv_aload_n hx hb dL_law_1040 rfl (lv_at hl 2 rfl) ?_
  obtain ⟨z98, e_z98, h⟩ := bnd h
  refine mkI (cc_L_156 gm S (hK.sub [0, 1] rfl) hN (hP.sub [26, 27, 28, 29, 30] rfl) (hD.sub [26, 27, 28, 29, 30] (by decide) rfl) e_z98 hl.1 (Nat.le_of_ble_eq_true rfl) ⟨(Nat.le_of_ble_eq_true rfl), (Nat.le_of_ble_eq_true rfl)⟩ dL_law_1041 ⟨by show _ ≤ 601024; omega, by show _ ≤ 7293034; omega⟩) hS hP hD hA [26, 27, 28, 29, 30] [0, 1, 2, 3, 4, 5, 6, 7, 8, 9, 10, 11, 12, 13, 14, 15, 16, 17, 18, 19, 20, 21, 22, 23, 24, 25, 31] rfl rfl (by decide) (by decide) [0, 1, 2, 3, 4, 5, 6, 7, 8, 9, 10, 11, 12, 13, 14, 15, 16, 17, 18, 19, 20, 21, 22, 23, 24, 25, 27, 28, 29, 30, 31, 26] (by decide) (wW cI cS cL sv gx gm og (u.1, z98.2, u.2.2)) rfl (fun H locs hP hD hS => ?_)
  refine lv_icmp_eq (tgt := 1493) hx hb dL_law_1044 (by decide) (fun c99 => ?_) (fun c99 => ?_)
  · have h := (if_pos c99).symm.trans h
    exact K _ (Option.some.inj h) _ _ _ _ _ (by omega) (by omega) hP hD hS (lv_sub hl [0, 1, 2, 3, 4] rfl)
  · have h := (if_neg c99).symm.trans h
    refine lv_iconst (v := 0) hx hb dL_law_1047 (by decide) ?_
    cases h
theorem cc_L_157 {p : Program} {l : Launch} {e : Env} {R : Room} {s : State} {m : MethodId} {args : Array Value} {below : List Frame} {meth : Method} {c : Code} {H : Heap} {locs : List Loc} {cells slots : Nat} {cc : ByteArray} {pc nL : Nat} {ls : Array Slot} {rest : List Value} {G : va_G} (sv : Nat) (ga : Nat → Nat) {cI cS : ClassId} {u : TH}  {r : Int32} (S : CallFix p m c cc nL s args bwL RL) (hK : va_K G vwCl (tysW cI cS) s) (hN : NW s) (hP : va_P G vwCl (wH cI sv ga u) H) (hf : fX4_moves u = some r) (hsz : ls.size = nL) (hst : (rest.map fun v => v.category).sum ≤ 8) (hR : rmX4_moves.frames + 1 ≤ R.frames ∧ 8 + (1 + 11) + rmX4_moves.locals ≤ R.locals) (hdg : decode cc pc = .ok (.invokevirtual 157, 3)) (hcs : cells + 0 ≤ R.cells ∧ slots + 0 ≤ R.slots) : va_Run p l e R s m args below meth c H locs cells slots 0 0 (F0 m pc ls (.ref (ga 0) :: rest)) rest (vp_Si (fun r' => r' = r) (#[.ref (ga 0)] : Array Value)) (fun _ => False) :=
  va_runV (As := []) (rest := rest) S (kX4_moves l G cI cS sv ga u r hf) (cwV 0 S.2.2.2.2 (gdVL ql_192 ql_193 ql_194 (bwL_of q_76) (bwL_of q_321)) rfl rfl rfl (by decide +kernel) hR) (pvR (q := (RX4, TX4, 8)) hK hN hP (ci := 4) (q0 := 0) rfl rfl) rfl rfl hsz rfl (lv_room hst) hdg hcs
theorem cc_L_160 {p : Program} {l : Launch} {e : Env} {R : Room} {s : State} {m : MethodId} {args : Array Value} {below : List Frame} {meth : Method} {c : Code} {H : Heap} {locs : List Loc} {cells slots : Nat} {cc : ByteArray} {pc nL : Nat} {ls : Array Slot} {rest : List Value} {G : va_G} {A : Nat → Prop} (ga : Nat → Nat) {cI cS : ClassId} {u : TM}  {r : Int32 × TM} (S : CallFix p m c cc nL s args bwL RL) (hK : va_K G vwCl (tysW cI cS) s) (hN : NW s) (hP : va_P G vwCl (wM cI ga u) H) (hD : va_D A (wM cI ga u)) (hf : fX5_moves u = some r) (hsz : ls.size = nL) (hst : (rest.map fun v => v.category).sum ≤ 8) (hR : rmX5_moves.frames + 1 ≤ R.frames ∧ 8 + (1 + 11) + rmX5_moves.locals ≤ R.locals) (hdg : decode cc pc = .ok (.invokevirtual 160, 3)) (hcs : cells + 0 ≤ R.cells ∧ slots + 0 ≤ R.slots) : va_Run p l e R s m args below meth c H locs cells slots 0 0 (F0 m pc ls (.ref (ga 0) :: rest)) rest (va_Qi (fun r' u' => (r', u') = r) (PoM G (tysW cI cS) (va_A (wM cI ga u) H.size) (wM cI ga)) (va_A (wM cI ga u) H.size) (#[.ref (ga 0)] : Array Value)) (va_A (wM cI ga u) H.size) :=
  va_runV (As := []) (rest := rest) S (kX5_moves l G cI cS ga H.size u r hf) (cwV 0 S.2.2.2.2 (gdVL ql_195 ql_196 ql_197 (bwL_of q_392) (bwL_of q_587)) rfl rfl rfl (by decide +kernel) hR) (pvM (q := (RX5, TX5, 12)) hK hN hP hD (ci := 5) (q0 := 0) rfl rfl) rfl rfl hsz rfl (lv_room hst) hdg hcs

def fLc_21 (u : THS × TM × OutR) (a1 a2 : Int32) : Option (THS × TM × OutR) := ((fX4_moves u.1.1).bind fun z100 => ((fX5_moves u.2.1).bind fun z101 => (if z100 = z101.1 then some (u.1, z101.2, u.2.2) else none)))
set_option maxRecDepth 100000 in
set_option maxHeartbeats 4000000 in
theorem kLc_21 {p : Program} {l : Launch} {e : Env} {s : State} {m : MethodId} {args : Array Value} {below : List Frame} {meth : Method} {c : Code} {Q : State → Prop} {b L : Nat} {xs : Nat → Int32} {G : va_G} {cI cS cL : ClassId} {A : Nat → Prop} {B0 : Nat} (C0 : LawC p l s m args c b L xs G cI cS cL A B0) (sv : Nat) (gx gm : Nat → Nat) (og : Nat) (u : THS × TM × OutR) (x4 a1 a2 : Int32) (u' : THS × TM × OutR) (hf : fLc_21 u a1 a2 = some u') (hin1 : vp_in (x4 + (1 : Int32)) L) (hin2 : vp_in (x4 + (2 : Int32)) L) (hs1 : xs (x4 + (1 : Int32)).toNatClampNeg = a1) (hs2 : xs (x4 + (2 : Int32)).toNatClampNeg = a2) (cells slots : Nat) (hc9 : cells + 2 ≤ 601024) (hs9 : slots + 12 ≤ 7293034)
    (K : ∀ (v : THS × TM × OutR), v = u' → ∀ (H : Heap) (locs : List Loc) (ls : Array Slot) (cells' slots' : Nat), cells' ≤ cells + 2 → slots' ≤ slots + 12 → va_P G vwCl (wW cI cS cL sv gx gm og v) H → va_D A (wW cI cS cL sv gx gm og v) → va_S A s.heap H locs → lv_has ls 9 [(0, .ref b), (1, .ref (gx 0)), (2, .ref (gm 0)), (3, .ref og), (4, .int x4)] → W p l e room_1 s m args below meth c H locs cells' slots' Q (F0 m 1493 ls []))
    (H : Heap) (locs : List Loc) (ls : Array Slot) (hP : va_P G vwCl (wW cI cS cL sv gx gm og u) H) (hD : va_D A (wW cI cS cL sv gx gm og u)) (hS : va_S A s.heap H locs) (hl : lv_has ls 9 [(0, .ref b), (1, .ref (gx 0)), (2, .ref (gm 0)), (3, .ref og), (4, .int x4)]) : W p l e room_1 s m args below meth c H locs cells slots Q (F0 m 1049 ls []) := by
  obtain ⟨hst, S, hK, hN, hC, hA, hAB, hB, hX, hX0, hbl, hbA⟩ := C0
  have hx := S.1; have hb := S.2.1; have hml := S.2.2.1; have hown := S.2.2.2.1; have hq := S.2.2.2.2
  have h := hf
  unfold fLc_21 at h
  refine lv_aload_n hx hb dL_law_1049 rfl (lv_at hl 1 rfl) ?_
  obtain ⟨z100, e_z100, h⟩ := bnd h
  refine roI (cc_L_157 sv gx S (hK.sub [0, 1] rfl) hN (hP.sub [0, 1, 2, 3, 4, 5, 6, 7, 8, 9, 10, 11, 12] rfl) e_z100 hl.1 (Nat.le_of_ble_eq_true rfl) ⟨(Nat.le_of_ble_eq_true rfl), (Nat.le_of_ble_eq_true rfl)⟩ dL_law_1050 ⟨by show _ ≤ 601024; omega, by show _ ≤ 7293034; omega⟩) ?_
  refine lv_aload_n hx hb dL_law_1053 rfl (lv_at hl 2 rfl) ?_
  obtain ⟨z101, e_z101, h⟩ := bnd h
  refine mkI (cc_L_160 gm S (hK.sub [0, 1] rfl) hN (hP.sub [26, 27, 28, 29, 30] rfl) (hD.sub [26, 27, 28, 29, 30] (by decide) rfl) e_z101 hl.1 (Nat.le_of_ble_eq_true rfl) ⟨(Nat.le_of_ble_eq_true rfl), (Nat.le_of_ble_eq_true rfl)⟩ dL_law_1054 ⟨by show _ ≤ 601024; omega, by show _ ≤ 7293034; omega⟩) hS hP hD hA [26, 27, 28, 29, 30] [0, 1, 2, 3, 4, 5, 6, 7, 8, 9, 10, 11, 12, 13, 14, 15, 16, 17, 18, 19, 20, 21, 22, 23, 24, 25, 31] rfl rfl (by decide) (by decide) [0, 1, 2, 3, 4, 5, 6, 7, 8, 9, 10, 11, 12, 13, 14, 15, 16, 17, 18, 19, 20, 21, 22, 23, 24, 25, 27, 28, 29, 30, 31, 26] (by decide) (wW cI cS cL sv gx gm og (u.1, z101.2, u.2.2)) rfl (fun H locs hP hD hS => ?_)
  refine lv_icmp_eq (tgt := 1493) hx hb dL_law_1057 (by decide) (fun c102 => ?_) (fun c102 => ?_)
  · have h := (if_pos c102).symm.trans h
    exact K _ (Option.some.inj h) _ _ _ _ _ (by omega) (by omega) hP hD hS (lv_sub hl [0, 1, 2, 3, 4] rfl)
  · have h := (if_neg c102).symm.trans h
    refine lv_iconst (v := 0) hx hb dL_law_1060 (by decide) ?_
    cases h
theorem cc_L_161 {p : Program} {l : Launch} {e : Env} {R : Room} {s : State} {m : MethodId} {args : Array Value} {below : List Frame} {meth : Method} {c : Code} {H : Heap} {locs : List Loc} {cells slots : Nat} {cc : ByteArray} {pc nL : Nat} {ls : Array Slot} {rest : List Value} {G : va_G} (sv : Nat) (ga : Nat → Nat) {cI cS : ClassId} {u : TH}  {r : Int32} (S : CallFix p m c cc nL s args bwL RL) (hK : va_K G vwCl (tysW cI cS) s) (hN : NW s) (hP : va_P G vwCl (wH cI sv ga u) H) (hf : fX4_returns u = some r) (hsz : ls.size = nL) (hst : (rest.map fun v => v.category).sum ≤ 8) (hR : rmX4_returns.frames + 1 ≤ R.frames ∧ 8 + (1 + 11) + rmX4_returns.locals ≤ R.locals) (hdg : decode cc pc = .ok (.invokevirtual 161, 3)) (hcs : cells + 0 ≤ R.cells ∧ slots + 0 ≤ R.slots) : va_Run p l e R s m args below meth c H locs cells slots 0 0 (F0 m pc ls (.ref (ga 0) :: rest)) rest (vp_Si (fun r' => r' = r) (#[.ref (ga 0)] : Array Value)) (fun _ => False) :=
  va_runV (As := []) (rest := rest) S (kX4_returns l G cI cS sv ga u r hf) (cwV 0 S.2.2.2.2 (gdVL ql_198 ql_199 ql_200 (bwL_of q_76) (bwL_of q_322)) rfl rfl rfl (by decide +kernel) hR) (pvR (q := (RX4, TX4, 8)) hK hN hP (ci := 4) (q0 := 0) rfl rfl) rfl rfl hsz rfl (lv_room hst) hdg hcs
theorem cc_L_164 {p : Program} {l : Launch} {e : Env} {R : Room} {s : State} {m : MethodId} {args : Array Value} {below : List Frame} {meth : Method} {c : Code} {H : Heap} {locs : List Loc} {cells slots : Nat} {cc : ByteArray} {pc nL : Nat} {ls : Array Slot} {rest : List Value} {G : va_G} {A : Nat → Prop} (ga : Nat → Nat) {cI cS : ClassId} {u : TM}  {r : Int32 × TM} (S : CallFix p m c cc nL s args bwL RL) (hK : va_K G vwCl (tysW cI cS) s) (hN : NW s) (hP : va_P G vwCl (wM cI ga u) H) (hD : va_D A (wM cI ga u)) (hf : fX5_returns u = some r) (hsz : ls.size = nL) (hst : (rest.map fun v => v.category).sum ≤ 8) (hR : rmX5_returns.frames + 1 ≤ R.frames ∧ 8 + (1 + 11) + rmX5_returns.locals ≤ R.locals) (hdg : decode cc pc = .ok (.invokevirtual 164, 3)) (hcs : cells + 0 ≤ R.cells ∧ slots + 0 ≤ R.slots) : va_Run p l e R s m args below meth c H locs cells slots 0 0 (F0 m pc ls (.ref (ga 0) :: rest)) rest (va_Qi (fun r' u' => (r', u') = r) (PoM G (tysW cI cS) (va_A (wM cI ga u) H.size) (wM cI ga)) (va_A (wM cI ga u) H.size) (#[.ref (ga 0)] : Array Value)) (va_A (wM cI ga u) H.size) :=
  va_runV (As := []) (rest := rest) S (kX5_returns l G cI cS ga H.size u r hf) (cwV 0 S.2.2.2.2 (gdVL ql_201 ql_202 ql_203 (bwL_of q_392) (bwL_of q_588)) rfl rfl rfl (by decide +kernel) hR) (pvM (q := (RX5, TX5, 12)) hK hN hP hD (ci := 5) (q0 := 0) rfl rfl) rfl rfl hsz rfl (lv_room hst) hdg hcs

def fLc_22 (u : THS × TM × OutR) (a1 a2 : Int32) : Option (THS × TM × OutR) := ((fX4_returns u.1.1).bind fun z103 => ((fX5_returns u.2.1).bind fun z104 => (if z103 = z104.1 then some (u.1, z104.2, u.2.2) else none)))
set_option maxRecDepth 100000 in
set_option maxHeartbeats 4000000 in
theorem kLc_22 {p : Program} {l : Launch} {e : Env} {s : State} {m : MethodId} {args : Array Value} {below : List Frame} {meth : Method} {c : Code} {Q : State → Prop} {b L : Nat} {xs : Nat → Int32} {G : va_G} {cI cS cL : ClassId} {A : Nat → Prop} {B0 : Nat} (C0 : LawC p l s m args c b L xs G cI cS cL A B0) (sv : Nat) (gx gm : Nat → Nat) (og : Nat) (u : THS × TM × OutR) (x4 a1 a2 : Int32) (u' : THS × TM × OutR) (hf : fLc_22 u a1 a2 = some u') (hin1 : vp_in (x4 + (1 : Int32)) L) (hin2 : vp_in (x4 + (2 : Int32)) L) (hs1 : xs (x4 + (1 : Int32)).toNatClampNeg = a1) (hs2 : xs (x4 + (2 : Int32)).toNatClampNeg = a2) (cells slots : Nat) (hc9 : cells + 2 ≤ 601024) (hs9 : slots + 12 ≤ 7293034)
    (K : ∀ (v : THS × TM × OutR), v = u' → ∀ (H : Heap) (locs : List Loc) (ls : Array Slot) (cells' slots' : Nat), cells' ≤ cells + 2 → slots' ≤ slots + 12 → va_P G vwCl (wW cI cS cL sv gx gm og v) H → va_D A (wW cI cS cL sv gx gm og v) → va_S A s.heap H locs → lv_has ls 9 [(0, .ref b), (1, .ref (gx 0)), (2, .ref (gm 0)), (3, .ref og), (4, .int x4)] → W p l e room_1 s m args below meth c H locs cells' slots' Q (F0 m 1493 ls []))
    (H : Heap) (locs : List Loc) (ls : Array Slot) (hP : va_P G vwCl (wW cI cS cL sv gx gm og u) H) (hD : va_D A (wW cI cS cL sv gx gm og u)) (hS : va_S A s.heap H locs) (hl : lv_has ls 9 [(0, .ref b), (1, .ref (gx 0)), (2, .ref (gm 0)), (3, .ref og), (4, .int x4)]) : W p l e room_1 s m args below meth c H locs cells slots Q (F0 m 1062 ls []) := by
  obtain ⟨hst, S, hK, hN, hC, hA, hAB, hB, hX, hX0, hbl, hbA⟩ := C0
  have hx := S.1; have hb := S.2.1; have hml := S.2.2.1; have hown := S.2.2.2.1; have hq := S.2.2.2.2
  have h := hf
  unfold fLc_22 at h
  refine lv_aload_n hx hb dL_law_1062 rfl (lv_at hl 1 rfl) ?_
  obtain ⟨z103, e_z103, h⟩ := bnd h
  refine roI (cc_L_161 sv gx S (hK.sub [0, 1] rfl) hN (hP.sub [0, 1, 2, 3, 4, 5, 6, 7, 8, 9, 10, 11, 12] rfl) e_z103 hl.1 (Nat.le_of_ble_eq_true rfl) ⟨(Nat.le_of_ble_eq_true rfl), (Nat.le_of_ble_eq_true rfl)⟩ dL_law_1063 ⟨by show _ ≤ 601024; omega, by show _ ≤ 7293034; omega⟩) ?_
  refine lv_aload_n hx hb dL_law_1066 rfl (lv_at hl 2 rfl) ?_
  obtain ⟨z104, e_z104, h⟩ := bnd h
  refine mkI (cc_L_164 gm S (hK.sub [0, 1] rfl) hN (hP.sub [26, 27, 28, 29, 30] rfl) (hD.sub [26, 27, 28, 29, 30] (by decide) rfl) e_z104 hl.1 (Nat.le_of_ble_eq_true rfl) ⟨(Nat.le_of_ble_eq_true rfl), (Nat.le_of_ble_eq_true rfl)⟩ dL_law_1067 ⟨by show _ ≤ 601024; omega, by show _ ≤ 7293034; omega⟩) hS hP hD hA [26, 27, 28, 29, 30] [0, 1, 2, 3, 4, 5, 6, 7, 8, 9, 10, 11, 12, 13, 14, 15, 16, 17, 18, 19, 20, 21, 22, 23, 24, 25, 31] rfl rfl (by decide) (by decide) [0, 1, 2, 3, 4, 5, 6, 7, 8, 9, 10, 11, 12, 13, 14, 15, 16, 17, 18, 19, 20, 21, 22, 23, 24, 25, 27, 28, 29, 30, 31, 26] (by decide) (wW cI cS cL sv gx gm og (u.1, z104.2, u.2.2)) rfl (fun H locs hP hD hS => ?_)
  refine lv_icmp_eq (tgt := 1493) hx hb dL_law_1070 (by decide) (fun c105 => ?_) (fun c105 => ?_)
  · have h := (if_pos c105).symm.trans h
    exact K _ (Option.some.inj h) _ _ _ _ _ (by omega) (by omega) hP hD hS (lv_sub hl [0, 1, 2, 3, 4] rfl)
  · have h := (if_neg c105).symm.trans h
    refine lv_iconst (v := 0) hx hb dL_law_1073 (by decide) ?_
    cases h
theorem cc_L_165 {p : Program} {l : Launch} {e : Env} {R : Room} {s : State} {m : MethodId} {args : Array Value} {below : List Frame} {meth : Method} {c : Code} {H : Heap} {locs : List Loc} {cells slots : Nat} {cc : ByteArray} {pc nL : Nat} {ls : Array Slot} {rest : List Value} {G : va_G} (sv : Nat) (ga : Nat → Nat) {cI cS : ClassId} {u : TH}  {r : Int32} (S : CallFix p m c cc nL s args bwL RL) (hK : va_K G vwCl (tysW cI cS) s) (hN : NW s) (hP : va_P G vwCl (wH cI sv ga u) H) (hf : fX4_compactions u = some r) (hsz : ls.size = nL) (hst : (rest.map fun v => v.category).sum ≤ 8) (hR : rmX4_compactions.frames + 1 ≤ R.frames ∧ 8 + (1 + 11) + rmX4_compactions.locals ≤ R.locals) (hdg : decode cc pc = .ok (.invokevirtual 165, 3)) (hcs : cells + 0 ≤ R.cells ∧ slots + 0 ≤ R.slots) : va_Run p l e R s m args below meth c H locs cells slots 0 0 (F0 m pc ls (.ref (ga 0) :: rest)) rest (vp_Si (fun r' => r' = r) (#[.ref (ga 0)] : Array Value)) (fun _ => False) :=
  va_runV (As := []) (rest := rest) S (kX4_compactions l G cI cS sv ga u r hf) (cwV 0 S.2.2.2.2 (gdVL ql_204 ql_205 ql_206 (bwL_of q_76) (bwL_of q_323)) rfl rfl rfl (by decide +kernel) hR) (pvR (q := (RX4, TX4, 8)) hK hN hP (ci := 4) (q0 := 0) rfl rfl) rfl rfl hsz rfl (lv_room hst) hdg hcs
theorem cc_L_168 {p : Program} {l : Launch} {e : Env} {R : Room} {s : State} {m : MethodId} {args : Array Value} {below : List Frame} {meth : Method} {c : Code} {H : Heap} {locs : List Loc} {cells slots : Nat} {cc : ByteArray} {pc nL : Nat} {ls : Array Slot} {rest : List Value} {G : va_G} {A : Nat → Prop} (ga : Nat → Nat) {cI cS : ClassId} {u : TM}  {r : Int32 × TM} (S : CallFix p m c cc nL s args bwL RL) (hK : va_K G vwCl (tysW cI cS) s) (hN : NW s) (hP : va_P G vwCl (wM cI ga u) H) (hD : va_D A (wM cI ga u)) (hf : fX5_compactions u = some r) (hsz : ls.size = nL) (hst : (rest.map fun v => v.category).sum ≤ 8) (hR : rmX5_compactions.frames + 1 ≤ R.frames ∧ 8 + (1 + 11) + rmX5_compactions.locals ≤ R.locals) (hdg : decode cc pc = .ok (.invokevirtual 168, 3)) (hcs : cells + 0 ≤ R.cells ∧ slots + 0 ≤ R.slots) : va_Run p l e R s m args below meth c H locs cells slots 0 0 (F0 m pc ls (.ref (ga 0) :: rest)) rest (va_Qi (fun r' u' => (r', u') = r) (PoM G (tysW cI cS) (va_A (wM cI ga u) H.size) (wM cI ga)) (va_A (wM cI ga u) H.size) (#[.ref (ga 0)] : Array Value)) (va_A (wM cI ga u) H.size) :=
  va_runV (As := []) (rest := rest) S (kX5_compactions l G cI cS ga H.size u r hf) (cwV 0 S.2.2.2.2 (gdVL ql_207 ql_208 ql_209 (bwL_of q_392) (bwL_of q_589)) rfl rfl rfl (by decide +kernel) hR) (pvM (q := (RX5, TX5, 12)) hK hN hP hD (ci := 5) (q0 := 0) rfl rfl) rfl rfl hsz rfl (lv_room hst) hdg hcs

def fLc_23 (u : THS × TM × OutR) (a1 a2 : Int32) : Option (THS × TM × OutR) := ((fX4_compactions u.1.1).bind fun z106 => ((fX5_compactions u.2.1).bind fun z107 => (if z106 = z107.1 then some (u.1, z107.2, u.2.2) else none)))
set_option maxRecDepth 100000 in
set_option maxHeartbeats 4000000 in
theorem kLc_23 {p : Program} {l : Launch} {e : Env} {s : State} {m : MethodId} {args : Array Value} {below : List Frame} {meth : Method} {c : Code} {Q : State → Prop} {b L : Nat} {xs : Nat → Int32} {G : va_G} {cI cS cL : ClassId} {A : Nat → Prop} {B0 : Nat} (C0 : LawC p l s m args c b L xs G cI cS cL A B0) (sv : Nat) (gx gm : Nat → Nat) (og : Nat) (u : THS × TM × OutR) (x4 a1 a2 : Int32) (u' : THS × TM × OutR) (hf : fLc_23 u a1 a2 = some u') (hin1 : vp_in (x4 + (1 : Int32)) L) (hin2 : vp_in (x4 + (2 : Int32)) L) (hs1 : xs (x4 + (1 : Int32)).toNatClampNeg = a1) (hs2 : xs (x4 + (2 : Int32)).toNatClampNeg = a2) (cells slots : Nat) (hc9 : cells + 2 ≤ 601024) (hs9 : slots + 12 ≤ 7293034)
    (K : ∀ (v : THS × TM × OutR), v = u' → ∀ (H : Heap) (locs : List Loc) (ls : Array Slot) (cells' slots' : Nat), cells' ≤ cells + 2 → slots' ≤ slots + 12 → va_P G vwCl (wW cI cS cL sv gx gm og v) H → va_D A (wW cI cS cL sv gx gm og v) → va_S A s.heap H locs → lv_has ls 9 [(0, .ref b), (1, .ref (gx 0)), (2, .ref (gm 0)), (3, .ref og), (4, .int x4)] → W p l e room_1 s m args below meth c H locs cells' slots' Q (F0 m 1493 ls []))
    (H : Heap) (locs : List Loc) (ls : Array Slot) (hP : va_P G vwCl (wW cI cS cL sv gx gm og u) H) (hD : va_D A (wW cI cS cL sv gx gm og u)) (hS : va_S A s.heap H locs) (hl : lv_has ls 9 [(0, .ref b), (1, .ref (gx 0)), (2, .ref (gm 0)), (3, .ref og), (4, .int x4)]) : W p l e room_1 s m args below meth c H locs cells slots Q (F0 m 1075 ls []) := by
  obtain ⟨hst, S, hK, hN, hC, hA, hAB, hB, hX, hX0, hbl, hbA⟩ := C0
  have hx := S.1; have hb := S.2.1; have hml := S.2.2.1; have hown := S.2.2.2.1; have hq := S.2.2.2.2
  have h := hf
  unfold fLc_23 at h
  refine lv_aload_n hx hb dL_law_1075 rfl (lv_at hl 1 rfl) ?_
  obtain ⟨z106, e_z106, h⟩ := bnd h
  refine roI (cc_L_165 sv gx S (hK.sub [0, 1] rfl) hN (hP.sub [0, 1, 2, 3, 4, 5, 6, 7, 8, 9, 10, 11, 12] rfl) e_z106 hl.1 (Nat.le_of_ble_eq_true rfl) ⟨(Nat.le_of_ble_eq_true rfl), (Nat.le_of_ble_eq_true rfl)⟩ dL_law_1076 ⟨by show _ ≤ 601024; omega, by show _ ≤ 7293034; omega⟩) ?_
  refine lv_aload_n hx hb dL_law_1079 rfl (lv_at hl 2 rfl) ?_
  obtain ⟨z107, e_z107, h⟩ := bnd h
  refine mkI (cc_L_168 gm S (hK.sub [0, 1] rfl) hN (hP.sub [26, 27, 28, 29, 30] rfl) (hD.sub [26, 27, 28, 29, 30] (by decide) rfl) e_z107 hl.1 (Nat.le_of_ble_eq_true rfl) ⟨(Nat.le_of_ble_eq_true rfl), (Nat.le_of_ble_eq_true rfl)⟩ dL_law_1080 ⟨by show _ ≤ 601024; omega, by show _ ≤ 7293034; omega⟩) hS hP hD hA [26, 27, 28, 29, 30] [0, 1, 2, 3, 4, 5, 6, 7, 8, 9, 10, 11, 12, 13, 14, 15, 16, 17, 18, 19, 20, 21, 22, 23, 24, 25, 31] rfl rfl (by decide) (by decide) [0, 1, 2, 3, 4, 5, 6, 7, 8, 9, 10, 11, 12, 13, 14, 15, 16, 17, 18, 19, 20, 21, 22, 23, 24, 25, 27, 28, 29, 30, 31, 26] (by decide) (wW cI cS cL sv gx gm og (u.1, z107.2, u.2.2)) rfl (fun H locs hP hD hS => ?_)
  refine lv_icmp_eq (tgt := 1493) hx hb dL_law_1083 (by decide) (fun c108 => ?_) (fun c108 => ?_)
  · have h := (if_pos c108).symm.trans h
    exact K _ (Option.some.inj h) _ _ _ _ _ (by omega) (by omega) hP hD hS (lv_sub hl [0, 1, 2, 3, 4] rfl)
  · have h := (if_neg c108).symm.trans h
    refine lv_iconst (v := 0) hx hb dL_law_1086 (by decide) ?_
    cases h
theorem cc_L_169 {p : Program} {l : Launch} {e : Env} {R : Room} {s : State} {m : MethodId} {args : Array Value} {below : List Frame} {meth : Method} {c : Code} {H : Heap} {locs : List Loc} {cells slots : Nat} {cc : ByteArray} {pc nL : Nat} {ls : Array Slot} {rest : List Value} {G : va_G} (sv : Nat) (ga : Nat → Nat) {cI cS : ClassId} {u : TH}  {r : UInt64} (S : CallFix p m c cc nL s args bwL RL) (hK : va_K G vwCl (tysW cI cS) s) (hN : NW s) (hP : va_P G vwCl (wH cI sv ga u) H) (hf : fX4_fillFactor u = some r) (hsz : ls.size = nL) (hst : (rest.map fun v => v.category).sum ≤ 8) (hR : rmX4_fillFactor.frames + 1 ≤ R.frames ∧ 8 + (3 + 11) + rmX4_fillFactor.locals ≤ R.locals) (hdg : decode cc pc = .ok (.invokevirtual 169, 3)) (hcs : cells + 0 ≤ R.cells ∧ slots + 0 ≤ R.slots) : va_Run p l e R s m args below meth c H locs cells slots 0 0 (F0 m pc ls (.ref (ga 0) :: rest)) rest (vp_Sd (fun r' => r' = r) (#[.ref (ga 0)] : Array Value)) (fun _ => False) :=
  va_runV (As := []) (rest := rest) S (kX4_fillFactor l G cI cS sv ga u r hf) (cwV 0 S.2.2.2.2 (gdVL ql_210 (bwL_of q_371) (bwL_of q_372) (bwL_of q_76) (bwL_of q_324)) rfl rfl rfl (by decide +kernel) hR) (pvR (q := (RX4, TX4, 8)) hK hN hP (ci := 4) (q0 := 0) rfl rfl) rfl rfl hsz rfl (lv_room hst) hdg hcs
theorem cc_L_173 {p : Program} {l : Launch} {e : Env} {R : Room} {s : State} {m : MethodId} {args : Array Value} {below : List Frame} {meth : Method} {c : Code} {H : Heap} {locs : List Loc} {cells slots : Nat} {cc : ByteArray} {pc nL : Nat} {ls : Array Slot} {rest : List Value} {G : va_G} {A : Nat → Prop} (ga : Nat → Nat) {cI cS : ClassId} {u : TM}  {r : UInt64 × TM} (S : CallFix p m c cc nL s args bwL RL) (hK : va_K G vwCl (tysW cI cS) s) (hN : NW s) (hP : va_P G vwCl (wM cI ga u) H) (hD : va_D A (wM cI ga u)) (hf : fX5_fillFactor u = some r) (hsz : ls.size = nL) (hst : (rest.map fun v => v.category).sum ≤ 8) (hR : rmX5_fillFactor.frames + 1 ≤ R.frames ∧ 8 + (1 + 11) + rmX5_fillFactor.locals ≤ R.locals) (hdg : decode cc pc = .ok (.invokevirtual 173, 3)) (hcs : cells + 0 ≤ R.cells ∧ slots + 0 ≤ R.slots) : va_Run p l e R s m args below meth c H locs cells slots 0 0 (F0 m pc ls (.ref (ga 0) :: rest)) rest (va_Qd (fun r' u' => (r', u') = r) (PoM G (tysW cI cS) (va_A (wM cI ga u) H.size) (wM cI ga)) (va_A (wM cI ga u) H.size) (#[.ref (ga 0)] : Array Value)) (va_A (wM cI ga u) H.size) :=
  va_runV (As := []) (rest := rest) S (kX5_fillFactor l G cI cS ga H.size u r hf) (cwV 0 S.2.2.2.2 (gdVL ql_211 ql_212 ql_213 (bwL_of q_392) (bwL_of q_591)) rfl rfl rfl (by decide +kernel) hR) (pvM (q := (RX5, TX5, 12)) hK hN hP hD (ci := 5) (q0 := 0) rfl rfl) rfl rfl hsz rfl (lv_room hst) hdg hcs

def fLc_24 (u : THS × TM × OutR) (a1 a2 : Int32) : Option (THS × TM × OutR) := ((fX4_fillFactor u.1.1).bind fun z109 => ((fX5_fillFactor u.2.1).bind fun z110 => (if (Op.cmpValue (FP.dcmp z109 z110.1) .l) = 0 then some (u.1, z110.2, u.2.2) else (if (Op.cmpValue (FP.dcmp z109 z109) .l) = 0 then none else (if (Op.cmpValue (FP.dcmp z110.1 z110.1) .l) = 0 then none else some (u.1, z110.2, u.2.2))))))
set_option maxRecDepth 100000 in
set_option maxHeartbeats 4000000 in
theorem kLc_24 {p : Program} {l : Launch} {e : Env} {s : State} {m : MethodId} {args : Array Value} {below : List Frame} {meth : Method} {c : Code} {Q : State → Prop} {b L : Nat} {xs : Nat → Int32} {G : va_G} {cI cS cL : ClassId} {A : Nat → Prop} {B0 : Nat} (C0 : LawC p l s m args c b L xs G cI cS cL A B0) (sv : Nat) (gx gm : Nat → Nat) (og : Nat) (u : THS × TM × OutR) (x4 a1 a2 : Int32) (u' : THS × TM × OutR) (hf : fLc_24 u a1 a2 = some u') (hin1 : vp_in (x4 + (1 : Int32)) L) (hin2 : vp_in (x4 + (2 : Int32)) L) (hs1 : xs (x4 + (1 : Int32)).toNatClampNeg = a1) (hs2 : xs (x4 + (2 : Int32)).toNatClampNeg = a2) (cells slots : Nat) (hc9 : cells + 2 ≤ 601024) (hs9 : slots + 12 ≤ 7293034)
    (K : ∀ (v : THS × TM × OutR), v = u' → ∀ (H : Heap) (locs : List Loc) (ls : Array Slot) (cells' slots' : Nat), cells' ≤ cells + 2 → slots' ≤ slots + 12 → va_P G vwCl (wW cI cS cL sv gx gm og v) H → va_D A (wW cI cS cL sv gx gm og v) → va_S A s.heap H locs → lv_has ls 9 [(0, .ref b), (1, .ref (gx 0)), (2, .ref (gm 0)), (3, .ref og), (4, .int x4)] → W p l e room_1 s m args below meth c H locs cells' slots' Q (F0 m 1493 ls []))
    (H : Heap) (locs : List Loc) (ls : Array Slot) (hP : va_P G vwCl (wW cI cS cL sv gx gm og u) H) (hD : va_D A (wW cI cS cL sv gx gm og u)) (hS : va_S A s.heap H locs) (hl : lv_has ls 9 [(0, .ref b), (1, .ref (gx 0)), (2, .ref (gm 0)), (3, .ref og), (4, .int x4)]) : W p l e room_1 s m args below meth c H locs cells slots Q (F0 m 1088 ls []) := by
  obtain ⟨hst, S, hK, hN, hC, hA, hAB, hB, hX, hX0, hbl, hbA⟩ := C0
  have hx := S.1; have hb := S.2.1; have hml := S.2.2.1; have hown := S.2.2.2.1; have hq := S.2.2.2.2
  have h := hf
  unfold fLc_24 at h
  refine lv_aload_n hx hb dL_law_1088 rfl (lv_at hl 1 rfl) ?_
  obtain ⟨z109, e_z109, h⟩ := bnd h
  refine roD (cc_L_169 sv gx S (hK.sub [0, 1] rfl) hN (hP.sub [0, 1, 2, 3, 4, 5, 6, 7, 8, 9, 10, 11, 12] rfl) e_z109 hl.1 (Nat.le_of_ble_eq_true rfl) ⟨(Nat.le_of_ble_eq_true rfl), (Nat.le_of_ble_eq_true rfl)⟩ dL_law_1089 ⟨by show _ ≤ 601024; omega, by show _ ≤ 7293034; omega⟩) ?_
  refine lv_dstore (lv' := [(5, .double z109), (0, .ref b), (1, .ref (gx 0)), (2, .ref (gm 0)), (3, .ref og), (4, .int x4)]) hx hb dL_law_1092 hl (by decide) rfl (fun ls hl => ?_)
  refine lv_aload_n hx hb dL_law_1094 rfl (lv_at hl 3 rfl) ?_
  obtain ⟨z110, e_z110, h⟩ := bnd h
  refine mkD (cc_L_173 gm S (hK.sub [0, 1] rfl) hN (hP.sub [26, 27, 28, 29, 30] rfl) (hD.sub [26, 27, 28, 29, 30] (by decide) rfl) e_z110 hl.1 (Nat.le_of_ble_eq_true rfl) ⟨(Nat.le_of_ble_eq_true rfl), (Nat.le_of_ble_eq_true rfl)⟩ dL_law_1095 ⟨by show _ ≤ 601024; omega, by show _ ≤ 7293034; omega⟩) hS hP hD hA [26, 27, 28, 29, 30] [0, 1, 2, 3, 4, 5, 6, 7, 8, 9, 10, 11, 12, 13, 14, 15, 16, 17, 18, 19, 20, 21, 22, 23, 24, 25, 31] rfl rfl (by decide) (by decide) [0, 1, 2, 3, 4, 5, 6, 7, 8, 9, 10, 11, 12, 13, 14, 15, 16, 17, 18, 19, 20, 21, 22, 23, 24, 25, 27, 28, 29, 30, 31, 26] (by decide) (wW cI cS cL sv gx gm og (u.1, z110.2, u.2.2)) rfl (fun H locs hP hD hS => ?_)
  refine lv_dstore (lv' := [(7, .double z110.1), (5, .double z109), (0, .ref b), (1, .ref (gx 0)), (2, .ref (gm 0)), (3, .ref og), (4, .int x4)]) hx hb dL_law_1098 hl (by decide) rfl (fun ls hl => ?_)
  refine lv_dload hx hb dL_law_1100 (lv_at hl 1 rfl) ?_
  refine lv_dload hx hb dL_law_1102 (lv_at hl 0 rfl) ?_
  refine lv_dcmp hx hb dL_law_1104 ?_
  refine lv_if_eq (tgt := 1126) hx hb dL_law_1105 (by decide) (fun c111 => ?_) (fun c111 => ?_)
  · have h := (if_pos c111).symm.trans h
    refine lv_goto (tgt := 1493) hx hb dL_law_1126 (by decide) ?_
    exact K _ (Option.some.inj h) _ _ _ _ _ (by omega) (by omega) hP hD hS (lv_sub hl [2, 3, 4, 5, 6] rfl)
  · have h := (if_neg c111).symm.trans h
    refine lv_dload hx hb dL_law_1108 (lv_at hl 1 rfl) ?_
    refine lv_dload hx hb dL_law_1110 (lv_at hl 1 rfl) ?_
    refine lv_dcmp hx hb dL_law_1112 ?_
    refine lv_if_eq (tgt := 1124) hx hb dL_law_1113 (by decide) (fun c112 => ?_) (fun c112 => ?_)
    · have h := (if_pos c112).symm.trans h
      refine lv_iconst (v := 0) hx hb dL_law_1124 (by decide) ?_
      cases h
    · have h := (if_neg c112).symm.trans h
      refine lv_dload hx hb dL_law_1116 (lv_at hl 0 rfl) ?_
      refine lv_dload hx hb dL_law_1118 (lv_at hl 0 rfl) ?_
      refine lv_dcmp hx hb dL_law_1120 ?_
      refine lv_if_ne (tgt := 1126) hx hb dL_law_1121 (by decide) (fun c113 => ?_) (fun c113 => ?_)
      · have h := (if_neg c113).symm.trans h
        refine lv_goto (tgt := 1493) hx hb dL_law_1126 (by decide) ?_
        exact K _ (Option.some.inj h) _ _ _ _ _ (by omega) (by omega) hP hD hS (lv_sub hl [2, 3, 4, 5, 6] rfl)
      · have h := (if_pos c113).symm.trans h
        refine lv_iconst (v := 0) hx hb dL_law_1124 (by decide) ?_
        cases h
theorem cc_L_174 {p : Program} {l : Launch} {e : Env} {R : Room} {s : State} {m : MethodId} {args : Array Value} {below : List Frame} {meth : Method} {c : Code} {H : Heap} {locs : List Loc} {cells slots : Nat} {cc : ByteArray} {pc nL : Nat} {ls : Array Slot} {rest : List Value} {G : va_G} {A : Nat → Prop} {B0 : Nat} (sv : Nat) (gx : Nat → Nat) (og : Nat) {cI cS cL : ClassId} {u : THS × OutR} {p0 : Int32} {r : Int32 × (THS × OutR)} (hst : l.stackTraces = false) (S : CallFix p m c cc nL s args bwL RL) (hK : va_K G vwCl (tysL cI cS cL) s) (hN : NW s) (hC : NC s) (hP : va_P G vwCl (wO cI cS cL sv gx og u) H) (hD : va_D A (wO cI cS cL sv gx og u)) (hS : va_S A s.heap H locs) (hAB : ∀ q, A q → B0 ≤ q) (hB : B0 ≤ s.heap.size) (hX : XT B0 s s.heap) (hf : fL_ifInserted u p0 = some r) (hsz : ls.size = nL) (hsk : (rest.map fun v => v.category).sum ≤ 8) (hR : rmL_ifInserted.frames + 1 ≤ R.frames ∧ 8 + (4 + 11) + rmL_ifInserted.locals ≤ R.locals) (hdg : decode cc pc = .ok (.invokestatic 174, 3)) (hcs : cells + 1 ≤ R.cells ∧ slots + 6 ≤ R.slots) : va_Run p l e R s m args below meth c H locs cells slots 1 6 (F0 m pc ls (.ref og :: .int p0 :: .ref (gx 0) :: rest)) rest (va_Qi (fun r' u' => (r', u') = r) (PoM G (tysL cI cS cL) (va_A (wO cI cS cL sv gx og u) H.size) (wO cI cS cL sv gx og)) (va_A (wO cI cS cL sv gx og u) H.size) (#[.ref (gx 0), .int p0, .ref og] : Array Value)) (va_A (wO cI cS cL sv gx og u) H.size) :=
  vx_runSW (As := [.ref (gx 0), .int p0, .ref og]) (rest := rest) S (kL_ifInserted l hst G cI cS cL sv gx og H.size B0 u p0 r hf) (vx_cwSW 3 S.2.2.2.2 (gdWL ql_214 ql_215 ql_86 ql_54) rfl rfl rfl (by decide +kernel) hR) (psL hK hN hC hP hD hS hAB hB hX) rfl rfl hsz rfl (lv_room hsk) hdg hcs
theorem cc_L_176 {p : Program} {l : Launch} {e : Env} {R : Room} {s : State} {m : MethodId} {args : Array Value} {below : List Frame} {meth : Method} {c : Code} {H : Heap} {locs : List Loc} {cells slots : Nat} {cc : ByteArray} {pc nL : Nat} {ls : Array Slot} {rest : List Value} {G : va_G} {A : Nat → Prop} (ga : Nat → Nat) {cI cS : ClassId} {u : TM}  {p0 : Int32} {r : Int32 × TM} (S : CallFix p m c cc nL s args bwL RL) (hK : va_K G vwCl (tysW cI cS) s) (hN : NW s) (hP : va_P G vwCl (wM cI ga u) H) (hD : va_D A (wM cI ga u)) (hf : fX5_ifInserted u p0 = some r) (hsz : ls.size = nL) (hst : (rest.map fun v => v.category).sum ≤ 8) (hR : rmX5_ifInserted.frames + 1 ≤ R.frames ∧ 8 + (4 + 11) + rmX5_ifInserted.locals ≤ R.locals) (hdg : decode cc pc = .ok (.invokevirtual 176, 3)) (hcs : cells + 0 ≤ R.cells ∧ slots + 0 ≤ R.slots) : va_Run p l e R s m args below meth c H locs cells slots 0 0 (F0 m pc ls (.int p0 :: .ref (ga 0) :: rest)) rest (va_Qi (fun r' u' => (r', u') = r) (PoM G (tysW cI cS) (va_A (wM cI ga u) H.size) (wM cI ga)) (va_A (wM cI ga u) H.size) (#[.ref (ga 0), .int p0] : Array Value)) (va_A (wM cI ga u) H.size) :=
  va_runV (As := [.int p0]) (rest := rest) S (kX5_ifInserted l G cI cS ga H.size u p0 r hf) (cwV 1 S.2.2.2.2 (gdVL ql_216 ql_217 ql_218 (bwL_of q_392) (bwL_of q_595)) rfl rfl rfl (by decide +kernel) hR) (pvM (q := (RX5, TX5, 12)) hK hN hP hD (ci := 5) (q0 := 0) rfl rfl) rfl rfl hsz rfl (lv_room hst) hdg hcs

def fLc_25 (u : THS × TM × OutR) (a1 a2 : Int32) : Option (THS × TM × OutR) := ((fL_ifInserted (u.1, u.2.2) a1).bind fun z114 => ((fX5_ifInserted u.2.1 a1).bind fun z115 => ((fX5_thrown z115.2).bind fun z116 => (if z116 = z114.1 then (if z114.1 = 0 then (if (lg_cmp (z114.2.2 (0 : Int32).toNatClampNeg) z115.1.toInt64) = 0 then some (z114.2.1, z115.2, z114.2.2) else none) else some (z114.2.1, z115.2, z114.2.2)) else none))))
set_option maxRecDepth 100000 in
set_option maxHeartbeats 4000000 in
theorem kLc_25 {p : Program} {l : Launch} {e : Env} {s : State} {m : MethodId} {args : Array Value} {below : List Frame} {meth : Method} {c : Code} {Q : State → Prop} {b L : Nat} {xs : Nat → Int32} {G : va_G} {cI cS cL : ClassId} {A : Nat → Prop} {B0 : Nat} (C0 : LawC p l s m args c b L xs G cI cS cL A B0) (sv : Nat) (gx gm : Nat → Nat) (og : Nat) (u : THS × TM × OutR) (x4 a1 a2 : Int32) (u' : THS × TM × OutR) (hf : fLc_25 u a1 a2 = some u') (hin1 : vp_in (x4 + (1 : Int32)) L) (hin2 : vp_in (x4 + (2 : Int32)) L) (hs1 : xs (x4 + (1 : Int32)).toNatClampNeg = a1) (hs2 : xs (x4 + (2 : Int32)).toNatClampNeg = a2) (cells slots : Nat) (hc9 : cells + 2 ≤ 601024) (hs9 : slots + 12 ≤ 7293034)
    (K : ∀ (v : THS × TM × OutR), v = u' → ∀ (H : Heap) (locs : List Loc) (ls : Array Slot) (cells' slots' : Nat), cells' ≤ cells + 2 → slots' ≤ slots + 12 → va_P G vwCl (wW cI cS cL sv gx gm og v) H → va_D A (wW cI cS cL sv gx gm og v) → va_S A s.heap H locs → lv_has ls 9 [(0, .ref b), (1, .ref (gx 0)), (2, .ref (gm 0)), (3, .ref og), (4, .int x4)] → W p l e room_1 s m args below meth c H locs cells' slots' Q (F0 m 1493 ls []))
    (H : Heap) (locs : List Loc) (ls : Array Slot) (hP : va_P G vwCl (wW cI cS cL sv gx gm og u) H) (hD : va_D A (wW cI cS cL sv gx gm og u)) (hS : va_S A s.heap H locs) (hl : lv_has ls 9 [(0, .ref b), (1, .ref (gx 0)), (2, .ref (gm 0)), (3, .ref og), (4, .int x4)]) : W p l e room_1 s m args below meth c H locs cells slots Q (F0 m 1129 ls []) := by
  obtain ⟨hst, S, hK, hN, hC, hA, hAB, hB, hX, hX0, hbl, hbA⟩ := C0
  have hx := S.1; have hb := S.2.1; have hml := S.2.2.1; have hown := S.2.2.2.1; have hq := S.2.2.2.2
  have h := hf
  unfold fLc_25 at h
  refine lv_aload_n hx hb dL_law_1129 rfl (lv_at hl 1 rfl) ?_
  refine lv_aload_n hx hb dL_law_1130 rfl (lv_at hl 0 rfl) ?_
  refine lv_iload hx hb dL_law_1131 (lv_at hl 4 rfl) ?_
  refine lv_iconst (v := 1) hx hb dL_law_1133 (by decide) ?_
  refine lv_iadd hx hb dL_law_1134 ?_
  refine sldO hx hb hX0 hbl hbA hS hin1 hs1 dL_law_1135 ?_
  refine lv_aload_n hx hb dL_law_1136 rfl (lv_at hl 3 rfl) ?_
  obtain ⟨z114, e_z114, h⟩ := bnd h
  refine mkI (cc_L_174 sv gx og hst S hK hN hC (hP.sub [0, 1, 2, 3, 4, 5, 6, 7, 8, 9, 10, 11, 12, 13, 14, 15, 16, 17, 18, 19, 20, 21, 22, 23, 24, 25, 31] rfl) (hD.sub [0, 1, 2, 3, 4, 5, 6, 7, 8, 9, 10, 11, 12, 13, 14, 15, 16, 17, 18, 19, 20, 21, 22, 23, 24, 25, 31] (by decide) rfl) hS hAB hB hX e_z114 hl.1 (Nat.le_of_ble_eq_true rfl) ⟨(Nat.le_of_ble_eq_true rfl), (Nat.le_of_ble_eq_true rfl)⟩ dL_law_1137 ⟨by show _ ≤ 601024; omega, by show _ ≤ 7293034; omega⟩) hS hP hD hA [0, 1, 2, 3, 4, 5, 6, 7, 8, 9, 10, 11, 12, 13, 14, 15, 16, 17, 18, 19, 20, 21, 22, 23, 24, 25, 31] [26, 27, 28, 29, 30] rfl rfl (by decide) (by decide) [5, 6, 7, 8, 9, 10, 11, 12, 13, 14, 15, 16, 17, 18, 19, 20, 21, 22, 23, 24, 25, 26, 27, 28, 29, 30, 0, 1, 2, 3, 4, 31] (by decide) (wW cI cS cL sv gx gm og (z114.2.1, u.2.1, z114.2.2)) rfl (fun H locs hP hD hS => ?_)
  refine lv_istore (lv' := [(5, .int z114.1), (0, .ref b), (1, .ref (gx 0)), (2, .ref (gm 0)), (3, .ref og), (4, .int x4)]) hx hb dL_law_1140 hl (by decide) rfl (fun ls hl => ?_)
  refine lv_aload_n hx hb dL_law_1142 rfl (lv_at hl 3 rfl) ?_
  refine lv_aload_n hx hb dL_law_1143 rfl (lv_at hl 1 rfl) ?_
  refine lv_iload hx hb dL_law_1144 (lv_at hl 5 rfl) ?_
  refine lv_iconst (v := 1) hx hb dL_law_1146 (by decide) ?_
  refine lv_iadd hx hb dL_law_1147 ?_
  refine sldO hx hb hX0 hbl hbA hS hin1 hs1 dL_law_1148 ?_
  obtain ⟨z115, e_z115, h⟩ := bnd h
  refine mkI (cc_L_176 gm S (hK.sub [0, 1] rfl) hN (hP.sub [26, 27, 28, 29, 30] rfl) (hD.sub [26, 27, 28, 29, 30] (by decide) rfl) e_z115 hl.1 (Nat.le_of_ble_eq_true rfl) ⟨(Nat.le_of_ble_eq_true rfl), (Nat.le_of_ble_eq_true rfl)⟩ dL_law_1149 ⟨by show _ ≤ 601024; omega, by show _ ≤ 7293034; omega⟩) hS hP hD hA [26, 27, 28, 29, 30] [0, 1, 2, 3, 4, 5, 6, 7, 8, 9, 10, 11, 12, 13, 14, 15, 16, 17, 18, 19, 20, 21, 22, 23, 24, 25, 31] rfl rfl (by decide) (by decide) [0, 1, 2, 3, 4, 5, 6, 7, 8, 9, 10, 11, 12, 13, 14, 15, 16, 17, 18, 19, 20, 21, 22, 23, 24, 25, 27, 28, 29, 30, 31, 26] (by decide) (wW cI cS cL sv gx gm og (z114.2.1, z115.2, z114.2.2)) rfl (fun H locs hP hD hS => ?_)
  refine lv_istore (lv' := [(6, .int z115.1), (5, .int z114.1), (0, .ref b), (1, .ref (gx 0)), (2, .ref (gm 0)), (3, .ref og), (4, .int x4)]) hx hb dL_law_1152 hl (by decide) rfl (fun ls hl => ?_)
  refine lv_aload_n hx hb dL_law_1154 rfl (lv_at hl 4 rfl) ?_
  obtain ⟨z116, e_z116, h⟩ := bnd h
  refine roI (cc_L_82 gm S (hK.sub [0, 1] rfl) hN (hP.sub [26, 27, 28, 29, 30] rfl) e_z116 hl.1 (Nat.le_of_ble_eq_true rfl) ⟨(Nat.le_of_ble_eq_true rfl), (Nat.le_of_ble_eq_true rfl)⟩ dL_law_1155 ⟨by show _ ≤ 601024; omega, by show _ ≤ 7293034; omega⟩) ?_
  refine lv_iload hx hb dL_law_1158 (lv_at hl 1 rfl) ?_
  refine lv_icmp_eq (tgt := 1165) hx hb dL_law_1160 (by decide) (fun c117 => ?_) (fun c117 => ?_)
  · have h := (if_pos c117).symm.trans h
    refine lv_iload hx hb dL_law_1165 (lv_at hl 1 rfl) ?_
    refine lv_if_ne (tgt := 1182) hx hb dL_law_1167 (by decide) (fun c118 => ?_) (fun c118 => ?_)
    · have h := (if_neg c118).symm.trans h
      refine lv_goto (tgt := 1493) hx hb dL_law_1182 (by decide) ?_
      exact K _ (Option.some.inj h) _ _ _ _ _ (by omega) (by omega) hP hD hS (lv_sub hl [2, 3, 4, 5, 6] rfl)
    · have h := (if_pos c118).symm.trans h
      refine lv_aload_n hx hb dL_law_1170 rfl (lv_at hl 5 rfl) ?_
      refine lv_iconst (v := 0) hx hb dL_law_1171 (by decide) ?_
      refine va_lald (f := z114.2.2) hx hb hK hP 31 2 rfl rfl (vp_in_of_not (i := 0) (n := 1) (by decide)) dL_law_1172 ?_
      refine lv_iload hx hb dL_law_1173 (lv_at hl 0 rfl) ?_
      refine lv_i2l hx hb dL_law_1175 rfl ?_
      refine W.lcmp hx hb dL_law_1176 ?_
      refine lv_if_eq (tgt := 1182) hx hb dL_law_1177 (by decide) (fun c119 => ?_) (fun c119 => ?_)
      · have h := (if_pos c119).symm.trans h
        refine lv_goto (tgt := 1493) hx hb dL_law_1182 (by decide) ?_
        exact K _ (Option.some.inj h) _ _ _ _ _ (by omega) (by omega) hP hD hS (lv_sub hl [2, 3, 4, 5, 6] rfl)
      · have h := (if_neg c119).symm.trans h
        refine lv_iconst (v := 0) hx hb dL_law_1180 (by decide) ?_
        cases h
  · have h := (if_neg c117).symm.trans h
    refine lv_iconst (v := 0) hx hb dL_law_1163 (by decide) ?_
    cases h
theorem cc_L_177 {p : Program} {l : Launch} {e : Env} {R : Room} {s : State} {m : MethodId} {args : Array Value} {below : List Frame} {meth : Method} {c : Code} {H : Heap} {locs : List Loc} {cells slots : Nat} {cc : ByteArray} {pc nL : Nat} {ls : Array Slot} {rest : List Value} {G : va_G} {A : Nat → Prop} {B0 : Nat} (sv : Nat) (gx : Nat → Nat) (og : Nat) {cI cS cL : ClassId} {u : THS × OutR} {p0 : Int32} {p1 : Int32} {r : Int32 × (THS × OutR)} (hst : l.stackTraces = false) (S : CallFix p m c cc nL s args bwL RL) (hK : va_K G vwCl (tysL cI cS cL) s) (hN : NW s) (hC : NC s) (hP : va_P G vwCl (wO cI cS cL sv gx og u) H) (hD : va_D A (wO cI cS cL sv gx og u)) (hS : va_S A s.heap H locs) (hAB : ∀ q, A q → B0 ≤ q) (hB : B0 ≤ s.heap.size) (hX : XT B0 s s.heap) (hf : fL_ifUpdated u p0 p1 = some r) (hsz : ls.size = nL) (hsk : (rest.map fun v => v.category).sum ≤ 8) (hR : rmL_ifUpdated.frames + 1 ≤ R.frames ∧ 8 + (5 + 11) + rmL_ifUpdated.locals ≤ R.locals) (hdg : decode cc pc = .ok (.invokestatic 177, 3)) (hcs : cells + 2 ≤ R.cells ∧ slots + 12 ≤ R.slots) : va_Run p l e R s m args below meth c H locs cells slots 2 12 (F0 m pc ls (.ref og :: .int p1 :: .int p0 :: .ref (gx 0) :: rest)) rest (va_Qi (fun r' u' => (r', u') = r) (PoM G (tysL cI cS cL) (va_A (wO cI cS cL sv gx og u) H.size) (wO cI cS cL sv gx og)) (va_A (wO cI cS cL sv gx og u) H.size) (#[.ref (gx 0), .int p0, .int p1, .ref og] : Array Value)) (va_A (wO cI cS cL sv gx og u) H.size) :=
  vx_runSW (As := [.ref (gx 0), .int p0, .int p1, .ref og]) (rest := rest) S (kL_ifUpdated l hst G cI cS cL sv gx og H.size B0 u p0 p1 r hf) (vx_cwSW 4 S.2.2.2.2 (gdWL ql_219 ql_220 ql_86 ql_58) rfl rfl rfl (by decide +kernel) hR) (psL hK hN hC hP hD hS hAB hB hX) rfl rfl hsz rfl (lv_room hsk) hdg hcs
theorem cc_L_179 {p : Program} {l : Launch} {e : Env} {R : Room} {s : State} {m : MethodId} {args : Array Value} {below : List Frame} {meth : Method} {c : Code} {H : Heap} {locs : List Loc} {cells slots : Nat} {cc : ByteArray} {pc nL : Nat} {ls : Array Slot} {rest : List Value} {G : va_G} {A : Nat → Prop} (ga : Nat → Nat) {cI cS : ClassId} {u : TM}  {p0 : Int32} {p1 : Int32} {r : Int32 × TM} (S : CallFix p m c cc nL s args bwL RL) (hK : va_K G vwCl (tysW cI cS) s) (hN : NW s) (hP : va_P G vwCl (wM cI ga u) H) (hD : va_D A (wM cI ga u)) (hf : fX5_ifUpdated u p0 p1 = some r) (hsz : ls.size = nL) (hst : (rest.map fun v => v.category).sum ≤ 8) (hR : rmX5_ifUpdated.frames + 1 ≤ R.frames ∧ 8 + (3 + 11) + rmX5_ifUpdated.locals ≤ R.locals) (hdg : decode cc pc = .ok (.invokevirtual 179, 3)) (hcs : cells + 0 ≤ R.cells ∧ slots + 0 ≤ R.slots) : va_Run p l e R s m args below meth c H locs cells slots 0 0 (F0 m pc ls (.int p1 :: .int p0 :: .ref (ga 0) :: rest)) rest (va_Qi (fun r' u' => (r', u') = r) (PoM G (tysW cI cS) (va_A (wM cI ga u) H.size) (wM cI ga)) (va_A (wM cI ga u) H.size) (#[.ref (ga 0), .int p0, .int p1] : Array Value)) (va_A (wM cI ga u) H.size) :=
  va_runV (As := [.int p0, .int p1]) (rest := rest) S (kX5_ifUpdated l G cI cS ga H.size u p0 p1 r hf) (cwV 2 S.2.2.2.2 (gdVL ql_221 ql_222 ql_223 (bwL_of q_392) (bwL_of q_596)) rfl rfl rfl (by decide +kernel) hR) (pvM (q := (RX5, TX5, 12)) hK hN hP hD (ci := 5) (q0 := 0) rfl rfl) rfl rfl hsz rfl (lv_room hst) hdg hcs

def fLc_26 (u : THS × TM × OutR) (a1 a2 : Int32) : Option (THS × TM × OutR) := ((fL_ifUpdated (u.1, u.2.2) a1 a2).bind fun z120 => ((fX5_ifUpdated u.2.1 a1 a2).bind fun z121 => ((fX5_thrown z121.2).bind fun z122 => (if z122 = z120.1 then (if z120.1 = 0 then (if (lg_cmp (z120.2.2 (0 : Int32).toNatClampNeg) z121.1.toInt64) = 0 then some (z120.2.1, z121.2, z120.2.2) else none) else some (z120.2.1, z121.2, z120.2.2)) else none))))
set_option maxRecDepth 100000 in
set_option maxHeartbeats 4000000 in
theorem kLc_26 {p : Program} {l : Launch} {e : Env} {s : State} {m : MethodId} {args : Array Value} {below : List Frame} {meth : Method} {c : Code} {Q : State → Prop} {b L : Nat} {xs : Nat → Int32} {G : va_G} {cI cS cL : ClassId} {A : Nat → Prop} {B0 : Nat} (C0 : LawC p l s m args c b L xs G cI cS cL A B0) (sv : Nat) (gx gm : Nat → Nat) (og : Nat) (u : THS × TM × OutR) (x4 a1 a2 : Int32) (u' : THS × TM × OutR) (hf : fLc_26 u a1 a2 = some u') (hin1 : vp_in (x4 + (1 : Int32)) L) (hin2 : vp_in (x4 + (2 : Int32)) L) (hs1 : xs (x4 + (1 : Int32)).toNatClampNeg = a1) (hs2 : xs (x4 + (2 : Int32)).toNatClampNeg = a2) (cells slots : Nat) (hc9 : cells + 2 ≤ 601024) (hs9 : slots + 12 ≤ 7293034)
    (K : ∀ (v : THS × TM × OutR), v = u' → ∀ (H : Heap) (locs : List Loc) (ls : Array Slot) (cells' slots' : Nat), cells' ≤ cells + 2 → slots' ≤ slots + 12 → va_P G vwCl (wW cI cS cL sv gx gm og v) H → va_D A (wW cI cS cL sv gx gm og v) → va_S A s.heap H locs → lv_has ls 9 [(0, .ref b), (1, .ref (gx 0)), (2, .ref (gm 0)), (3, .ref og), (4, .int x4)] → W p l e room_1 s m args below meth c H locs cells' slots' Q (F0 m 1493 ls []))
    (H : Heap) (locs : List Loc) (ls : Array Slot) (hP : va_P G vwCl (wW cI cS cL sv gx gm og u) H) (hD : va_D A (wW cI cS cL sv gx gm og u)) (hS : va_S A s.heap H locs) (hl : lv_has ls 9 [(0, .ref b), (1, .ref (gx 0)), (2, .ref (gm 0)), (3, .ref og), (4, .int x4)]) : W p l e room_1 s m args below meth c H locs cells slots Q (F0 m 1185 ls []) := by
  obtain ⟨hst, S, hK, hN, hC, hA, hAB, hB, hX, hX0, hbl, hbA⟩ := C0
  have hx := S.1; have hb := S.2.1; have hml := S.2.2.1; have hown := S.2.2.2.1; have hq := S.2.2.2.2
  have h := hf
  unfold fLc_26 at h
  refine lv_aload_n hx hb dL_law_1185 rfl (lv_at hl 1 rfl) ?_
  refine lv_aload_n hx hb dL_law_1186 rfl (lv_at hl 0 rfl) ?_
  refine lv_iload hx hb dL_law_1187 (lv_at hl 4 rfl) ?_
  refine lv_iconst (v := 1) hx hb dL_law_1189 (by decide) ?_
  refine lv_iadd hx hb dL_law_1190 ?_
  refine sldO hx hb hX0 hbl hbA hS hin1 hs1 dL_law_1191 ?_
  refine lv_aload_n hx hb dL_law_1192 rfl (lv_at hl 0 rfl) ?_
  refine lv_iload hx hb dL_law_1193 (lv_at hl 4 rfl) ?_
  refine lv_iconst (v := 2) hx hb dL_law_1195 (by decide) ?_
  refine lv_iadd hx hb dL_law_1196 ?_
  refine sldO hx hb hX0 hbl hbA hS hin2 hs2 dL_law_1197 ?_
  refine lv_aload_n hx hb dL_law_1198 rfl (lv_at hl 3 rfl) ?_
  obtain ⟨z120, e_z120, h⟩ := bnd h
  refine mkI (cc_L_177 sv gx og hst S hK hN hC (hP.sub [0, 1, 2, 3, 4, 5, 6, 7, 8, 9, 10, 11, 12, 13, 14, 15, 16, 17, 18, 19, 20, 21, 22, 23, 24, 25, 31] rfl) (hD.sub [0, 1, 2, 3, 4, 5, 6, 7, 8, 9, 10, 11, 12, 13, 14, 15, 16, 17, 18, 19, 20, 21, 22, 23, 24, 25, 31] (by decide) rfl) hS hAB hB hX e_z120 hl.1 (Nat.le_of_ble_eq_true rfl) ⟨(Nat.le_of_ble_eq_true rfl), (Nat.le_of_ble_eq_true rfl)⟩ dL_law_1199 ⟨by show _ ≤ 601024; omega, by show _ ≤ 7293034; omega⟩) hS hP hD hA [0, 1, 2, 3, 4, 5, 6, 7, 8, 9, 10, 11, 12, 13, 14, 15, 16, 17, 18, 19, 20, 21, 22, 23, 24, 25, 31] [26, 27, 28, 29, 30] rfl rfl (by decide) (by decide) [5, 6, 7, 8, 9, 10, 11, 12, 13, 14, 15, 16, 17, 18, 19, 20, 21, 22, 23, 24, 25, 26, 27, 28, 29, 30, 0, 1, 2, 3, 4, 31] (by decide) (wW cI cS cL sv gx gm og (z120.2.1, u.2.1, z120.2.2)) rfl (fun H locs hP hD hS => ?_)
  refine lv_istore (lv' := [(5, .int z120.1), (0, .ref b), (1, .ref (gx 0)), (2, .ref (gm 0)), (3, .ref og), (4, .int x4)]) hx hb dL_law_1202 hl (by decide) rfl (fun ls hl => ?_)
  refine lv_aload_n hx hb dL_law_1204 rfl (lv_at hl 3 rfl) ?_
  refine lv_aload_n hx hb dL_law_1205 rfl (lv_at hl 1 rfl) ?_
  refine lv_iload hx hb dL_law_1206 (lv_at hl 5 rfl) ?_
  refine lv_iconst (v := 1) hx hb dL_law_1208 (by decide) ?_
  refine lv_iadd hx hb dL_law_1209 ?_
  refine sldO hx hb hX0 hbl hbA hS hin1 hs1 dL_law_1210 ?_
  refine lv_aload_n hx hb dL_law_1211 rfl (lv_at hl 1 rfl) ?_
  refine lv_iload hx hb dL_law_1212 (lv_at hl 5 rfl) ?_
  refine lv_iconst (v := 2) hx hb dL_law_1214 (by decide) ?_
  refine lv_iadd hx hb dL_law_1215 ?_
  refine sldO hx hb hX0 hbl hbA hS hin2 hs2 dL_law_1216 ?_
  obtain ⟨z121, e_z121, h⟩ := bnd h
  refine mkI (cc_L_179 gm S (hK.sub [0, 1] rfl) hN (hP.sub [26, 27, 28, 29, 30] rfl) (hD.sub [26, 27, 28, 29, 30] (by decide) rfl) e_z121 hl.1 (Nat.le_of_ble_eq_true rfl) ⟨(Nat.le_of_ble_eq_true rfl), (Nat.le_of_ble_eq_true rfl)⟩ dL_law_1217 ⟨by show _ ≤ 601024; omega, by show _ ≤ 7293034; omega⟩) hS hP hD hA [26, 27, 28, 29, 30] [0, 1, 2, 3, 4, 5, 6, 7, 8, 9, 10, 11, 12, 13, 14, 15, 16, 17, 18, 19, 20, 21, 22, 23, 24, 25, 31] rfl rfl (by decide) (by decide) [0, 1, 2, 3, 4, 5, 6, 7, 8, 9, 10, 11, 12, 13, 14, 15, 16, 17, 18, 19, 20, 21, 22, 23, 24, 25, 27, 28, 29, 30, 31, 26] (by decide) (wW cI cS cL sv gx gm og (z120.2.1, z121.2, z120.2.2)) rfl (fun H locs hP hD hS => ?_)
  refine lv_istore (lv' := [(6, .int z121.1), (5, .int z120.1), (0, .ref b), (1, .ref (gx 0)), (2, .ref (gm 0)), (3, .ref og), (4, .int x4)]) hx hb dL_law_1220 hl (by decide) rfl (fun ls hl => ?_)
  refine lv_aload_n hx hb dL_law_1222 rfl (lv_at hl 4 rfl) ?_
  obtain ⟨z122, e_z122, h⟩ := bnd h
  refine roI (cc_L_82 gm S (hK.sub [0, 1] rfl) hN (hP.sub [26, 27, 28, 29, 30] rfl) e_z122 hl.1 (Nat.le_of_ble_eq_true rfl) ⟨(Nat.le_of_ble_eq_true rfl), (Nat.le_of_ble_eq_true rfl)⟩ dL_law_1223 ⟨by show _ ≤ 601024; omega, by show _ ≤ 7293034; omega⟩) ?_
  refine lv_iload hx hb dL_law_1226 (lv_at hl 1 rfl) ?_
  refine lv_icmp_eq (tgt := 1233) hx hb dL_law_1228 (by decide) (fun c123 => ?_) (fun c123 => ?_)
  · have h := (if_pos c123).symm.trans h
    refine lv_iload hx hb dL_law_1233 (lv_at hl 1 rfl) ?_
    refine lv_if_ne (tgt := 1250) hx hb dL_law_1235 (by decide) (fun c124 => ?_) (fun c124 => ?_)
    · have h := (if_neg c124).symm.trans h
      refine lv_goto (tgt := 1493) hx hb dL_law_1250 (by decide) ?_
      exact K _ (Option.some.inj h) _ _ _ _ _ (by omega) (by omega) hP hD hS (lv_sub hl [2, 3, 4, 5, 6] rfl)
    · have h := (if_pos c124).symm.trans h
      refine lv_aload_n hx hb dL_law_1238 rfl (lv_at hl 5 rfl) ?_
      refine lv_iconst (v := 0) hx hb dL_law_1239 (by decide) ?_
      refine va_lald (f := z120.2.2) hx hb hK hP 31 2 rfl rfl (vp_in_of_not (i := 0) (n := 1) (by decide)) dL_law_1240 ?_
      refine lv_iload hx hb dL_law_1241 (lv_at hl 0 rfl) ?_
      refine lv_i2l hx hb dL_law_1243 rfl ?_
      refine W.lcmp hx hb dL_law_1244 ?_
      refine lv_if_eq (tgt := 1250) hx hb dL_law_1245 (by decide) (fun c125 => ?_) (fun c125 => ?_)
      · have h := (if_pos c125).symm.trans h
        refine lv_goto (tgt := 1493) hx hb dL_law_1250 (by decide) ?_
        exact K _ (Option.some.inj h) _ _ _ _ _ (by omega) (by omega) hP hD hS (lv_sub hl [2, 3, 4, 5, 6] rfl)
      · have h := (if_neg c125).symm.trans h
        refine lv_iconst (v := 0) hx hb dL_law_1248 (by decide) ?_
        cases h
  · have h := (if_neg c123).symm.trans h
    refine lv_iconst (v := 0) hx hb dL_law_1231 (by decide) ?_
    cases h
theorem cc_L_180 {p : Program} {l : Launch} {e : Env} {R : Room} {s : State} {m : MethodId} {args : Array Value} {below : List Frame} {meth : Method} {c : Code} {H : Heap} {locs : List Loc} {cells slots : Nat} {cc : ByteArray} {pc nL : Nat} {ls : Array Slot} {rest : List Value} {G : va_G} {A : Nat → Prop} {B0 : Nat} (sv : Nat) (gx : Nat → Nat) (og : Nat) {cI cS cL : ClassId} {u : THS × OutR} {p0 : Int32} {r : Int32 × (THS × OutR)} (hst : l.stackTraces = false) (S : CallFix p m c cc nL s args bwL RL) (hK : va_K G vwCl (tysL cI cS cL) s) (hN : NW s) (hC : NC s) (hP : va_P G vwCl (wO cI cS cL sv gx og u) H) (hD : va_D A (wO cI cS cL sv gx og u)) (hS : va_S A s.heap H locs) (hAB : ∀ q, A q → B0 ≤ q) (hB : B0 ≤ s.heap.size) (hX : XT B0 s s.heap) (hf : fL_greatestAtHome u p0 = some r) (hsz : ls.size = nL) (hsk : (rest.map fun v => v.category).sum ≤ 8) (hR : rmL_greatestAtHome.frames + 1 ≤ R.frames ∧ 8 + (4 + 11) + rmL_greatestAtHome.locals ≤ R.locals) (hdg : decode cc pc = .ok (.invokestatic 180, 3)) (hcs : cells + 1 ≤ R.cells ∧ slots + 6 ≤ R.slots) : va_Run p l e R s m args below meth c H locs cells slots 1 6 (F0 m pc ls (.ref og :: .int p0 :: .ref (gx 0) :: rest)) rest (va_Qi (fun r' u' => (r', u') = r) (PoM G (tysL cI cS cL) (va_A (wO cI cS cL sv gx og u) H.size) (wO cI cS cL sv gx og)) (va_A (wO cI cS cL sv gx og u) H.size) (#[.ref (gx 0), .int p0, .ref og] : Array Value)) (va_A (wO cI cS cL sv gx og u) H.size) :=
  vx_runSW (As := [.ref (gx 0), .int p0, .ref og]) (rest := rest) S (kL_greatestAtHome l hst G cI cS cL sv gx og H.size B0 u p0 r hf) (vx_cwSW 3 S.2.2.2.2 (gdWL ql_224 ql_225 ql_86 ql_62) rfl rfl rfl (by decide +kernel) hR) (psL hK hN hC hP hD hS hAB hB hX) rfl rfl hsz rfl (lv_room hsk) hdg hcs
theorem cc_L_182 {p : Program} {l : Launch} {e : Env} {R : Room} {s : State} {m : MethodId} {args : Array Value} {below : List Frame} {meth : Method} {c : Code} {H : Heap} {locs : List Loc} {cells slots : Nat} {cc : ByteArray} {pc nL : Nat} {ls : Array Slot} {rest : List Value} {G : va_G} {A : Nat → Prop} (ga : Nat → Nat) {cI cS : ClassId} {u : TM}  {p0 : Int32} {r : Int32 × TM} (S : CallFix p m c cc nL s args bwL RL) (hK : va_K G vwCl (tysW cI cS) s) (hN : NW s) (hP : va_P G vwCl (wM cI ga u) H) (hD : va_D A (wM cI ga u)) (hf : fX5_greatestAtHome u p0 = some r) (hsz : ls.size = nL) (hst : (rest.map fun v => v.category).sum ≤ 8) (hR : rmX5_greatestAtHome.frames + 1 ≤ R.frames ∧ 8 + (3 + 11) + rmX5_greatestAtHome.locals ≤ R.locals) (hdg : decode cc pc = .ok (.invokevirtual 182, 3)) (hcs : cells + 0 ≤ R.cells ∧ slots + 0 ≤ R.slots) : va_Run p l e R s m args below meth c H locs cells slots 0 0 (F0 m pc ls (.int p0 :: .ref (ga 0) :: rest)) rest (va_Qi (fun r' u' => (r', u') = r) (PoM G (tysW cI cS) (va_A (wM cI ga u) H.size) (wM cI ga)) (va_A (wM cI ga u) H.size) (#[.ref (ga 0), .int p0] : Array Value)) (va_A (wM cI ga u) H.size) :=
  va_runV (As := [.int p0]) (rest := rest) S (kX5_greatestAtHome l G cI cS ga H.size u p0 r hf) (cwV 1 S.2.2.2.2 (gdVL ql_226 ql_227 ql_228 (bwL_of q_392) (bwL_of q_597)) rfl rfl rfl (by decide +kernel) hR) (pvM (q := (RX5, TX5, 12)) hK hN hP hD (ci := 5) (q0 := 0) rfl rfl) rfl rfl hsz rfl (lv_room hst) hdg hcs

def fLc_27 (u : THS × TM × OutR) (a1 a2 : Int32) : Option (THS × TM × OutR) := ((fL_greatestAtHome (u.1, u.2.2) a1).bind fun z126 => ((fX5_greatestAtHome u.2.1 a1).bind fun z127 => ((fX5_thrown z127.2).bind fun z128 => (if z128 = z126.1 then (if z126.1 = 0 then (if (lg_cmp (z126.2.2 (0 : Int32).toNatClampNeg) z127.1.toInt64) = 0 then some (z126.2.1, z127.2, z126.2.2) else none) else some (z126.2.1, z127.2, z126.2.2)) else none))))
set_option maxRecDepth 100000 in
set_option maxHeartbeats 4000000 in
theorem kLc_27 {p : Program} {l : Launch} {e : Env} {s : State} {m : MethodId} {args : Array Value} {below : List Frame} {meth : Method} {c : Code} {Q : State → Prop} {b L : Nat} {xs : Nat → Int32} {G : va_G} {cI cS cL : ClassId} {A : Nat → Prop} {B0 : Nat} (C0 : LawC p l s m args c b L xs G cI cS cL A B0) (sv : Nat) (gx gm : Nat → Nat) (og : Nat) (u : THS × TM × OutR) (x4 a1 a2 : Int32) (u' : THS × TM × OutR) (hf : fLc_27 u a1 a2 = some u') (hin1 : vp_in (x4 + (1 : Int32)) L) (hin2 : vp_in (x4 + (2 : Int32)) L) (hs1 : xs (x4 + (1 : Int32)).toNatClampNeg = a1) (hs2 : xs (x4 + (2 : Int32)).toNatClampNeg = a2) (cells slots : Nat) (hc9 : cells + 2 ≤ 601024) (hs9 : slots + 12 ≤ 7293034)
    (K : ∀ (v : THS × TM × OutR), v = u' → ∀ (H : Heap) (locs : List Loc) (ls : Array Slot) (cells' slots' : Nat), cells' ≤ cells + 2 → slots' ≤ slots + 12 → va_P G vwCl (wW cI cS cL sv gx gm og v) H → va_D A (wW cI cS cL sv gx gm og v) → va_S A s.heap H locs → lv_has ls 9 [(0, .ref b), (1, .ref (gx 0)), (2, .ref (gm 0)), (3, .ref og), (4, .int x4)] → W p l e room_1 s m args below meth c H locs cells' slots' Q (F0 m 1493 ls []))
    (H : Heap) (locs : List Loc) (ls : Array Slot) (hP : va_P G vwCl (wW cI cS cL sv gx gm og u) H) (hD : va_D A (wW cI cS cL sv gx gm og u)) (hS : va_S A s.heap H locs) (hl : lv_has ls 9 [(0, .ref b), (1, .ref (gx 0)), (2, .ref (gm 0)), (3, .ref og), (4, .int x4)]) : W p l e room_1 s m args below meth c H locs cells slots Q (F0 m 1253 ls []) := by
  obtain ⟨hst, S, hK, hN, hC, hA, hAB, hB, hX, hX0, hbl, hbA⟩ := C0
  have hx := S.1; have hb := S.2.1; have hml := S.2.2.1; have hown := S.2.2.2.1; have hq := S.2.2.2.2
  have h := hf
  unfold fLc_27 at h
  refine lv_aload_n hx hb dL_law_1253 rfl (lv_at hl 1 rfl) ?_
  refine lv_aload_n hx hb dL_law_1254 rfl (lv_at hl 0 rfl) ?_
  refine lv_iload hx hb dL_law_1255 (lv_at hl 4 rfl) ?_
  refine lv_iconst (v := 1) hx hb dL_law_1257 (by decide) ?_
  refine lv_iadd hx hb dL_law_1258 ?_
  refine sldO hx hb hX0 hbl hbA hS hin1 hs1 dL_law_1259 ?_
  refine lv_aload_n hx hb dL_law_1260 rfl (lv_at hl 3 rfl) ?_
  obtain ⟨z126, e_z126, h⟩ := bnd h
  refine mkI (cc_L_180 sv gx og hst S hK hN hC (hP.sub [0, 1, 2, 3, 4, 5, 6, 7, 8, 9, 10, 11, 12, 13, 14, 15, 16, 17, 18, 19, 20, 21, 22, 23, 24, 25, 31] rfl) (hD.sub [0, 1, 2, 3, 4, 5, 6, 7, 8, 9, 10, 11, 12, 13, 14, 15, 16, 17, 18, 19, 20, 21, 22, 23, 24, 25, 31] (by decide) rfl) hS hAB hB hX e_z126 hl.1 (Nat.le_of_ble_eq_true rfl) ⟨(Nat.le_of_ble_eq_true rfl), (Nat.le_of_ble_eq_true rfl)⟩ dL_law_1261 ⟨by show _ ≤ 601024; omega, by show _ ≤ 7293034; omega⟩) hS hP hD hA [0, 1, 2, 3, 4, 5, 6, 7, 8, 9, 10, 11, 12, 13, 14, 15, 16, 17, 18, 19, 20, 21, 22, 23, 24, 25, 31] [26, 27, 28, 29, 30] rfl rfl (by decide) (by decide) [5, 6, 7, 8, 9, 10, 11, 12, 13, 14, 15, 16, 17, 18, 19, 20, 21, 22, 23, 24, 25, 26, 27, 28, 29, 30, 0, 1, 2, 3, 4, 31] (by decide) (wW cI cS cL sv gx gm og (z126.2.1, u.2.1, z126.2.2)) rfl (fun H locs hP hD hS => ?_)
  refine lv_istore (lv' := [(5, .int z126.1), (0, .ref b), (1, .ref (gx 0)), (2, .ref (gm 0)), (3, .ref og), (4, .int x4)]) hx hb dL_law_1264 hl (by decide) rfl (fun ls hl => ?_)
  refine lv_aload_n hx hb dL_law_1266 rfl (lv_at hl 3 rfl) ?_
  refine lv_aload_n hx hb dL_law_1267 rfl (lv_at hl 1 rfl) ?_
  refine lv_iload hx hb dL_law_1268 (lv_at hl 5 rfl) ?_
  refine lv_iconst (v := 1) hx hb dL_law_1270 (by decide) ?_
  refine lv_iadd hx hb dL_law_1271 ?_
  refine sldO hx hb hX0 hbl hbA hS hin1 hs1 dL_law_1272 ?_
  obtain ⟨z127, e_z127, h⟩ := bnd h
  refine mkI (cc_L_182 gm S (hK.sub [0, 1] rfl) hN (hP.sub [26, 27, 28, 29, 30] rfl) (hD.sub [26, 27, 28, 29, 30] (by decide) rfl) e_z127 hl.1 (Nat.le_of_ble_eq_true rfl) ⟨(Nat.le_of_ble_eq_true rfl), (Nat.le_of_ble_eq_true rfl)⟩ dL_law_1273 ⟨by show _ ≤ 601024; omega, by show _ ≤ 7293034; omega⟩) hS hP hD hA [26, 27, 28, 29, 30] [0, 1, 2, 3, 4, 5, 6, 7, 8, 9, 10, 11, 12, 13, 14, 15, 16, 17, 18, 19, 20, 21, 22, 23, 24, 25, 31] rfl rfl (by decide) (by decide) [0, 1, 2, 3, 4, 5, 6, 7, 8, 9, 10, 11, 12, 13, 14, 15, 16, 17, 18, 19, 20, 21, 22, 23, 24, 25, 27, 28, 29, 30, 31, 26] (by decide) (wW cI cS cL sv gx gm og (z126.2.1, z127.2, z126.2.2)) rfl (fun H locs hP hD hS => ?_)
  refine lv_istore (lv' := [(6, .int z127.1), (5, .int z126.1), (0, .ref b), (1, .ref (gx 0)), (2, .ref (gm 0)), (3, .ref og), (4, .int x4)]) hx hb dL_law_1276 hl (by decide) rfl (fun ls hl => ?_)
  refine lv_aload_n hx hb dL_law_1278 rfl (lv_at hl 4 rfl) ?_
  obtain ⟨z128, e_z128, h⟩ := bnd h
  refine roI (cc_L_82 gm S (hK.sub [0, 1] rfl) hN (hP.sub [26, 27, 28, 29, 30] rfl) e_z128 hl.1 (Nat.le_of_ble_eq_true rfl) ⟨(Nat.le_of_ble_eq_true rfl), (Nat.le_of_ble_eq_true rfl)⟩ dL_law_1279 ⟨by show _ ≤ 601024; omega, by show _ ≤ 7293034; omega⟩) ?_
  refine lv_iload hx hb dL_law_1282 (lv_at hl 1 rfl) ?_
  refine lv_icmp_eq (tgt := 1289) hx hb dL_law_1284 (by decide) (fun c129 => ?_) (fun c129 => ?_)
  · have h := (if_pos c129).symm.trans h
    refine lv_iload hx hb dL_law_1289 (lv_at hl 1 rfl) ?_
    refine lv_if_ne (tgt := 1306) hx hb dL_law_1291 (by decide) (fun c130 => ?_) (fun c130 => ?_)
    · have h := (if_neg c130).symm.trans h
      refine lv_goto (tgt := 1493) hx hb dL_law_1306 (by decide) ?_
      exact K _ (Option.some.inj h) _ _ _ _ _ (by omega) (by omega) hP hD hS (lv_sub hl [2, 3, 4, 5, 6] rfl)
    · have h := (if_pos c130).symm.trans h
      refine lv_aload_n hx hb dL_law_1294 rfl (lv_at hl 5 rfl) ?_
      refine lv_iconst (v := 0) hx hb dL_law_1295 (by decide) ?_
      refine va_lald (f := z126.2.2) hx hb hK hP 31 2 rfl rfl (vp_in_of_not (i := 0) (n := 1) (by decide)) dL_law_1296 ?_
      refine lv_iload hx hb dL_law_1297 (lv_at hl 0 rfl) ?_
      refine lv_i2l hx hb dL_law_1299 rfl ?_
      refine W.lcmp hx hb dL_law_1300 ?_
      refine lv_if_eq (tgt := 1306) hx hb dL_law_1301 (by decide) (fun c131 => ?_) (fun c131 => ?_)
      · have h := (if_pos c131).symm.trans h
        refine lv_goto (tgt := 1493) hx hb dL_law_1306 (by decide) ?_
        exact K _ (Option.some.inj h) _ _ _ _ _ (by omega) (by omega) hP hD hS (lv_sub hl [2, 3, 4, 5, 6] rfl)
      · have h := (if_neg c131).symm.trans h
        refine lv_iconst (v := 0) hx hb dL_law_1304 (by decide) ?_
        cases h
  · have h := (if_neg c129).symm.trans h
    refine lv_iconst (v := 0) hx hb dL_law_1287 (by decide) ?_
    cases h
theorem cc_L_183 {p : Program} {l : Launch} {e : Env} {R : Room} {s : State} {m : MethodId} {args : Array Value} {below : List Frame} {meth : Method} {c : Code} {H : Heap} {locs : List Loc} {cells slots : Nat} {cc : ByteArray} {pc nL : Nat} {ls : Array Slot} {rest : List Value} {G : va_G} {A : Nat → Prop} {B0 : Nat} (sv : Nat) (gx : Nat → Nat) (og : Nat) {cI cS cL : ClassId} {u : THS × OutR} {p0 : Int32} {r : Int32 × (THS × OutR)} (hst : l.stackTraces = false) (S : CallFix p m c cc nL s args bwL RL) (hK : va_K G vwCl (tysL cI cS cL) s) (hN : NW s) (hC : NC s) (hP : va_P G vwCl (wO cI cS cL sv gx og u) H) (hD : va_D A (wO cI cS cL sv gx og u)) (hS : va_S A s.heap H locs) (hAB : ∀ q, A q → B0 ≤ q) (hB : B0 ≤ s.heap.size) (hX : XT B0 s s.heap) (hf : fL_capacity u p0 = some r) (hsz : ls.size = nL) (hsk : (rest.map fun v => v.category).sum ≤ 8) (hR : rmL_capacity.frames + 1 ≤ R.frames ∧ 8 + (4 + 11) + rmL_capacity.locals ≤ R.locals) (hdg : decode cc pc = .ok (.invokestatic 183, 3)) (hcs : cells + 1 ≤ R.cells ∧ slots + 6 ≤ R.slots) : va_Run p l e R s m args below meth c H locs cells slots 1 6 (F0 m pc ls (.ref og :: .int p0 :: .ref (gx 0) :: rest)) rest (va_Qi (fun r' u' => (r', u') = r) (PoM G (tysL cI cS cL) (va_A (wO cI cS cL sv gx og u) H.size) (wO cI cS cL sv gx og)) (va_A (wO cI cS cL sv gx og u) H.size) (#[.ref (gx 0), .int p0, .ref og] : Array Value)) (va_A (wO cI cS cL sv gx og u) H.size) :=
  vx_runSW (As := [.ref (gx 0), .int p0, .ref og]) (rest := rest) S (kL_capacity l hst G cI cS cL sv gx og H.size B0 u p0 r hf) (vx_cwSW 3 S.2.2.2.2 (gdWL ql_229 ql_230 ql_86 ql_66) rfl rfl rfl (by decide +kernel) hR) (psL hK hN hC hP hD hS hAB hB hX) rfl rfl hsz rfl (lv_room hsk) hdg hcs
theorem cc_L_185 {p : Program} {l : Launch} {e : Env} {R : Room} {s : State} {m : MethodId} {args : Array Value} {below : List Frame} {meth : Method} {c : Code} {H : Heap} {locs : List Loc} {cells slots : Nat} {cc : ByteArray} {pc nL : Nat} {ls : Array Slot} {rest : List Value} {G : va_G} {A : Nat → Prop} (ga : Nat → Nat) {cI cS : ClassId} {u : TM}  {p0 : Int32} {r : Int32 × TM} (S : CallFix p m c cc nL s args bwL RL) (hK : va_K G vwCl (tysW cI cS) s) (hN : NW s) (hP : va_P G vwCl (wM cI ga u) H) (hD : va_D A (wM cI ga u)) (hf : fX5_capacity u p0 = some r) (hsz : ls.size = nL) (hst : (rest.map fun v => v.category).sum ≤ 8) (hR : rmX5_capacity.frames + 1 ≤ R.frames ∧ 8 + (7 + 11) + rmX5_capacity.locals ≤ R.locals) (hdg : decode cc pc = .ok (.invokevirtual 185, 3)) (hcs : cells + 0 ≤ R.cells ∧ slots + 0 ≤ R.slots) : va_Run p l e R s m args below meth c H locs cells slots 0 0 (F0 m pc ls (.int p0 :: .ref (ga 0) :: rest)) rest (va_Qi (fun r' u' => (r', u') = r) (PoM G (tysW cI cS) (va_A (wM cI ga u) H.size) (wM cI ga)) (va_A (wM cI ga u) H.size) (#[.ref (ga 0), .int p0] : Array Value)) (va_A (wM cI ga u) H.size) :=
  va_runV (As := [.int p0]) (rest := rest) S (kX5_capacity l G cI cS ga H.size u p0 r hf) (cwV 1 S.2.2.2.2 (gdVL ql_231 ql_232 ql_233 (bwL_of q_392) (bwL_of q_601)) rfl rfl rfl (by decide +kernel) hR) (pvM (q := (RX5, TX5, 12)) hK hN hP hD (ci := 5) (q0 := 0) rfl rfl) rfl rfl hsz rfl (lv_room hst) hdg hcs

def fLc_28 (u : THS × TM × OutR) (a1 a2 : Int32) : Option (THS × TM × OutR) := ((fL_capacity (u.1, u.2.2) a1).bind fun z132 => ((fX5_capacity u.2.1 a1).bind fun z133 => ((fX5_thrown z133.2).bind fun z134 => (if z134 = z132.1 then (if z132.1 = 0 then (if (lg_cmp (z132.2.2 (0 : Int32).toNatClampNeg) z133.1.toInt64) = 0 then some (z132.2.1, z133.2, z132.2.2) else none) else some (z132.2.1, z133.2, z132.2.2)) else none))))
set_option maxRecDepth 100000 in
set_option maxHeartbeats 4000000 in
theorem kLc_28 {p : Program} {l : Launch} {e : Env} {s : State} {m : MethodId} {args : Array Value} {below : List Frame} {meth : Method} {c : Code} {Q : State → Prop} {b L : Nat} {xs : Nat → Int32} {G : va_G} {cI cS cL : ClassId} {A : Nat → Prop} {B0 : Nat} (C0 : LawC p l s m args c b L xs G cI cS cL A B0) (sv : Nat) (gx gm : Nat → Nat) (og : Nat) (u : THS × TM × OutR) (x4 a1 a2 : Int32) (u' : THS × TM × OutR) (hf : fLc_28 u a1 a2 = some u') (hin1 : vp_in (x4 + (1 : Int32)) L) (hin2 : vp_in (x4 + (2 : Int32)) L) (hs1 : xs (x4 + (1 : Int32)).toNatClampNeg = a1) (hs2 : xs (x4 + (2 : Int32)).toNatClampNeg = a2) (cells slots : Nat) (hc9 : cells + 2 ≤ 601024) (hs9 : slots + 12 ≤ 7293034)
    (K : ∀ (v : THS × TM × OutR), v = u' → ∀ (H : Heap) (locs : List Loc) (ls : Array Slot) (cells' slots' : Nat), cells' ≤ cells + 2 → slots' ≤ slots + 12 → va_P G vwCl (wW cI cS cL sv gx gm og v) H → va_D A (wW cI cS cL sv gx gm og v) → va_S A s.heap H locs → lv_has ls 9 [(0, .ref b), (1, .ref (gx 0)), (2, .ref (gm 0)), (3, .ref og), (4, .int x4)] → W p l e room_1 s m args below meth c H locs cells' slots' Q (F0 m 1493 ls []))
    (H : Heap) (locs : List Loc) (ls : Array Slot) (hP : va_P G vwCl (wW cI cS cL sv gx gm og u) H) (hD : va_D A (wW cI cS cL sv gx gm og u)) (hS : va_S A s.heap H locs) (hl : lv_has ls 9 [(0, .ref b), (1, .ref (gx 0)), (2, .ref (gm 0)), (3, .ref og), (4, .int x4)]) : W p l e room_1 s m args below meth c H locs cells slots Q (F0 m 1309 ls []) := by
  obtain ⟨hst, S, hK, hN, hC, hA, hAB, hB, hX, hX0, hbl, hbA⟩ := C0
  have hx := S.1; have hb := S.2.1; have hml := S.2.2.1; have hown := S.2.2.2.1; have hq := S.2.2.2.2
  have h := hf
  unfold fLc_28 at h
  refine lv_aload_n hx hb dL_law_1309 rfl (lv_at hl 1 rfl) ?_
  refine lv_aload_n hx hb dL_law_1310 rfl (lv_at hl 0 rfl) ?_
  refine lv_iload hx hb dL_law_1311 (lv_at hl 4 rfl) ?_
  refine lv_iconst (v := 1) hx hb dL_law_1313 (by decide) ?_
  refine lv_iadd hx hb dL_law_1314 ?_
  refine sldO hx hb hX0 hbl hbA hS hin1 hs1 dL_law_1315 ?_
  refine lv_aload_n hx hb dL_law_1316 rfl (lv_at hl 3 rfl) ?_
  obtain ⟨z132, e_z132, h⟩ := bnd h
  refine mkI (cc_L_183 sv gx og hst S hK hN hC (hP.sub [0, 1, 2, 3, 4, 5, 6, 7, 8, 9, 10, 11, 12, 13, 14, 15, 16, 17, 18, 19, 20, 21, 22, 23, 24, 25, 31] rfl) (hD.sub [0, 1, 2, 3, 4, 5, 6, 7, 8, 9, 10, 11, 12, 13, 14, 15, 16, 17, 18, 19, 20, 21, 22, 23, 24, 25, 31] (by decide) rfl) hS hAB hB hX e_z132 hl.1 (Nat.le_of_ble_eq_true rfl) ⟨(Nat.le_of_ble_eq_true rfl), (Nat.le_of_ble_eq_true rfl)⟩ dL_law_1317 ⟨by show _ ≤ 601024; omega, by show _ ≤ 7293034; omega⟩) hS hP hD hA [0, 1, 2, 3, 4, 5, 6, 7, 8, 9, 10, 11, 12, 13, 14, 15, 16, 17, 18, 19, 20, 21, 22, 23, 24, 25, 31] [26, 27, 28, 29, 30] rfl rfl (by decide) (by decide) [5, 6, 7, 8, 9, 10, 11, 12, 13, 14, 15, 16, 17, 18, 19, 20, 21, 22, 23, 24, 25, 26, 27, 28, 29, 30, 0, 1, 2, 3, 4, 31] (by decide) (wW cI cS cL sv gx gm og (z132.2.1, u.2.1, z132.2.2)) rfl (fun H locs hP hD hS => ?_)
  refine lv_istore (lv' := [(5, .int z132.1), (0, .ref b), (1, .ref (gx 0)), (2, .ref (gm 0)), (3, .ref og), (4, .int x4)]) hx hb dL_law_1320 hl (by decide) rfl (fun ls hl => ?_)
  refine lv_aload_n hx hb dL_law_1322 rfl (lv_at hl 3 rfl) ?_
  refine lv_aload_n hx hb dL_law_1323 rfl (lv_at hl 1 rfl) ?_
  refine lv_iload hx hb dL_law_1324 (lv_at hl 5 rfl) ?_
  refine lv_iconst (v := 1) hx hb dL_law_1326 (by decide) ?_
  refine lv_iadd hx hb dL_law_1327 ?_
  refine sldO hx hb hX0 hbl hbA hS hin1 hs1 dL_law_1328 ?_
  obtain ⟨z133, e_z133, h⟩ := bnd h
  refine mkI (cc_L_185 gm S (hK.sub [0, 1] rfl) hN (hP.sub [26, 27, 28, 29, 30] rfl) (hD.sub [26, 27, 28, 29, 30] (by decide) rfl) e_z133 hl.1 (Nat.le_of_ble_eq_true rfl) ⟨(Nat.le_of_ble_eq_true rfl), (Nat.le_of_ble_eq_true rfl)⟩ dL_law_1329 ⟨by show _ ≤ 601024; omega, by show _ ≤ 7293034; omega⟩) hS hP hD hA [26, 27, 28, 29, 30] [0, 1, 2, 3, 4, 5, 6, 7, 8, 9, 10, 11, 12, 13, 14, 15, 16, 17, 18, 19, 20, 21, 22, 23, 24, 25, 31] rfl rfl (by decide) (by decide) [0, 1, 2, 3, 4, 5, 6, 7, 8, 9, 10, 11, 12, 13, 14, 15, 16, 17, 18, 19, 20, 21, 22, 23, 24, 25, 27, 28, 29, 30, 31, 26] (by decide) (wW cI cS cL sv gx gm og (z132.2.1, z133.2, z132.2.2)) rfl (fun H locs hP hD hS => ?_)
  refine lv_istore (lv' := [(6, .int z133.1), (5, .int z132.1), (0, .ref b), (1, .ref (gx 0)), (2, .ref (gm 0)), (3, .ref og), (4, .int x4)]) hx hb dL_law_1332 hl (by decide) rfl (fun ls hl => ?_)
  refine lv_aload_n hx hb dL_law_1334 rfl (lv_at hl 4 rfl) ?_
  obtain ⟨z134, e_z134, h⟩ := bnd h
  refine roI (cc_L_82 gm S (hK.sub [0, 1] rfl) hN (hP.sub [26, 27, 28, 29, 30] rfl) e_z134 hl.1 (Nat.le_of_ble_eq_true rfl) ⟨(Nat.le_of_ble_eq_true rfl), (Nat.le_of_ble_eq_true rfl)⟩ dL_law_1335 ⟨by show _ ≤ 601024; omega, by show _ ≤ 7293034; omega⟩) ?_
  refine lv_iload hx hb dL_law_1338 (lv_at hl 1 rfl) ?_
  refine lv_icmp_eq (tgt := 1345) hx hb dL_law_1340 (by decide) (fun c135 => ?_) (fun c135 => ?_)
  · have h := (if_pos c135).symm.trans h
    refine lv_iload hx hb dL_law_1345 (lv_at hl 1 rfl) ?_
    refine lv_if_ne (tgt := 1362) hx hb dL_law_1347 (by decide) (fun c136 => ?_) (fun c136 => ?_)
    · have h := (if_neg c136).symm.trans h
      refine lv_goto (tgt := 1493) hx hb dL_law_1362 (by decide) ?_
      exact K _ (Option.some.inj h) _ _ _ _ _ (by omega) (by omega) hP hD hS (lv_sub hl [2, 3, 4, 5, 6] rfl)
    · have h := (if_pos c136).symm.trans h
      refine lv_aload_n hx hb dL_law_1350 rfl (lv_at hl 5 rfl) ?_
      refine lv_iconst (v := 0) hx hb dL_law_1351 (by decide) ?_
      refine va_lald (f := z132.2.2) hx hb hK hP 31 2 rfl rfl (vp_in_of_not (i := 0) (n := 1) (by decide)) dL_law_1352 ?_
      refine lv_iload hx hb dL_law_1353 (lv_at hl 0 rfl) ?_
      refine lv_i2l hx hb dL_law_1355 rfl ?_
      refine W.lcmp hx hb dL_law_1356 ?_
      refine lv_if_eq (tgt := 1362) hx hb dL_law_1357 (by decide) (fun c137 => ?_) (fun c137 => ?_)
      · have h := (if_pos c137).symm.trans h
        refine lv_goto (tgt := 1493) hx hb dL_law_1362 (by decide) ?_
        exact K _ (Option.some.inj h) _ _ _ _ _ (by omega) (by omega) hP hD hS (lv_sub hl [2, 3, 4, 5, 6] rfl)
      · have h := (if_neg c137).symm.trans h
        refine lv_iconst (v := 0) hx hb dL_law_1360 (by decide) ?_
        cases h
  · have h := (if_neg c135).symm.trans h
    refine lv_iconst (v := 0) hx hb dL_law_1343 (by decide) ?_
    cases h
theorem cc_L_186 {p : Program} {l : Launch} {e : Env} {R : Room} {s : State} {m : MethodId} {args : Array Value} {below : List Frame} {meth : Method} {c : Code} {H : Heap} {locs : List Loc} {cells slots : Nat} {cc : ByteArray} {pc nL : Nat} {ls : Array Slot} {rest : List Value} {G : va_G} {A : Nat → Prop} (sv : Nat) (ga : Nat → Nat) {cI cS : ClassId} {u : TH}  {r : Int32 × TH} (S : CallFix p m c cc nL s args bwL RL) (hK : va_K G vwCl (tysW cI cS) s) (hN : NW s) (hP : va_P G vwCl (wH cI sv ga u) H) (hD : va_D A (wH cI sv ga u)) (hf : fX4_firstError u = some r) (hsz : ls.size = nL) (hst : (rest.map fun v => v.category).sum ≤ 8) (hR : rmX4_firstError.frames + 1 ≤ R.frames ∧ 8 + (2 + 11) + rmX4_firstError.locals ≤ R.locals) (hdg : decode cc pc = .ok (.invokevirtual 186, 3)) (hcs : cells + 0 ≤ R.cells ∧ slots + 0 ≤ R.slots) : va_Run p l e R s m args below meth c H locs cells slots 0 0 (F0 m pc ls (.ref (ga 0) :: rest)) rest (va_Qi (fun r' u' => (r', u') = r) (PoM G (tysW cI cS) (va_A (wH cI sv ga u) H.size) (wH cI sv ga)) (va_A (wH cI sv ga u) H.size) (#[.ref (ga 0)] : Array Value)) (va_A (wH cI sv ga u) H.size) :=
  va_runV (As := []) (rest := rest) S (kX4_firstError l G cI cS sv ga H.size u r hf) (cwV 0 S.2.2.2.2 (gdVL ql_234 (bwL_of q_352) (bwL_of q_353) (bwL_of q_76) (bwL_of q_341)) rfl rfl rfl (by decide +kernel) hR) (pvM (q := (RX4, TX4, 8)) hK hN hP hD (ci := 4) (q0 := 0) rfl rfl) rfl rfl hsz rfl (lv_room hst) hdg hcs
theorem cc_L_189 {p : Program} {l : Launch} {e : Env} {R : Room} {s : State} {m : MethodId} {args : Array Value} {below : List Frame} {meth : Method} {c : Code} {H : Heap} {locs : List Loc} {cells slots : Nat} {cc : ByteArray} {pc nL : Nat} {ls : Array Slot} {rest : List Value} {G : va_G} {A : Nat → Prop} (ga : Nat → Nat) {cI cS : ClassId} {u : TM}  {r : Int32 × TM} (S : CallFix p m c cc nL s args bwL RL) (hK : va_K G vwCl (tysW cI cS) s) (hN : NW s) (hP : va_P G vwCl (wM cI ga u) H) (hD : va_D A (wM cI ga u)) (hf : fX5_firstError u = some r) (hsz : ls.size = nL) (hst : (rest.map fun v => v.category).sum ≤ 8) (hR : rmX5_firstError.frames + 1 ≤ R.frames ∧ 8 + (1 + 11) + rmX5_firstError.locals ≤ R.locals) (hdg : decode cc pc = .ok (.invokevirtual 189, 3)) (hcs : cells + 0 ≤ R.cells ∧ slots + 0 ≤ R.slots) : va_Run p l e R s m args below meth c H locs cells slots 0 0 (F0 m pc ls (.ref (ga 0) :: rest)) rest (va_Qi (fun r' u' => (r', u') = r) (PoM G (tysW cI cS) (va_A (wM cI ga u) H.size) (wM cI ga)) (va_A (wM cI ga u) H.size) (#[.ref (ga 0)] : Array Value)) (va_A (wM cI ga u) H.size) :=
  va_runV (As := []) (rest := rest) S (kX5_firstError l G cI cS ga H.size u r hf) (cwV 0 S.2.2.2.2 (gdVL ql_235 ql_236 ql_237 (bwL_of q_392) (bwL_of q_629)) rfl rfl rfl (by decide +kernel) hR) (pvM (q := (RX5, TX5, 12)) hK hN hP hD (ci := 5) (q0 := 0) rfl rfl) rfl rfl hsz rfl (lv_room hst) hdg hcs

def fLc_29 (u : THS × TM × OutR) (a1 a2 : Int32) : Option (THS × TM × OutR) := ((fX4_firstError u.1.1).bind fun z138 => ((fX5_firstError u.2.1).bind fun z139 => (if z138.1 = z139.1 then some ((z138.2, u.1.2), z139.2, u.2.2) else none)))
set_option maxRecDepth 100000 in
set_option maxHeartbeats 4000000 in
theorem kLc_29 {p : Program} {l : Launch} {e : Env} {s : State} {m : MethodId} {args : Array Value} {below : List Frame} {meth : Method} {c : Code} {Q : State → Prop} {b L : Nat} {xs : Nat → Int32} {G : va_G} {cI cS cL : ClassId} {A : Nat → Prop} {B0 : Nat} (C0 : LawC p l s m args c b L xs G cI cS cL A B0) (sv : Nat) (gx gm : Nat → Nat) (og : Nat) (u : THS × TM × OutR) (x4 a1 a2 : Int32) (u' : THS × TM × OutR) (hf : fLc_29 u a1 a2 = some u') (hin1 : vp_in (x4 + (1 : Int32)) L) (hin2 : vp_in (x4 + (2 : Int32)) L) (hs1 : xs (x4 + (1 : Int32)).toNatClampNeg = a1) (hs2 : xs (x4 + (2 : Int32)).toNatClampNeg = a2) (cells slots : Nat) (hc9 : cells + 2 ≤ 601024) (hs9 : slots + 12 ≤ 7293034)
    (K : ∀ (v : THS × TM × OutR), v = u' → ∀ (H : Heap) (locs : List Loc) (ls : Array Slot) (cells' slots' : Nat), cells' ≤ cells + 2 → slots' ≤ slots + 12 → va_P G vwCl (wW cI cS cL sv gx gm og v) H → va_D A (wW cI cS cL sv gx gm og v) → va_S A s.heap H locs → lv_has ls 9 [(0, .ref b), (1, .ref (gx 0)), (2, .ref (gm 0)), (3, .ref og), (4, .int x4)] → W p l e room_1 s m args below meth c H locs cells' slots' Q (F0 m 1493 ls []))
    (H : Heap) (locs : List Loc) (ls : Array Slot) (hP : va_P G vwCl (wW cI cS cL sv gx gm og u) H) (hD : va_D A (wW cI cS cL sv gx gm og u)) (hS : va_S A s.heap H locs) (hl : lv_has ls 9 [(0, .ref b), (1, .ref (gx 0)), (2, .ref (gm 0)), (3, .ref og), (4, .int x4)]) : W p l e room_1 s m args below meth c H locs cells slots Q (F0 m 1365 ls []) := by
  obtain ⟨hst, S, hK, hN, hC, hA, hAB, hB, hX, hX0, hbl, hbA⟩ := C0
  have hx := S.1; have hb := S.2.1; have hml := S.2.2.1; have hown := S.2.2.2.1; have hq := S.2.2.2.2
  have h := hf
  unfold fLc_29 at h
  refine lv_aload_n hx hb dL_law_1365 rfl (lv_at hl 1 rfl) ?_
  obtain ⟨z138, e_z138, h⟩ := bnd h
  refine mkI (cc_L_186 sv gx S (hK.sub [0, 1] rfl) hN (hP.sub [0, 1, 2, 3, 4, 5, 6, 7, 8, 9, 10, 11, 12] rfl) (hD.sub [0, 1, 2, 3, 4, 5, 6, 7, 8, 9, 10, 11, 12] (by decide) rfl) e_z138 hl.1 (Nat.le_of_ble_eq_true rfl) ⟨(Nat.le_of_ble_eq_true rfl), (Nat.le_of_ble_eq_true rfl)⟩ dL_law_1366 ⟨by show _ ≤ 601024; omega, by show _ ≤ 7293034; omega⟩) hS hP hD hA [0, 1, 2, 3, 4, 5, 6, 7, 8, 9, 10, 11, 12] [13, 14, 15, 16, 17, 18, 19, 20, 21, 22, 23, 24, 25, 26, 27, 28, 29, 30, 31] rfl rfl (by decide) (by decide) [19, 20, 21, 22, 23, 24, 25, 26, 27, 28, 29, 30, 31, 0, 1, 2, 3, 4, 5, 6, 7, 8, 9, 10, 11, 12, 13, 14, 15, 16, 17, 18] (by decide) (wW cI cS cL sv gx gm og ((z138.2, u.1.2), u.2)) rfl (fun H locs hP hD hS => ?_)
  refine lv_aload_n hx hb dL_law_1369 rfl (lv_at hl 2 rfl) ?_
  obtain ⟨z139, e_z139, h⟩ := bnd h
  refine mkI (cc_L_189 gm S (hK.sub [0, 1] rfl) hN (hP.sub [26, 27, 28, 29, 30] rfl) (hD.sub [26, 27, 28, 29, 30] (by decide) rfl) e_z139 hl.1 (Nat.le_of_ble_eq_true rfl) ⟨(Nat.le_of_ble_eq_true rfl), (Nat.le_of_ble_eq_true rfl)⟩ dL_law_1370 ⟨by show _ ≤ 601024; omega, by show _ ≤ 7293034; omega⟩) hS hP hD hA [26, 27, 28, 29, 30] [0, 1, 2, 3, 4, 5, 6, 7, 8, 9, 10, 11, 12, 13, 14, 15, 16, 17, 18, 19, 20, 21, 22, 23, 24, 25, 31] rfl rfl (by decide) (by decide) [0, 1, 2, 3, 4, 5, 6, 7, 8, 9, 10, 11, 12, 13, 14, 15, 16, 17, 18, 19, 20, 21, 22, 23, 24, 25, 27, 28, 29, 30, 31, 26] (by decide) (wW cI cS cL sv gx gm og ((z138.2, u.1.2), z139.2, u.2.2)) rfl (fun H locs hP hD hS => ?_)
  refine lv_icmp_eq (tgt := 1493) hx hb dL_law_1373 (by decide) (fun c140 => ?_) (fun c140 => ?_)
  · have h := (if_pos c140).symm.trans h
    exact K _ (Option.some.inj h) _ _ _ _ _ (by omega) (by omega) hP hD hS (lv_sub hl [0, 1, 2, 3, 4] rfl)
  · have h := (if_neg c140).symm.trans h
    refine lv_iconst (v := 0) hx hb dL_law_1376 (by decide) ?_
    cases h
theorem cc_L_190 {p : Program} {l : Launch} {e : Env} {R : Room} {s : State} {m : MethodId} {args : Array Value} {below : List Frame} {meth : Method} {c : Code} {H : Heap} {locs : List Loc} {cells slots : Nat} {cc : ByteArray} {pc nL : Nat} {ls : Array Slot} {rest : List Value} {G : va_G} {A : Nat → Prop} {B0 : Nat} (sv : Nat) (gx : Nat → Nat) (og : Nat) {cI cS cL : ClassId} {u : THS × OutR}  {r : Int32 × (THS × OutR)} (hst : l.stackTraces = false) (S : CallFix p m c cc nL s args bwL RL) (hK : va_K G vwCl (tysL cI cS cL) s) (hN : NW s) (hC : NC s) (hP : va_P G vwCl (wO cI cS cL sv gx og u) H) (hD : va_D A (wO cI cS cL sv gx og u)) (hS : va_S A s.heap H locs) (hAB : ∀ q, A q → B0 ≤ q) (hB : B0 ≤ s.heap.size) (hX : XT B0 s s.heap) (hf : fL_run u = some r) (hsz : ls.size = nL) (hsk : (rest.map fun v => v.category).sum ≤ 8) (hR : rmL_run.frames + 1 ≤ R.frames ∧ 8 + (3 + 11) + rmL_run.locals ≤ R.locals) (hdg : decode cc pc = .ok (.invokestatic 190, 3)) (hcs : cells + 1 ≤ R.cells ∧ slots + 6 ≤ R.slots) : va_Run p l e R s m args below meth c H locs cells slots 1 6 (F0 m pc ls (.ref og :: .ref (gx 0) :: rest)) rest (va_Qi (fun r' u' => (r', u') = r) (PoM G (tysL cI cS cL) (va_A (wO cI cS cL sv gx og u) H.size) (wO cI cS cL sv gx og)) (va_A (wO cI cS cL sv gx og u) H.size) (#[.ref (gx 0), .ref og] : Array Value)) (va_A (wO cI cS cL sv gx og u) H.size) :=
  vx_runSW (As := [.ref (gx 0), .ref og]) (rest := rest) S (kL_run l hst G cI cS cL sv gx og H.size B0 u r hf) (vx_cwSW 2 S.2.2.2.2 (gdWL ql_238 ql_239 ql_86 ql_70) rfl rfl rfl (by decide +kernel) hR) (psL hK hN hC hP hD hS hAB hB hX) rfl rfl hsz rfl (lv_room hsk) hdg hcs
theorem cc_L_192 {p : Program} {l : Launch} {e : Env} {R : Room} {s : State} {m : MethodId} {args : Array Value} {below : List Frame} {meth : Method} {c : Code} {H : Heap} {locs : List Loc} {cells slots : Nat} {cc : ByteArray} {pc nL : Nat} {ls : Array Slot} {rest : List Value} {G : va_G} {A : Nat → Prop} (ga : Nat → Nat) {cI cS : ClassId} {u : TM}  {r : Int32 × TM} (S : CallFix p m c cc nL s args bwL RL) (hK : va_K G vwCl (tysW cI cS) s) (hN : NW s) (hP : va_P G vwCl (wM cI ga u) H) (hD : va_D A (wM cI ga u)) (hf : fX5_run u = some r) (hsz : ls.size = nL) (hst : (rest.map fun v => v.category).sum ≤ 8) (hR : rmX5_run.frames + 1 ≤ R.frames ∧ 8 + (2 + 11) + rmX5_run.locals ≤ R.locals) (hdg : decode cc pc = .ok (.invokevirtual 192, 3)) (hcs : cells + 0 ≤ R.cells ∧ slots + 0 ≤ R.slots) : va_Run p l e R s m args below meth c H locs cells slots 0 0 (F0 m pc ls (.ref (ga 0) :: rest)) rest (va_Qi (fun r' u' => (r', u') = r) (PoM G (tysW cI cS) (va_A (wM cI ga u) H.size) (wM cI ga)) (va_A (wM cI ga u) H.size) (#[.ref (ga 0)] : Array Value)) (va_A (wM cI ga u) H.size) :=
  va_runV (As := []) (rest := rest) S (kX5_run l G cI cS ga H.size u r hf) (cwV 0 S.2.2.2.2 (gdVL ql_240 ql_241 ql_242 (bwL_of q_392) (bwL_of q_638)) rfl rfl rfl (by decide +kernel) hR) (pvM (q := (RX5, TX5, 12)) hK hN hP hD (ci := 5) (q0 := 0) rfl rfl) rfl rfl hsz rfl (lv_room hst) hdg hcs

def fLc_30 (u : THS × TM × OutR) (a1 a2 : Int32) : Option (THS × TM × OutR) := ((fL_run (u.1, u.2.2)).bind fun z141 => ((fX5_run u.2.1).bind fun z142 => ((fX5_thrown z142.2).bind fun z143 => (if z143 = z141.1 then (if z141.1 = 0 then (if (lg_cmp (z141.2.2 (0 : Int32).toNatClampNeg) z142.1.toInt64) = 0 then some (z141.2.1, z142.2, z141.2.2) else none) else some (z141.2.1, z142.2, z141.2.2)) else none))))
set_option maxRecDepth 100000 in
set_option maxHeartbeats 4000000 in
theorem kLc_30 {p : Program} {l : Launch} {e : Env} {s : State} {m : MethodId} {args : Array Value} {below : List Frame} {meth : Method} {c : Code} {Q : State → Prop} {b L : Nat} {xs : Nat → Int32} {G : va_G} {cI cS cL : ClassId} {A : Nat → Prop} {B0 : Nat} (C0 : LawC p l s m args c b L xs G cI cS cL A B0) (sv : Nat) (gx gm : Nat → Nat) (og : Nat) (u : THS × TM × OutR) (x4 a1 a2 : Int32) (u' : THS × TM × OutR) (hf : fLc_30 u a1 a2 = some u') (hin1 : vp_in (x4 + (1 : Int32)) L) (hin2 : vp_in (x4 + (2 : Int32)) L) (hs1 : xs (x4 + (1 : Int32)).toNatClampNeg = a1) (hs2 : xs (x4 + (2 : Int32)).toNatClampNeg = a2) (cells slots : Nat) (hc9 : cells + 2 ≤ 601024) (hs9 : slots + 12 ≤ 7293034)
    (K : ∀ (v : THS × TM × OutR), v = u' → ∀ (H : Heap) (locs : List Loc) (ls : Array Slot) (cells' slots' : Nat), cells' ≤ cells + 2 → slots' ≤ slots + 12 → va_P G vwCl (wW cI cS cL sv gx gm og v) H → va_D A (wW cI cS cL sv gx gm og v) → va_S A s.heap H locs → lv_has ls 9 [(0, .ref b), (1, .ref (gx 0)), (2, .ref (gm 0)), (3, .ref og), (4, .int x4)] → W p l e room_1 s m args below meth c H locs cells' slots' Q (F0 m 1493 ls []))
    (H : Heap) (locs : List Loc) (ls : Array Slot) (hP : va_P G vwCl (wW cI cS cL sv gx gm og u) H) (hD : va_D A (wW cI cS cL sv gx gm og u)) (hS : va_S A s.heap H locs) (hl : lv_has ls 9 [(0, .ref b), (1, .ref (gx 0)), (2, .ref (gm 0)), (3, .ref og), (4, .int x4)]) : W p l e room_1 s m args below meth c H locs cells slots Q (F0 m 1378 ls []) := by
  obtain ⟨hst, S, hK, hN, hC, hA, hAB, hB, hX, hX0, hbl, hbA⟩ := C0
  have hx := S.1; have hb := S.2.1; have hml := S.2.2.1; have hown := S.2.2.2.1; have hq := S.2.2.2.2
  have h := hf
  unfold fLc_30 at h
  refine lv_aload_n hx hb dL_law_1378 rfl (lv_at hl 1 rfl) ?_
  refine lv_aload_n hx hb dL_law_1379 rfl (lv_at hl 3 rfl) ?_
  obtain ⟨z141, e_z141, h⟩ := bnd h
  refine mkI (cc_L_190 sv gx og hst S hK hN hC (hP.sub [0, 1, 2, 3, 4, 5, 6, 7, 8, 9, 10, 11, 12, 13, 14, 15, 16, 17, 18, 19, 20, 21, 22, 23, 24, 25, 31] rfl) (hD.sub [0, 1, 2, 3, 4, 5, 6, 7, 8, 9, 10, 11, 12, 13, 14, 15, 16, 17, 18, 19, 20, 21, 22, 23, 24, 25, 31] (by decide) rfl) hS hAB hB hX e_z141 hl.1 (Nat.le_of_ble_eq_true rfl) ⟨(Nat.le_of_ble_eq_true rfl), (Nat.le_of_ble_eq_true rfl)⟩ dL_law_1380 ⟨by show _ ≤ 601024; omega, by show _ ≤ 7293034; omega⟩) hS hP hD hA [0, 1, 2, 3, 4, 5, 6, 7, 8, 9, 10, 11, 12, 13, 14, 15, 16, 17, 18, 19, 20, 21, 22, 23, 24, 25, 31] [26, 27, 28, 29, 30] rfl rfl (by decide) (by decide) [5, 6, 7, 8, 9, 10, 11, 12, 13, 14, 15, 16, 17, 18, 19, 20, 21, 22, 23, 24, 25, 26, 27, 28, 29, 30, 0, 1, 2, 3, 4, 31] (by decide) (wW cI cS cL sv gx gm og (z141.2.1, u.2.1, z141.2.2)) rfl (fun H locs hP hD hS => ?_)
  refine lv_istore (lv' := [(5, .int z141.1), (0, .ref b), (1, .ref (gx 0)), (2, .ref (gm 0)), (3, .ref og), (4, .int x4)]) hx hb dL_law_1383 hl (by decide) rfl (fun ls hl => ?_)
  refine lv_aload_n hx hb dL_law_1385 rfl (lv_at hl 3 rfl) ?_
  obtain ⟨z142, e_z142, h⟩ := bnd h
  refine mkI (cc_L_192 gm S (hK.sub [0, 1] rfl) hN (hP.sub [26, 27, 28, 29, 30] rfl) (hD.sub [26, 27, 28, 29, 30] (by decide) rfl) e_z142 hl.1 (Nat.le_of_ble_eq_true rfl) ⟨(Nat.le_of_ble_eq_true rfl), (Nat.le_of_ble_eq_true rfl)⟩ dL_law_1386 ⟨by show _ ≤ 601024; omega, by show _ ≤ 7293034; omega⟩) hS hP hD hA [26, 27, 28, 29, 30] [0, 1, 2, 3, 4, 5, 6, 7, 8, 9, 10, 11, 12, 13, 14, 15, 16, 17, 18, 19, 20, 21, 22, 23, 24, 25, 31] rfl rfl (by decide) (by decide) [0, 1, 2, 3, 4, 5, 6, 7, 8, 9, 10, 11, 12, 13, 14, 15, 16, 17, 18, 19, 20, 21, 22, 23, 24, 25, 27, 28, 29, 30, 31, 26] (by decide) (wW cI cS cL sv gx gm og (z141.2.1, z142.2, z141.2.2)) rfl (fun H locs hP hD hS => ?_)
  refine lv_istore (lv' := [(6, .int z142.1), (5, .int z141.1), (0, .ref b), (1, .ref (gx 0)), (2, .ref (gm 0)), (3, .ref og), (4, .int x4)]) hx hb dL_law_1389 hl (by decide) rfl (fun ls hl => ?_)
  refine lv_aload_n hx hb dL_law_1391 rfl (lv_at hl 4 rfl) ?_
  obtain ⟨z143, e_z143, h⟩ := bnd h
  refine roI (cc_L_82 gm S (hK.sub [0, 1] rfl) hN (hP.sub [26, 27, 28, 29, 30] rfl) e_z143 hl.1 (Nat.le_of_ble_eq_true rfl) ⟨(Nat.le_of_ble_eq_true rfl), (Nat.le_of_ble_eq_true rfl)⟩ dL_law_1392 ⟨by show _ ≤ 601024; omega, by show _ ≤ 7293034; omega⟩) ?_
  refine lv_iload hx hb dL_law_1395 (lv_at hl 1 rfl) ?_
  refine lv_icmp_eq (tgt := 1402) hx hb dL_law_1397 (by decide) (fun c144 => ?_) (fun c144 => ?_)
  · have h := (if_pos c144).symm.trans h
    refine lv_iload hx hb dL_law_1402 (lv_at hl 1 rfl) ?_
    refine lv_if_ne (tgt := 1419) hx hb dL_law_1404 (by decide) (fun c145 => ?_) (fun c145 => ?_)
    · have h := (if_neg c145).symm.trans h
      refine lv_goto (tgt := 1493) hx hb dL_law_1419 (by decide) ?_
      exact K _ (Option.some.inj h) _ _ _ _ _ (by omega) (by omega) hP hD hS (lv_sub hl [2, 3, 4, 5, 6] rfl)
    · have h := (if_pos c145).symm.trans h
      refine lv_aload_n hx hb dL_law_1407 rfl (lv_at hl 5 rfl) ?_
      refine lv_iconst (v := 0) hx hb dL_law_1408 (by decide) ?_
      refine va_lald (f := z141.2.2) hx hb hK hP 31 2 rfl rfl (vp_in_of_not (i := 0) (n := 1) (by decide)) dL_law_1409 ?_
      refine lv_iload hx hb dL_law_1410 (lv_at hl 0 rfl) ?_
      refine lv_i2l hx hb dL_law_1412 rfl ?_
      refine W.lcmp hx hb dL_law_1413 ?_
      refine lv_if_eq (tgt := 1419) hx hb dL_law_1414 (by decide) (fun c146 => ?_) (fun c146 => ?_)
      · have h := (if_pos c146).symm.trans h
        refine lv_goto (tgt := 1493) hx hb dL_law_1419 (by decide) ?_
        exact K _ (Option.some.inj h) _ _ _ _ _ (by omega) (by omega) hP hD hS (lv_sub hl [2, 3, 4, 5, 6] rfl)
      · have h := (if_neg c146).symm.trans h
        refine lv_iconst (v := 0) hx hb dL_law_1417 (by decide) ?_
        cases h
  · have h := (if_neg c144).symm.trans h
    refine lv_iconst (v := 0) hx hb dL_law_1400 (by decide) ?_
    cases h
theorem cc_L_193 {p : Program} {l : Launch} {e : Env} {R : Room} {s : State} {m : MethodId} {args : Array Value} {below : List Frame} {meth : Method} {c : Code} {H : Heap} {locs : List Loc} {cells slots : Nat} {cc : ByteArray} {pc nL : Nat} {ls : Array Slot} {rest : List Value} {G : va_G} {A : Nat → Prop} {B0 : Nat} (sv : Nat) (gx : Nat → Nat) (og : Nat) {cI cS cL : ClassId} {u : THS × OutR}  {r : Int32 × (THS × OutR)} (hst : l.stackTraces = false) (S : CallFix p m c cc nL s args bwL RL) (hK : va_K G vwCl (tysL cI cS cL) s) (hN : NW s) (hC : NC s) (hP : va_P G vwCl (wO cI cS cL sv gx og u) H) (hD : va_D A (wO cI cS cL sv gx og u)) (hS : va_S A s.heap H locs) (hAB : ∀ q, A q → B0 ≤ q) (hB : B0 ≤ s.heap.size) (hX : XT B0 s s.heap) (hf : fL_undo u = some r) (hsz : ls.size = nL) (hsk : (rest.map fun v => v.category).sum ≤ 8) (hR : rmL_undo.frames + 1 ≤ R.frames ∧ 8 + (3 + 11) + rmL_undo.locals ≤ R.locals) (hdg : decode cc pc = .ok (.invokestatic 193, 3)) (hcs : cells + 1 ≤ R.cells ∧ slots + 6 ≤ R.slots) : va_Run p l e R s m args below meth c H locs cells slots 1 6 (F0 m pc ls (.ref og :: .ref (gx 0) :: rest)) rest (va_Qi (fun r' u' => (r', u') = r) (PoM G (tysL cI cS cL) (va_A (wO cI cS cL sv gx og u) H.size) (wO cI cS cL sv gx og)) (va_A (wO cI cS cL sv gx og u) H.size) (#[.ref (gx 0), .ref og] : Array Value)) (va_A (wO cI cS cL sv gx og u) H.size) :=
  vx_runSW (As := [.ref (gx 0), .ref og]) (rest := rest) S (kL_undo l hst G cI cS cL sv gx og H.size B0 u r hf) (vx_cwSW 2 S.2.2.2.2 (gdWL ql_243 ql_244 ql_86 ql_74) rfl rfl rfl (by decide +kernel) hR) (psL hK hN hC hP hD hS hAB hB hX) rfl rfl hsz rfl (lv_room hsk) hdg hcs
theorem cc_L_195 {p : Program} {l : Launch} {e : Env} {R : Room} {s : State} {m : MethodId} {args : Array Value} {below : List Frame} {meth : Method} {c : Code} {H : Heap} {locs : List Loc} {cells slots : Nat} {cc : ByteArray} {pc nL : Nat} {ls : Array Slot} {rest : List Value} {G : va_G} {A : Nat → Prop} (ga : Nat → Nat) {cI cS : ClassId} {u : TM}  {r : Int32 × TM} (S : CallFix p m c cc nL s args bwL RL) (hK : va_K G vwCl (tysW cI cS) s) (hN : NW s) (hP : va_P G vwCl (wM cI ga u) H) (hD : va_D A (wM cI ga u)) (hf : fX5_undo u = some r) (hsz : ls.size = nL) (hst : (rest.map fun v => v.category).sum ≤ 8) (hR : rmX5_undo.frames + 1 ≤ R.frames ∧ 8 + (1 + 11) + rmX5_undo.locals ≤ R.locals) (hdg : decode cc pc = .ok (.invokevirtual 195, 3)) (hcs : cells + 0 ≤ R.cells ∧ slots + 0 ≤ R.slots) : va_Run p l e R s m args below meth c H locs cells slots 0 0 (F0 m pc ls (.ref (ga 0) :: rest)) rest (va_Qi (fun r' u' => (r', u') = r) (PoM G (tysW cI cS) (va_A (wM cI ga u) H.size) (wM cI ga)) (va_A (wM cI ga u) H.size) (#[.ref (ga 0)] : Array Value)) (va_A (wM cI ga u) H.size) :=
  va_runV (As := []) (rest := rest) S (kX5_undo l G cI cS ga H.size u r hf) (cwV 0 S.2.2.2.2 (gdVL ql_245 ql_246 ql_247 (bwL_of q_392) (bwL_of q_639)) rfl rfl rfl (by decide +kernel) hR) (pvM (q := (RX5, TX5, 12)) hK hN hP hD (ci := 5) (q0 := 0) rfl rfl) rfl rfl hsz rfl (lv_room hst) hdg hcs

def fLc_31 (u : THS × TM × OutR) (a1 a2 : Int32) : Option (THS × TM × OutR) := ((fL_undo (u.1, u.2.2)).bind fun z147 => ((fX5_undo u.2.1).bind fun z148 => ((fX5_thrown z148.2).bind fun z149 => (if z149 = z147.1 then (if z147.1 = 0 then (if (lg_cmp (z147.2.2 (0 : Int32).toNatClampNeg) z148.1.toInt64) = 0 then some (z147.2.1, z148.2, z147.2.2) else none) else some (z147.2.1, z148.2, z147.2.2)) else none))))
set_option maxRecDepth 100000 in
set_option maxHeartbeats 4000000 in
theorem kLc_31 {p : Program} {l : Launch} {e : Env} {s : State} {m : MethodId} {args : Array Value} {below : List Frame} {meth : Method} {c : Code} {Q : State → Prop} {b L : Nat} {xs : Nat → Int32} {G : va_G} {cI cS cL : ClassId} {A : Nat → Prop} {B0 : Nat} (C0 : LawC p l s m args c b L xs G cI cS cL A B0) (sv : Nat) (gx gm : Nat → Nat) (og : Nat) (u : THS × TM × OutR) (x4 a1 a2 : Int32) (u' : THS × TM × OutR) (hf : fLc_31 u a1 a2 = some u') (hin1 : vp_in (x4 + (1 : Int32)) L) (hin2 : vp_in (x4 + (2 : Int32)) L) (hs1 : xs (x4 + (1 : Int32)).toNatClampNeg = a1) (hs2 : xs (x4 + (2 : Int32)).toNatClampNeg = a2) (cells slots : Nat) (hc9 : cells + 2 ≤ 601024) (hs9 : slots + 12 ≤ 7293034)
    (K : ∀ (v : THS × TM × OutR), v = u' → ∀ (H : Heap) (locs : List Loc) (ls : Array Slot) (cells' slots' : Nat), cells' ≤ cells + 2 → slots' ≤ slots + 12 → va_P G vwCl (wW cI cS cL sv gx gm og v) H → va_D A (wW cI cS cL sv gx gm og v) → va_S A s.heap H locs → lv_has ls 9 [(0, .ref b), (1, .ref (gx 0)), (2, .ref (gm 0)), (3, .ref og), (4, .int x4)] → W p l e room_1 s m args below meth c H locs cells' slots' Q (F0 m 1493 ls []))
    (H : Heap) (locs : List Loc) (ls : Array Slot) (hP : va_P G vwCl (wW cI cS cL sv gx gm og u) H) (hD : va_D A (wW cI cS cL sv gx gm og u)) (hS : va_S A s.heap H locs) (hl : lv_has ls 9 [(0, .ref b), (1, .ref (gx 0)), (2, .ref (gm 0)), (3, .ref og), (4, .int x4)]) : W p l e room_1 s m args below meth c H locs cells slots Q (F0 m 1422 ls []) := by
  obtain ⟨hst, S, hK, hN, hC, hA, hAB, hB, hX, hX0, hbl, hbA⟩ := C0
  have hx := S.1; have hb := S.2.1; have hml := S.2.2.1; have hown := S.2.2.2.1; have hq := S.2.2.2.2
  have h := hf
  unfold fLc_31 at h
  refine lv_aload_n hx hb dL_law_1422 rfl (lv_at hl 1 rfl) ?_
  refine lv_aload_n hx hb dL_law_1423 rfl (lv_at hl 3 rfl) ?_
  obtain ⟨z147, e_z147, h⟩ := bnd h
  refine mkI (cc_L_193 sv gx og hst S hK hN hC (hP.sub [0, 1, 2, 3, 4, 5, 6, 7, 8, 9, 10, 11, 12, 13, 14, 15, 16, 17, 18, 19, 20, 21, 22, 23, 24, 25, 31] rfl) (hD.sub [0, 1, 2, 3, 4, 5, 6, 7, 8, 9, 10, 11, 12, 13, 14, 15, 16, 17, 18, 19, 20, 21, 22, 23, 24, 25, 31] (by decide) rfl) hS hAB hB hX e_z147 hl.1 (Nat.le_of_ble_eq_true rfl) ⟨(Nat.le_of_ble_eq_true rfl), (Nat.le_of_ble_eq_true rfl)⟩ dL_law_1424 ⟨by show _ ≤ 601024; omega, by show _ ≤ 7293034; omega⟩) hS hP hD hA [0, 1, 2, 3, 4, 5, 6, 7, 8, 9, 10, 11, 12, 13, 14, 15, 16, 17, 18, 19, 20, 21, 22, 23, 24, 25, 31] [26, 27, 28, 29, 30] rfl rfl (by decide) (by decide) [5, 6, 7, 8, 9, 10, 11, 12, 13, 14, 15, 16, 17, 18, 19, 20, 21, 22, 23, 24, 25, 26, 27, 28, 29, 30, 0, 1, 2, 3, 4, 31] (by decide) (wW cI cS cL sv gx gm og (z147.2.1, u.2.1, z147.2.2)) rfl (fun H locs hP hD hS => ?_)
  refine lv_istore (lv' := [(5, .int z147.1), (0, .ref b), (1, .ref (gx 0)), (2, .ref (gm 0)), (3, .ref og), (4, .int x4)]) hx hb dL_law_1427 hl (by decide) rfl (fun ls hl => ?_)
  refine lv_aload_n hx hb dL_law_1429 rfl (lv_at hl 3 rfl) ?_
  obtain ⟨z148, e_z148, h⟩ := bnd h
  refine mkI (cc_L_195 gm S (hK.sub [0, 1] rfl) hN (hP.sub [26, 27, 28, 29, 30] rfl) (hD.sub [26, 27, 28, 29, 30] (by decide) rfl) e_z148 hl.1 (Nat.le_of_ble_eq_true rfl) ⟨(Nat.le_of_ble_eq_true rfl), (Nat.le_of_ble_eq_true rfl)⟩ dL_law_1430 ⟨by show _ ≤ 601024; omega, by show _ ≤ 7293034; omega⟩) hS hP hD hA [26, 27, 28, 29, 30] [0, 1, 2, 3, 4, 5, 6, 7, 8, 9, 10, 11, 12, 13, 14, 15, 16, 17, 18, 19, 20, 21, 22, 23, 24, 25, 31] rfl rfl (by decide) (by decide) [0, 1, 2, 3, 4, 5, 6, 7, 8, 9, 10, 11, 12, 13, 14, 15, 16, 17, 18, 19, 20, 21, 22, 23, 24, 25, 27, 28, 29, 30, 31, 26] (by decide) (wW cI cS cL sv gx gm og (z147.2.1, z148.2, z147.2.2)) rfl (fun H locs hP hD hS => ?_)
  refine lv_istore (lv' := [(6, .int z148.1), (5, .int z147.1), (0, .ref b), (1, .ref (gx 0)), (2, .ref (gm 0)), (3, .ref og), (4, .int x4)]) hx hb dL_law_1433 hl (by decide) rfl (fun ls hl => ?_)
  refine lv_aload_n hx hb dL_law_1435 rfl (lv_at hl 4 rfl) ?_
  obtain ⟨z149, e_z149, h⟩ := bnd h
  refine roI (cc_L_82 gm S (hK.sub [0, 1] rfl) hN (hP.sub [26, 27, 28, 29, 30] rfl) e_z149 hl.1 (Nat.le_of_ble_eq_true rfl) ⟨(Nat.le_of_ble_eq_true rfl), (Nat.le_of_ble_eq_true rfl)⟩ dL_law_1436 ⟨by show _ ≤ 601024; omega, by show _ ≤ 7293034; omega⟩) ?_
  refine lv_iload hx hb dL_law_1439 (lv_at hl 1 rfl) ?_
  refine lv_icmp_eq (tgt := 1446) hx hb dL_law_1441 (by decide) (fun c150 => ?_) (fun c150 => ?_)
  · have h := (if_pos c150).symm.trans h
    refine lv_iload hx hb dL_law_1446 (lv_at hl 1 rfl) ?_
    refine lv_if_ne (tgt := 1463) hx hb dL_law_1448 (by decide) (fun c151 => ?_) (fun c151 => ?_)
    · have h := (if_neg c151).symm.trans h
      refine lv_goto (tgt := 1493) hx hb dL_law_1463 (by decide) ?_
      exact K _ (Option.some.inj h) _ _ _ _ _ (by omega) (by omega) hP hD hS (lv_sub hl [2, 3, 4, 5, 6] rfl)
    · have h := (if_pos c151).symm.trans h
      refine lv_aload_n hx hb dL_law_1451 rfl (lv_at hl 5 rfl) ?_
      refine lv_iconst (v := 0) hx hb dL_law_1452 (by decide) ?_
      refine va_lald (f := z147.2.2) hx hb hK hP 31 2 rfl rfl (vp_in_of_not (i := 0) (n := 1) (by decide)) dL_law_1453 ?_
      refine lv_iload hx hb dL_law_1454 (lv_at hl 0 rfl) ?_
      refine lv_i2l hx hb dL_law_1456 rfl ?_
      refine W.lcmp hx hb dL_law_1457 ?_
      refine lv_if_eq (tgt := 1463) hx hb dL_law_1458 (by decide) (fun c152 => ?_) (fun c152 => ?_)
      · have h := (if_pos c152).symm.trans h
        refine lv_goto (tgt := 1493) hx hb dL_law_1463 (by decide) ?_
        exact K _ (Option.some.inj h) _ _ _ _ _ (by omega) (by omega) hP hD hS (lv_sub hl [2, 3, 4, 5, 6] rfl)
      · have h := (if_neg c152).symm.trans h
        refine lv_iconst (v := 0) hx hb dL_law_1461 (by decide) ?_
        cases h
  · have h := (if_neg c150).symm.trans h
    refine lv_iconst (v := 0) hx hb dL_law_1444 (by decide) ?_
    cases h
theorem cc_L_196 {p : Program} {l : Launch} {e : Env} {R : Room} {s : State} {m : MethodId} {args : Array Value} {below : List Frame} {meth : Method} {c : Code} {H : Heap} {locs : List Loc} {cells slots : Nat} {cc : ByteArray} {pc nL : Nat} {ls : Array Slot} {rest : List Value} {G : va_G} (sv : Nat) (ga : Nat → Nat) {cI cS : ClassId} {u : TH}  {r : Int32} (S : CallFix p m c cc nL s args bwL RL) (hK : va_K G vwCl (tysW cI cS) s) (hN : NW s) (hP : va_P G vwCl (wH cI sv ga u) H) (hf : fX4_savedStates u = some r) (hsz : ls.size = nL) (hst : (rest.map fun v => v.category).sum ≤ 8) (hR : rmX4_savedStates.frames + 1 ≤ R.frames ∧ 8 + (1 + 11) + rmX4_savedStates.locals ≤ R.locals) (hdg : decode cc pc = .ok (.invokevirtual 196, 3)) (hcs : cells + 0 ≤ R.cells ∧ slots + 0 ≤ R.slots) : va_Run p l e R s m args below meth c H locs cells slots 0 0 (F0 m pc ls (.ref (ga 0) :: rest)) rest (vp_Si (fun r' => r' = r) (#[.ref (ga 0)] : Array Value)) (fun _ => False) :=
  va_runV (As := []) (rest := rest) S (kX4_savedStates l G cI cS sv ga u r hf) (cwV 0 S.2.2.2.2 (gdVL ql_248 ql_249 ql_250 (bwL_of q_76) (bwL_of q_359)) rfl rfl rfl (by decide +kernel) hR) (pvR (q := (RX4, TX4, 8)) hK hN hP (ci := 4) (q0 := 0) rfl rfl) rfl rfl hsz rfl (lv_room hst) hdg hcs
theorem cc_L_199 {p : Program} {l : Launch} {e : Env} {R : Room} {s : State} {m : MethodId} {args : Array Value} {below : List Frame} {meth : Method} {c : Code} {H : Heap} {locs : List Loc} {cells slots : Nat} {cc : ByteArray} {pc nL : Nat} {ls : Array Slot} {rest : List Value} {G : va_G} {A : Nat → Prop} (ga : Nat → Nat) {cI cS : ClassId} {u : TM}  {r : Int32 × TM} (S : CallFix p m c cc nL s args bwL RL) (hK : va_K G vwCl (tysW cI cS) s) (hN : NW s) (hP : va_P G vwCl (wM cI ga u) H) (hD : va_D A (wM cI ga u)) (hf : fX5_savedStates u = some r) (hsz : ls.size = nL) (hst : (rest.map fun v => v.category).sum ≤ 8) (hR : rmX5_savedStates.frames + 1 ≤ R.frames ∧ 8 + (1 + 11) + rmX5_savedStates.locals ≤ R.locals) (hdg : decode cc pc = .ok (.invokevirtual 199, 3)) (hcs : cells + 0 ≤ R.cells ∧ slots + 0 ≤ R.slots) : va_Run p l e R s m args below meth c H locs cells slots 0 0 (F0 m pc ls (.ref (ga 0) :: rest)) rest (va_Qi (fun r' u' => (r', u') = r) (PoM G (tysW cI cS) (va_A (wM cI ga u) H.size) (wM cI ga)) (va_A (wM cI ga u) H.size) (#[.ref (ga 0)] : Array Value)) (va_A (wM cI ga u) H.size) :=
  va_runV (As := []) (rest := rest) S (kX5_savedStates l G cI cS ga H.size u r hf) (cwV 0 S.2.2.2.2 (gdVL ql_251 ql_252 ql_253 (bwL_of q_392) (bwL_of q_640)) rfl rfl rfl (by decide +kernel) hR) (pvM (q := (RX5, TX5, 12)) hK hN hP hD (ci := 5) (q0 := 0) rfl rfl) rfl rfl hsz rfl (lv_room hst) hdg hcs

def fLc_32 (u : THS × TM × OutR) (a1 a2 : Int32) : Option (THS × TM × OutR) := ((fX4_savedStates u.1.1).bind fun z153 => ((fX5_savedStates u.2.1).bind fun z154 => (if z153 = z154.1 then some (u.1, z154.2, u.2.2) else none)))
set_option maxRecDepth 100000 in
set_option maxHeartbeats 4000000 in
theorem kLc_32 {p : Program} {l : Launch} {e : Env} {s : State} {m : MethodId} {args : Array Value} {below : List Frame} {meth : Method} {c : Code} {Q : State → Prop} {b L : Nat} {xs : Nat → Int32} {G : va_G} {cI cS cL : ClassId} {A : Nat → Prop} {B0 : Nat} (C0 : LawC p l s m args c b L xs G cI cS cL A B0) (sv : Nat) (gx gm : Nat → Nat) (og : Nat) (u : THS × TM × OutR) (x4 a1 a2 : Int32) (u' : THS × TM × OutR) (hf : fLc_32 u a1 a2 = some u') (hin1 : vp_in (x4 + (1 : Int32)) L) (hin2 : vp_in (x4 + (2 : Int32)) L) (hs1 : xs (x4 + (1 : Int32)).toNatClampNeg = a1) (hs2 : xs (x4 + (2 : Int32)).toNatClampNeg = a2) (cells slots : Nat) (hc9 : cells + 2 ≤ 601024) (hs9 : slots + 12 ≤ 7293034)
    (K : ∀ (v : THS × TM × OutR), v = u' → ∀ (H : Heap) (locs : List Loc) (ls : Array Slot) (cells' slots' : Nat), cells' ≤ cells + 2 → slots' ≤ slots + 12 → va_P G vwCl (wW cI cS cL sv gx gm og v) H → va_D A (wW cI cS cL sv gx gm og v) → va_S A s.heap H locs → lv_has ls 9 [(0, .ref b), (1, .ref (gx 0)), (2, .ref (gm 0)), (3, .ref og), (4, .int x4)] → W p l e room_1 s m args below meth c H locs cells' slots' Q (F0 m 1493 ls []))
    (H : Heap) (locs : List Loc) (ls : Array Slot) (hP : va_P G vwCl (wW cI cS cL sv gx gm og u) H) (hD : va_D A (wW cI cS cL sv gx gm og u)) (hS : va_S A s.heap H locs) (hl : lv_has ls 9 [(0, .ref b), (1, .ref (gx 0)), (2, .ref (gm 0)), (3, .ref og), (4, .int x4)]) : W p l e room_1 s m args below meth c H locs cells slots Q (F0 m 1466 ls []) := by
  obtain ⟨hst, S, hK, hN, hC, hA, hAB, hB, hX, hX0, hbl, hbA⟩ := C0
  have hx := S.1; have hb := S.2.1; have hml := S.2.2.1; have hown := S.2.2.2.1; have hq := S.2.2.2.2
  have h := hf
  unfold fLc_32 at h
  refine lv_aload_n hx hb dL_law_1466 rfl (lv_at hl 1 rfl) ?_
  obtain ⟨z153, e_z153, h⟩ := bnd h
  refine roI (cc_L_196 sv gx S (hK.sub [0, 1] rfl) hN (hP.sub [0, 1, 2, 3, 4, 5, 6, 7, 8, 9, 10, 11, 12] rfl) e_z153 hl.1 (Nat.le_of_ble_eq_true rfl) ⟨(Nat.le_of_ble_eq_true rfl), (Nat.le_of_ble_eq_true rfl)⟩ dL_law_1467 ⟨by show _ ≤ 601024; omega, by show _ ≤ 7293034; omega⟩) ?_
  refine lv_aload_n hx hb dL_law_1470 rfl (lv_at hl 2 rfl) ?_
  obtain ⟨z154, e_z154, h⟩ := bnd h
  refine mkI (cc_L_199 gm S (hK.sub [0, 1] rfl) hN (hP.sub [26, 27, 28, 29, 30] rfl) (hD.sub [26, 27, 28, 29, 30] (by decide) rfl) e_z154 hl.1 (Nat.le_of_ble_eq_true rfl) ⟨(Nat.le_of_ble_eq_true rfl), (Nat.le_of_ble_eq_true rfl)⟩ dL_law_1471 ⟨by show _ ≤ 601024; omega, by show _ ≤ 7293034; omega⟩) hS hP hD hA [26, 27, 28, 29, 30] [0, 1, 2, 3, 4, 5, 6, 7, 8, 9, 10, 11, 12, 13, 14, 15, 16, 17, 18, 19, 20, 21, 22, 23, 24, 25, 31] rfl rfl (by decide) (by decide) [0, 1, 2, 3, 4, 5, 6, 7, 8, 9, 10, 11, 12, 13, 14, 15, 16, 17, 18, 19, 20, 21, 22, 23, 24, 25, 27, 28, 29, 30, 31, 26] (by decide) (wW cI cS cL sv gx gm og (u.1, z154.2, u.2.2)) rfl (fun H locs hP hD hS => ?_)
  refine lv_icmp_eq (tgt := 1493) hx hb dL_law_1474 (by decide) (fun c155 => ?_) (fun c155 => ?_)
  · have h := (if_pos c155).symm.trans h
    exact K _ (Option.some.inj h) _ _ _ _ _ (by omega) (by omega) hP hD hS (lv_sub hl [0, 1, 2, 3, 4] rfl)
  · have h := (if_neg c155).symm.trans h
    refine lv_iconst (v := 0) hx hb dL_law_1477 (by decide) ?_
    cases h
theorem cc_L_200 {p : Program} {l : Launch} {e : Env} {R : Room} {s : State} {m : MethodId} {args : Array Value} {below : List Frame} {meth : Method} {c : Code} {H : Heap} {locs : List Loc} {cells slots : Nat} {cc : ByteArray} {pc nL : Nat} {ls : Array Slot} {rest : List Value} {G : va_G} (sv : Nat) (ga : Nat → Nat) {cI cS : ClassId} {u : TH}  {r : Int64} (S : CallFix p m c cc nL s args bwL RL) (hK : va_K G vwCl (tysW cI cS) s) (hN : NW s) (hP : va_P G vwCl (wH cI sv ga u) H) (hf : fX4_digest u = some r) (hsz : ls.size = nL) (hst : (rest.map fun v => v.category).sum ≤ 8) (hR : rmX4_digest.frames + 1 ≤ R.frames ∧ 8 + (5 + 11) + rmX4_digest.locals ≤ R.locals) (hdg : decode cc pc = .ok (.invokevirtual 200, 3)) (hcs : cells + 0 ≤ R.cells ∧ slots + 0 ≤ R.slots) : va_Run p l e R s m args below meth c H locs cells slots 0 0 (F0 m pc ls (.ref (ga 0) :: rest)) rest (vp_Sl (fun r' => r' = r) (#[.ref (ga 0)] : Array Value)) (fun _ => False) :=
  va_runV (As := []) (rest := rest) S (kX4_digest l G cI cS sv ga u r hf) (cwV 0 S.2.2.2.2 (gdVL ql_254 ql_255 ql_256 (bwL_of q_76) (bwL_of q_375)) rfl rfl rfl (by decide +kernel) hR) (pvR (q := (RX4, TX4, 8)) hK hN hP (ci := 4) (q0 := 0) rfl rfl) rfl rfl hsz rfl (lv_room hst) hdg hcs
theorem cc_L_204 {p : Program} {l : Launch} {e : Env} {R : Room} {s : State} {m : MethodId} {args : Array Value} {below : List Frame} {meth : Method} {c : Code} {H : Heap} {locs : List Loc} {cells slots : Nat} {cc : ByteArray} {pc nL : Nat} {ls : Array Slot} {rest : List Value} {G : va_G} {A : Nat → Prop} (ga : Nat → Nat) {cI cS : ClassId} {u : TM}  {r : Int64 × TM} (S : CallFix p m c cc nL s args bwL RL) (hK : va_K G vwCl (tysW cI cS) s) (hN : NW s) (hP : va_P G vwCl (wM cI ga u) H) (hD : va_D A (wM cI ga u)) (hf : fX5_digest u = some r) (hsz : ls.size = nL) (hst : (rest.map fun v => v.category).sum ≤ 8) (hR : rmX5_digest.frames + 1 ≤ R.frames ∧ 8 + (3 + 11) + rmX5_digest.locals ≤ R.locals) (hdg : decode cc pc = .ok (.invokevirtual 204, 3)) (hcs : cells + 0 ≤ R.cells ∧ slots + 0 ≤ R.slots) : va_Run p l e R s m args below meth c H locs cells slots 0 0 (F0 m pc ls (.ref (ga 0) :: rest)) rest (va_Ql (fun r' u' => (r', u') = r) (PoM G (tysW cI cS) (va_A (wM cI ga u) H.size) (wM cI ga)) (va_A (wM cI ga u) H.size) (#[.ref (ga 0)] : Array Value)) (va_A (wM cI ga u) H.size) :=
  va_runV (As := []) (rest := rest) S (kX5_digest l G cI cS ga H.size u r hf) (cwV 0 S.2.2.2.2 (gdVL ql_257 ql_258 ql_259 (bwL_of q_392) (bwL_of q_653)) rfl rfl rfl (by decide +kernel) hR) (pvM (q := (RX5, TX5, 12)) hK hN hP hD (ci := 5) (q0 := 0) rfl rfl) rfl rfl hsz rfl (lv_room hst) hdg hcs

def fLc_33 (u : THS × TM × OutR) (a1 a2 : Int32) : Option (THS × TM × OutR) := ((fX4_digest u.1.1).bind fun z156 => ((fX5_digest u.2.1).bind fun z157 => (if (lg_cmp z156 z157.1) = 0 then some (u.1, z157.2, u.2.2) else none)))
set_option maxRecDepth 100000 in
set_option maxHeartbeats 4000000 in
theorem kLc_33 {p : Program} {l : Launch} {e : Env} {s : State} {m : MethodId} {args : Array Value} {below : List Frame} {meth : Method} {c : Code} {Q : State → Prop} {b L : Nat} {xs : Nat → Int32} {G : va_G} {cI cS cL : ClassId} {A : Nat → Prop} {B0 : Nat} (C0 : LawC p l s m args c b L xs G cI cS cL A B0) (sv : Nat) (gx gm : Nat → Nat) (og : Nat) (u : THS × TM × OutR) (x4 a1 a2 : Int32) (u' : THS × TM × OutR) (hf : fLc_33 u a1 a2 = some u') (hin1 : vp_in (x4 + (1 : Int32)) L) (hin2 : vp_in (x4 + (2 : Int32)) L) (hs1 : xs (x4 + (1 : Int32)).toNatClampNeg = a1) (hs2 : xs (x4 + (2 : Int32)).toNatClampNeg = a2) (cells slots : Nat) (hc9 : cells + 2 ≤ 601024) (hs9 : slots + 12 ≤ 7293034)
    (K : ∀ (v : THS × TM × OutR), v = u' → ∀ (H : Heap) (locs : List Loc) (ls : Array Slot) (cells' slots' : Nat), cells' ≤ cells + 2 → slots' ≤ slots + 12 → va_P G vwCl (wW cI cS cL sv gx gm og v) H → va_D A (wW cI cS cL sv gx gm og v) → va_S A s.heap H locs → lv_has ls 9 [(0, .ref b), (1, .ref (gx 0)), (2, .ref (gm 0)), (3, .ref og), (4, .int x4)] → W p l e room_1 s m args below meth c H locs cells' slots' Q (F0 m 1493 ls []))
    (H : Heap) (locs : List Loc) (ls : Array Slot) (hP : va_P G vwCl (wW cI cS cL sv gx gm og u) H) (hD : va_D A (wW cI cS cL sv gx gm og u)) (hS : va_S A s.heap H locs) (hl : lv_has ls 9 [(0, .ref b), (1, .ref (gx 0)), (2, .ref (gm 0)), (3, .ref og), (4, .int x4)]) : W p l e room_1 s m args below meth c H locs cells slots Q (F0 m 1479 ls []) := by
  obtain ⟨hst, S, hK, hN, hC, hA, hAB, hB, hX, hX0, hbl, hbA⟩ := C0
  have hx := S.1; have hb := S.2.1; have hml := S.2.2.1; have hown := S.2.2.2.1; have hq := S.2.2.2.2
  have h := hf
  unfold fLc_33 at h
  refine lv_aload_n hx hb dL_law_1479 rfl (lv_at hl 1 rfl) ?_
  obtain ⟨z156, e_z156, h⟩ := bnd h
  refine roL (cc_L_200 sv gx S (hK.sub [0, 1] rfl) hN (hP.sub [0, 1, 2, 3, 4, 5, 6, 7, 8, 9, 10, 11, 12] rfl) e_z156 hl.1 (Nat.le_of_ble_eq_true rfl) ⟨(Nat.le_of_ble_eq_true rfl), (Nat.le_of_ble_eq_true rfl)⟩ dL_law_1480 ⟨by show _ ≤ 601024; omega, by show _ ≤ 7293034; omega⟩) ?_
  refine lv_aload_n hx hb dL_law_1483 rfl (lv_at hl 2 rfl) ?_
  obtain ⟨z157, e_z157, h⟩ := bnd h
  refine mkL (cc_L_204 gm S (hK.sub [0, 1] rfl) hN (hP.sub [26, 27, 28, 29, 30] rfl) (hD.sub [26, 27, 28, 29, 30] (by decide) rfl) e_z157 hl.1 (Nat.le_of_ble_eq_true rfl) ⟨(Nat.le_of_ble_eq_true rfl), (Nat.le_of_ble_eq_true rfl)⟩ dL_law_1484 ⟨by show _ ≤ 601024; omega, by show _ ≤ 7293034; omega⟩) hS hP hD hA [26, 27, 28, 29, 30] [0, 1, 2, 3, 4, 5, 6, 7, 8, 9, 10, 11, 12, 13, 14, 15, 16, 17, 18, 19, 20, 21, 22, 23, 24, 25, 31] rfl rfl (by decide) (by decide) [0, 1, 2, 3, 4, 5, 6, 7, 8, 9, 10, 11, 12, 13, 14, 15, 16, 17, 18, 19, 20, 21, 22, 23, 24, 25, 27, 28, 29, 30, 31, 26] (by decide) (wW cI cS cL sv gx gm og (u.1, z157.2, u.2.2)) rfl (fun H locs hP hD hS => ?_)
  refine W.lcmp hx hb dL_law_1487 ?_
  refine lv_if_eq (tgt := 1493) hx hb dL_law_1488 (by decide) (fun c158 => ?_) (fun c158 => ?_)
  · have h := (if_pos c158).symm.trans h
    exact K _ (Option.some.inj h) _ _ _ _ _ (by omega) (by omega) hP hD hS (lv_sub hl [0, 1, 2, 3, 4] rfl)
  · have h := (if_neg c158).symm.trans h
    refine lv_iconst (v := 0) hx hb dL_law_1491 (by decide) ?_
    cases h
