theorem cc_X4_75 {p : Program} {l : Launch} {e : Env} {R : Room} {s : State} {m : MethodId} {args : Array Value} {below : List Frame} {meth : Method} {c : Code} {H : Heap} {locs : List Loc} {cells slots : Nat} {cc : ByteArray} {pc nL : Nat} {ls : Array Slot} {rest : List Value} {G : va_G} {A : Nat → Prop} (g0 g1 n : Nat) {cI cS : ClassId} {u : TB}  {p0 : Int32} {r : TB} (S : CallFix p m c cc nL s args bw RX4) (hK : va_K G vwCl (tysW cI cS) s) (hN : NW s) (hP : va_P G vwCl (wB cI g0 g1 n u) H) (hD : va_D A (wB cI g0 g1 n u)) (hf : fX0_add n u p0 = some r) (hsz : ls.size = nL) (hst : (rest.map fun v => v.category).sum ≤ 8) (hR : rmX0_add.frames + 1 ≤ R.frames ∧ 8 + (2 + 11) + rmX0_add.locals ≤ R.locals) (hdg : decode cc pc = .ok (.invokevirtual 75, 3)) (hcs : cells + 0 ≤ R.cells ∧ slots + 0 ≤ R.slots) : va_Run p l e R s m args below meth c H locs cells slots 0 0 (F0 m pc ls (.int p0 :: .ref g0 :: rest)) rest (va_Qv (fun u' => u' = r) (PoM G (tysW cI cS) (va_A (wB cI g0 g1 n u) H.size) (wB cI g0 g1 n)) (va_A (wB cI g0 g1 n u) H.size) (#[.ref g0, .int p0] : Array Value)) (va_A (wB cI g0 g1 n u) H.size) :=
  va_runVN (As := [.int p0]) (rest := rest) S (kX0_add l G cI cS g0 g1 n H.size u p0 r hf) ⟨va_cnB 1 S.2.2.2.2 (gdC q_12) rfl rfl rfl (hN _ nq_29) (S.2.2.2.2 _ q_17) (by decide +kernel) hR, S.2.2.2.2 _ q_19, S.2.2.2.2 _ q_20⟩ (pvM (q := (RX0, TX0, 2)) hK hN hP hD (ci := 0) (q0 := 0) rfl rfl) rfl rfl hsz rfl (lv_room hst) hdg hcs
theorem gf_X4_26 {p : Program} {l : Launch} {e : Env} {R : Room} {s : State} {m : MethodId} {args : Array Value} {below : List Frame} {meth : Method} {c : Code} {H : Heap} {locs : List Loc} {cells slots : Nat} {cc : ByteArray} {pc nL : Nat} {ls : Array Slot} {rest : List Value} {G : va_G} {Q : State → Prop} {tys : List (ClassId × FieldType)} {ws : va_W} {a : Nat} (S : CallFix p m c cc nL s args bw RX4) (hK : va_K G vwCl tys s) (hN : NW s) (hP : va_P G vwCl ws H) (q0 : Nat) {fs : List Value} (he : ws[q0]? = some (a, .inr (4, fs))) {v : Value} (hv : fs[2]? = some v) (hdg : decode cc pc = .ok (.getfield 26, 3)) (kk : W p l e R s m args below meth c H locs cells slots Q (F0 m (pc + 3) ls (v :: rest))) : W p l e R s m args below meth c H locs cells slots Q (F0 m pc ls (.ref a :: rest)) :=
  va_get (C := RX4) (T := TX4) (N := 8) S.1 S.2.1 S.2.2.2.2 bi_U4 S.2.2.2.1 hK hP q0 he rfl 2 (by decide) (S.2.2.2.2 _ q_120) (fun _ h9 => h9) hv hdg kk
theorem gf_X4_54 {p : Program} {l : Launch} {e : Env} {R : Room} {s : State} {m : MethodId} {args : Array Value} {below : List Frame} {meth : Method} {c : Code} {H : Heap} {locs : List Loc} {cells slots : Nat} {cc : ByteArray} {pc nL : Nat} {ls : Array Slot} {rest : List Value} {G : va_G} {Q : State → Prop} {tys : List (ClassId × FieldType)} {ws : va_W} {a : Nat} (S : CallFix p m c cc nL s args bw RX4) (hK : va_K G vwCl tys s) (hN : NW s) (hP : va_P G vwCl ws H) (q0 : Nat) {fs : List Value} (he : ws[q0]? = some (a, .inr (0, fs))) {v : Value} (hv : fs[1]? = some v) (hdg : decode cc pc = .ok (.getfield 54, 3)) (kk : W p l e R s m args below meth c H locs cells slots Q (F0 m (pc + 3) ls (v :: rest))) : W p l e R s m args below meth c H locs cells slots Q (F0 m pc ls (.ref a :: rest)) :=
  va_getN (C := RX0) (T := TX0) (N := 2) S.1 S.2.1 S.2.2.2.2 bi_U0 S.2.2.2.1 hK hP q0 he rfl 1 (by decide) (va_Nw.use rfl (hN _ nq_9)) (fun _ h9 => h9) hv hdg kk
def fX4_appendSeveral_s68 (u : TH) (x1 : Int32) (x2 : Int32) (x3 : Int32) : Option ((TH × Int32 × Int32 × Int32) ⊕ (TH)) := (if x1 ≤ x3 then some (.inr u) else ((fX0_add 60 u.2.1 x2).bind fun z2 => some (.inl ((u.1, z2, u.2.2), x1, x2, (x3 + 1)))))
def fX4_appendSeveral_j32 (u : TH) : Option (Int32 × TH) := none
def fX4_appendSeveral_j11 (u : TH) : Option (Int32 × TH) := none
def fX4_appendSeveral (u : TH) (p0 : Int32) (p1 : Int32) : Option (Int32 × TH) := (if p0 < (1 : Int32) then fX4_appendSeveral_j11 u else (if p0 ≤ (60 : Int32) then (if p1 < 0 then fX4_appendSeveral_j32 u else (if p1 ≤ (255 : Int32) then (if (u.2.1.1 + p0) ≤ (60 : Int32) then ((itr (fun a : TH × Int32 × Int32 × Int32 => fX4_appendSeveral_s68 a.1 a.2.1 a.2.2.1 a.2.2.2) FU (u, p0, p1, (0 : Int32))).bind fun b8 => some (b8.2.1.1, b8)) else none) else fX4_appendSeveral_j32 u)) else fX4_appendSeveral_j11 u))
abbrev rmX4_appendSeveral : Room := { frames := 1, cells := 0, slots := 0, locals := 21 }
set_option maxRecDepth 100000 in
set_option maxHeartbeats 4000000 in
theorem kX4_appendSeveral (l : Launch) (G : va_G) (cI cS : ClassId) (sv : Nat) (ga : Nat → Nat) (sz : Nat) (u : TH) (p0 : Int32) (p1 : Int32) (r : Int32 × TH) (hf : fX4_appendSeveral u p0 p1 = some r) : Met l yX4_appendSeveral (.code yX4_appendSeveral cX4_appendSeveral 4 (some .int) :: bw) rmX4_appendSeveral (va_Pc [.ref (ga 0), .int p0, .int p1] (PreM G (tysW cI cS) (wH cI sv ga u) sz)) (va_Qi (fun r' u' => (r', u') = r) (PoM G (tysW cI cS) (va_A (wH cI sv ga u) sz) (wH cI sv ga)) (va_A (wH cI sv ga u) sz)) 0 0 (va_A (wH cI sv ga u) sz) := by
  refine enterM (own := RX4) (by decide) rfl (Nat.le_of_ble_eq_true rfl) ?_
  intro p e s m args below meth c A Q hAe hQ S hr hlocks hP hK hN hD hA hS ls hl
  rw [hAe] at hQ
  have hx := S.1; have hb := S.2.1; have hml := S.2.2.1; have hown := S.2.2.2.1; have hq := S.2.2.2.2
  have hl : lv_has ls 4 [(0, .ref (ga 0)), (1, .int p0), (2, .int p1)] := hl
  have h := hf
  unfold fX4_appendSeveral at h
  have L68 : ∀ (n9 : Nat) (a9 : TH × Int32 × Int32 × Int32) (b9 : TH), itr (fun a : TH × Int32 × Int32 × Int32 => fX4_appendSeveral_s68 a.1 a.2.1 a.2.2.1 a.2.2.2) n9 a9 = some b9 → (fun b : TH => ∀ (H : Heap) (locs : List Loc), va_P G vwCl (wH cI sv ga b) H → va_D A (wH cI sv ga b) → va_S A s.heap H locs → ∀ ls : Array Slot, lv_has ls 4 [(0, .ref (ga 0))] → W p l e rmX4_appendSeveral s m args below meth c H locs 0 0 Q (F0 m 87 ls [])) b9 → (fun a : TH × Int32 × Int32 × Int32 => ∀ (H : Heap) (locs : List Loc), va_P G vwCl (wH cI sv ga a.1) H → va_D A (wH cI sv ga a.1) → va_S A s.heap H locs → ∀ ls : Array Slot, lv_has ls 4 [(0, .ref (ga 0)), (1, .int a.2.1), (2, .int a.2.2.1), (3, .int a.2.2.2)] → W p l e rmX4_appendSeveral s m args below meth c H locs 0 0 Q (F0 m 68 ls [])) a9 := by
    refine itr_ind (Inv := (fun a : TH × Int32 × Int32 × Int32 => ∀ (H : Heap) (locs : List Loc), va_P G vwCl (wH cI sv ga a.1) H → va_D A (wH cI sv ga a.1) → va_S A s.heap H locs → ∀ ls : Array Slot, lv_has ls 4 [(0, .ref (ga 0)), (1, .int a.2.1), (2, .int a.2.2.1), (3, .int a.2.2.2)] → W p l e rmX4_appendSeveral s m args below meth c H locs 0 0 Q (F0 m 68 ls []))) (Ex := (fun b : TH => ∀ (H : Heap) (locs : List Loc), va_P G vwCl (wH cI sv ga b) H → va_D A (wH cI sv ga b) → va_S A s.heap H locs → ∀ ls : Array Slot, lv_has ls 4 [(0, .ref (ga 0))] → W p l e rmX4_appendSeveral s m args below meth c H locs 0 0 Q (F0 m 87 ls []))) ?_
    rintro ⟨u, x1, x2, x3⟩ z h hI hE
    have h : fX4_appendSeveral_s68 u x1 x2 x3 = some z := h
    unfold fX4_appendSeveral_s68 at h
    show ∀ (H : Heap) (locs : List Loc), va_P G vwCl (wH cI sv ga u) H → va_D A (wH cI sv ga u) → va_S A s.heap H locs → ∀ ls : Array Slot, lv_has ls 4 [(0, .ref (ga 0)), (1, .int x1), (2, .int x2), (3, .int x3)] → W p l e rmX4_appendSeveral s m args below meth c H locs 0 0 Q (F0 m 68 ls [])
    intro H locs hP hD hS ls hl
    refine lv_iload_n hx hb dX4_appendSeveral_68 rfl (lv_at hl 3 rfl) ?_
    refine lv_iload_n hx hb dX4_appendSeveral_69 rfl (lv_at hl 1 rfl) ?_
    refine lv_icmp_ge (tgt := 87) hx hb dX4_appendSeveral_70 (by decide) (fun c1 => ?_) (fun c1 => ?_)
    · have h := (if_pos c1).symm.trans h
      exact hE _ (Option.some.inj h) _ _ hP hD hS _ (lv_sub hl [0] rfl)
    · have h := (if_neg c1).symm.trans h
      refine lv_aload_n hx hb dX4_appendSeveral_73 rfl (lv_at hl 0 rfl) ?_
      refine gf_X4_26 S hK hN hP 0 rfl (v := .ref (ga 6)) rfl dX4_appendSeveral_74 ?_
      refine lv_iload_n hx hb dX4_appendSeveral_77 rfl (lv_at hl 2 rfl) ?_
      obtain ⟨z2, e_z2, h⟩ := bnd h
      refine mjv (cc_X4_75 (ga 6) (ga 7) 60 S hK hN (hP.sub [6, 7] rfl) (hD.sub [6, 7] (by decide) rfl) e_z2 hl.1 (Nat.le_of_ble_eq_true rfl) ⟨Nat.le_of_ble_eq_true rfl, Nat.le_of_ble_eq_true rfl⟩ dX4_appendSeveral_78 ⟨Nat.le_of_ble_eq_true rfl, Nat.le_of_ble_eq_true rfl⟩) hS hP hD hA [6, 7] [0, 1, 2, 3, 4, 5, 8, 9, 10, 11, 12] rfl rfl (by decide) (by decide) [0, 1, 2, 3, 4, 5, 11, 12, 6, 7, 8, 9, 10] (by decide) (wH cI sv ga (u.1, z2, u.2.2)) rfl (fun H locs hP hD hS => ?_)
      refine lv_iinc (v := (x3 + 1)) (lv' := [(3, .int (x3 + 1)), (0, .ref (ga 0)), (1, .int x1), (2, .int x2)]) hx hb dX4_appendSeveral_81 hl (k := 3) rfl rfl (by decide) rfl (fun ls hl => ?_)
      refine lv_goto (tgt := 68) hx hb dX4_appendSeveral_84 (by decide) ?_
      exact hI _ (Option.some.inj h) _ _ hP hD hS _ (lv_sub hl [1, 2, 3, 0] rfl)
  have J32 : ∀ (u : TH) , fX4_appendSeveral_j32 u = some r → ∀ (H : Heap) (locs : List Loc), va_P G vwCl (wH cI sv ga u) H → va_D A (wH cI sv ga u) → va_S A s.heap H locs → ∀ ls : Array Slot, lv_has ls 4 [] → W p l e rmX4_appendSeveral s m args below meth c H locs 0 0 Q (F0 m 32 ls []) := by
    intro u h
    unfold fX4_appendSeveral_j32 at h
    intro H locs hP hD hS ls hl
    cases h
  have J11 : ∀ (u : TH) , fX4_appendSeveral_j11 u = some r → ∀ (H : Heap) (locs : List Loc), va_P G vwCl (wH cI sv ga u) H → va_D A (wH cI sv ga u) → va_S A s.heap H locs → ∀ ls : Array Slot, lv_has ls 4 [] → W p l e rmX4_appendSeveral s m args below meth c H locs 0 0 Q (F0 m 11 ls []) := by
    intro u h
    unfold fX4_appendSeveral_j11 at h
    intro H locs hP hD hS ls hl
    cases h
  refine lv_iload_n hx hb dX4_appendSeveral_0 rfl (lv_at hl 1 rfl) ?_
  refine lv_iconst (v := 1) hx hb dX4_appendSeveral_1 (by decide) ?_
  refine lv_icmp_lt (tgt := 11) hx hb dX4_appendSeveral_2 (by decide) (fun c3 => ?_) (fun c3 => ?_)
  · have h := (if_pos c3).symm.trans h
    exact J11 u h _ _ hP hD hS _ (lv_sub hl [] rfl)
  · have h := (if_neg c3).symm.trans h
    refine lv_iload_n hx hb dX4_appendSeveral_5 rfl (lv_at hl 1 rfl) ?_
    refine lv_bipush (v := 60) hx hb dX4_appendSeveral_6 (by decide) ?_
    refine lv_icmp_le (tgt := 21) hx hb dX4_appendSeveral_8 (by decide) (fun c4 => ?_) (fun c4 => ?_)
    · have h := (if_pos c4).symm.trans h
      refine lv_iload_n hx hb dX4_appendSeveral_21 rfl (lv_at hl 2 rfl) ?_
      refine lv_if_lt (tgt := 32) hx hb dX4_appendSeveral_22 (by decide) (fun c5 => ?_) (fun c5 => ?_)
      · have h := (if_pos c5).symm.trans h
        exact J32 u h _ _ hP hD hS _ (lv_sub hl [] rfl)
      · have h := (if_neg c5).symm.trans h
        refine lv_iload_n hx hb dX4_appendSeveral_25 rfl (lv_at hl 2 rfl) ?_
        refine lv_sipush (v := 255) hx hb dX4_appendSeveral_26 (by decide) ?_
        refine lv_icmp_le (tgt := 42) hx hb dX4_appendSeveral_29 (by decide) (fun c6 => ?_) (fun c6 => ?_)
        · have h := (if_pos c6).symm.trans h
          refine lv_aload_n hx hb dX4_appendSeveral_42 rfl (lv_at hl 0 rfl) ?_
          refine gf_X4_26 S hK hN hP 0 rfl (v := .ref (ga 6)) rfl dX4_appendSeveral_43 ?_
          refine gf_X4_54 S hK hN hP 6 rfl (v := .int u.2.1.1) rfl dX4_appendSeveral_46 ?_
          refine lv_iload_n hx hb dX4_appendSeveral_49 rfl (lv_at hl 1 rfl) ?_
          refine lv_iadd hx hb dX4_appendSeveral_50 ?_
          refine lv_bipush (v := 60) hx hb dX4_appendSeveral_51 (by decide) ?_
          refine lv_icmp_le (tgt := 66) hx hb dX4_appendSeveral_53 (by decide) (fun c7 => ?_) (fun c7 => ?_)
          · have h := (if_pos c7).symm.trans h
            refine lv_iconst (v := 0) hx hb dX4_appendSeveral_66 (by decide) ?_
            refine lv_istore_n (lv' := [(3, .int (0 : Int32)), (0, .ref (ga 0)), (1, .int p0), (2, .int p1)]) hx hb dX4_appendSeveral_67 rfl hl (by decide) rfl (fun ls hl => ?_)
            obtain ⟨b8, e_b8, h⟩ := bnd h
            refine L68 _ _ _ e_b8 ?_ _ _ hP hD hS _ (lv_sub hl [1, 2, 3, 0] rfl)
            intro H locs hP hD hS ls hl
            refine lv_aload_n hx hb dX4_appendSeveral_87 rfl (lv_at hl 0 rfl) ?_
            refine gf_X4_26 S hK hN hP 0 rfl (v := .ref (ga 6)) rfl dX4_appendSeveral_88 ?_
            refine gf_X4_54 S hK hN hP 6 rfl (v := .int b8.2.1.1) rfl dX4_appendSeveral_91 ?_
            exact retMi hQ S hr hlocks hK hN hP hD hS h dX4_appendSeveral_94
          · have h := (if_neg c7).symm.trans h
            cases h
        · have h := (if_neg c6).symm.trans h
          exact J32 u h _ _ hP hD hS _ (lv_sub hl [] rfl)
    · have h := (if_neg c4).symm.trans h
      exact J11 u h _ _ hP hD hS _ (lv_sub hl [] rfl)

theorem cc_X4_50 {p : Program} {l : Launch} {e : Env} {R : Room} {s : State} {m : MethodId} {args : Array Value} {below : List Frame} {meth : Method} {c : Code} {H : Heap} {locs : List Loc} {cells slots : Nat} {cc : ByteArray} {pc nL : Nat} {ls : Array Slot} {rest : List Value} {G : va_G} {A : Nat → Prop} (sv : Nat) (ga : Nat → Nat) {cI cS : ClassId} {u : TH}  {p0 : Int32} {p1 : Int32} {r : Int32 × TH} (S : CallFix p m c cc nL s args bw RX4) (hK : va_K G vwCl (tysW cI cS) s) (hN : NW s) (hP : va_P G vwCl (wH cI sv ga u) H) (hD : va_D A (wH cI sv ga u)) (hf : fX4_appendSeveral u p0 p1 = some r) (hsz : ls.size = nL) (hst : (rest.map fun v => v.category).sum ≤ 8) (hR : rmX4_appendSeveral.frames + 1 ≤ R.frames ∧ 8 + (4 + 11) + rmX4_appendSeveral.locals ≤ R.locals) (hdg : decode cc pc = .ok (.invokevirtual 50, 3)) (hcs : cells + 0 ≤ R.cells ∧ slots + 0 ≤ R.slots) : va_Run p l e R s m args below meth c H locs cells slots 0 0 (F0 m pc ls (.int p1 :: .int p0 :: .ref (ga 0) :: rest)) rest (va_Qi (fun r' u' => (r', u') = r) (PoM G (tysW cI cS) (va_A (wH cI sv ga u) H.size) (wH cI sv ga)) (va_A (wH cI sv ga u) H.size) (#[.ref (ga 0), .int p0, .int p1] : Array Value)) (va_A (wH cI sv ga u) H.size) :=
  va_runV (As := [.int p0, .int p1]) (rest := rest) S (kX4_appendSeveral l G cI cS sv ga H.size u p0 p1 r hf) (cwV 2 S.2.2.2.2 (gdV q_138 q_139 q_140 q_49 q_132) rfl rfl rfl (by decide +kernel) hR) (pvM (q := (RX4, TX4, 8)) hK hN hP hD (ci := 4) (q0 := 0) rfl rfl) rfl rfl hsz rfl (lv_room hst) hdg hcs
def fX4_fill (u : TH) (p0 : Int32) (p1 : Int32) : Option (Int32 × TH) := ((fX4_appendSeveral u p0 p1).bind fun z1 => some (z1.1, z1.2))
abbrev rmX4_fill : Room := { frames := 2, cells := 0, slots := 0, locals := 44 }
set_option maxRecDepth 100000 in
set_option maxHeartbeats 4000000 in
theorem kX4_fill (l : Launch) (G : va_G) (cI cS : ClassId) (sv : Nat) (ga : Nat → Nat) (sz : Nat) (u : TH) (p0 : Int32) (p1 : Int32) (r : Int32 × TH) (hf : fX4_fill u p0 p1 = some r) : Met l yX4_fill (.code yX4_fill cX4_fill 3 (some .int) :: bw) rmX4_fill (va_Pc [.ref (ga 0), .int p0, .int p1] (PreM G (tysW cI cS) (wH cI sv ga u) sz)) (va_Qi (fun r' u' => (r', u') = r) (PoM G (tysW cI cS) (va_A (wH cI sv ga u) sz) (wH cI sv ga)) (va_A (wH cI sv ga u) sz)) 0 0 (va_A (wH cI sv ga u) sz) := by
  refine enterM (own := RX4) (by decide) rfl (Nat.le_of_ble_eq_true rfl) ?_
  intro p e s m args below meth c A Q hAe hQ S hr hlocks hP hK hN hD hA hS ls hl
  rw [hAe] at hQ
  have hx := S.1; have hb := S.2.1; have hml := S.2.2.1; have hown := S.2.2.2.1; have hq := S.2.2.2.2
  have hl : lv_has ls 3 [(0, .ref (ga 0)), (1, .int p0), (2, .int p1)] := hl
  have h := hf
  unfold fX4_fill at h
  refine lv_aload_n hx hb dX4_fill_0 rfl (lv_at hl 0 rfl) ?_
  refine lv_iload_n hx hb dX4_fill_1 rfl (lv_at hl 1 rfl) ?_
  refine lv_iload_n hx hb dX4_fill_2 rfl (lv_at hl 2 rfl) ?_
  obtain ⟨z1, e_z1, h⟩ := bnd h
  refine mui (cc_X4_50 sv ga S hK hN hP hD e_z1 hl.1 (Nat.le_of_ble_eq_true rfl) ⟨Nat.le_of_ble_eq_true rfl, Nat.le_of_ble_eq_true rfl⟩ dX4_fill_3 ⟨Nat.le_of_ble_eq_true rfl, Nat.le_of_ble_eq_true rfl⟩) hS hD (va_free hD hS hA [0, 1, 2, 3, 4, 5, 6, 7, 8, 9, 10, 11, 12] rfl) (fun H locs hP hD hS => ?_)
  have hP : va_P G vwCl (wH cI sv ga z1.2) H := hP
  have hD : va_D A (wH cI sv ga z1.2) := hD
  exact retMi hQ S hr hlocks hK hN hP hD hS h dX4_fill_6

theorem cc_X4_58 {p : Program} {l : Launch} {e : Env} {R : Room} {s : State} {m : MethodId} {args : Array Value} {below : List Frame} {meth : Method} {c : Code} {H : Heap} {locs : List Loc} {cells slots : Nat} {cc : ByteArray} {pc nL : Nat} {ls : Array Slot} {rest : List Value} {G : va_G} {A : Nat → Prop} (g0 g1 n : Nat) {cI cS : ClassId} {u : TB}  {r : TB} (S : CallFix p m c cc nL s args bw RX4) (hK : va_K G vwCl (tysW cI cS) s) (hN : NW s) (hP : va_P G vwCl (wB cI g0 g1 n u) H) (hD : va_D A (wB cI g0 g1 n u)) (hf : fX0_empty n u = some r) (hsz : ls.size = nL) (hst : (rest.map fun v => v.category).sum ≤ 8) (hR : rmX0_empty.frames + 1 ≤ R.frames ∧ 8 + (1 + 11) + rmX0_empty.locals ≤ R.locals) (hdg : decode cc pc = .ok (.invokevirtual 58, 3)) (hcs : cells + 0 ≤ R.cells ∧ slots + 0 ≤ R.slots) : va_Run p l e R s m args below meth c H locs cells slots 0 0 (F0 m pc ls (.ref g0 :: rest)) rest (va_Qv (fun u' => u' = r) (PoM G (tysW cI cS) (va_A (wB cI g0 g1 n u) H.size) (wB cI g0 g1 n)) (va_A (wB cI g0 g1 n u) H.size) (#[.ref g0] : Array Value)) (va_A (wB cI g0 g1 n u) H.size) :=
  va_runVN (As := []) (rest := rest) S (kX0_empty l G cI cS g0 g1 n H.size u r hf) ⟨va_cnB 0 S.2.2.2.2 (gdC q_21) rfl rfl rfl (hN _ nq_31) (S.2.2.2.2 _ q_17) (by decide +kernel) hR, S.2.2.2.2 _ q_24, S.2.2.2.2 _ q_25⟩ (pvM (q := (RX0, TX0, 2)) hK hN hP hD (ci := 0) (q0 := 0) rfl rfl) rfl rfl hsz rfl (lv_room hst) hdg hcs
def fX4_clearBuffer (u : TH) : Option (Int32 × TH) := ((fX0_empty 60 u.2.1).bind fun z1 => some (u.2.1.1, u.1, z1, u.2.2))
abbrev rmX4_clearBuffer : Room := { frames := 1, cells := 0, slots := 0, locals := 20 }
set_option maxRecDepth 100000 in
set_option maxHeartbeats 4000000 in
theorem kX4_clearBuffer (l : Launch) (G : va_G) (cI cS : ClassId) (sv : Nat) (ga : Nat → Nat) (sz : Nat) (u : TH) (r : Int32 × TH) (hf : fX4_clearBuffer u = some r) : Met l yX4_clearBuffer (.code yX4_clearBuffer cX4_clearBuffer 2 (some .int) :: bw) rmX4_clearBuffer (va_Pc [.ref (ga 0)] (PreM G (tysW cI cS) (wH cI sv ga u) sz)) (va_Qi (fun r' u' => (r', u') = r) (PoM G (tysW cI cS) (va_A (wH cI sv ga u) sz) (wH cI sv ga)) (va_A (wH cI sv ga u) sz)) 0 0 (va_A (wH cI sv ga u) sz) := by
  refine enterM (own := RX4) (by decide) rfl (Nat.le_of_ble_eq_true rfl) ?_
  intro p e s m args below meth c A Q hAe hQ S hr hlocks hP hK hN hD hA hS ls hl
  rw [hAe] at hQ
  have hx := S.1; have hb := S.2.1; have hml := S.2.2.1; have hown := S.2.2.2.1; have hq := S.2.2.2.2
  have hl : lv_has ls 2 [(0, .ref (ga 0))] := hl
  have h := hf
  unfold fX4_clearBuffer at h
  refine lv_aload_n hx hb dX4_clearBuffer_0 rfl (lv_at hl 0 rfl) ?_
  refine gf_X4_26 S hK hN hP 0 rfl (v := .ref (ga 6)) rfl dX4_clearBuffer_1 ?_
  refine gf_X4_54 S hK hN hP 6 rfl (v := .int u.2.1.1) rfl dX4_clearBuffer_4 ?_
  refine lv_istore_n (lv' := [(1, .int u.2.1.1), (0, .ref (ga 0))]) hx hb dX4_clearBuffer_7 rfl hl (by decide) rfl (fun ls hl => ?_)
  refine lv_aload_n hx hb dX4_clearBuffer_8 rfl (lv_at hl 1 rfl) ?_
  refine gf_X4_26 S hK hN hP 0 rfl (v := .ref (ga 6)) rfl dX4_clearBuffer_9 ?_
  obtain ⟨z1, e_z1, h⟩ := bnd h
  refine mjv (cc_X4_58 (ga 6) (ga 7) 60 S hK hN (hP.sub [6, 7] rfl) (hD.sub [6, 7] (by decide) rfl) e_z1 hl.1 (Nat.le_of_ble_eq_true rfl) ⟨Nat.le_of_ble_eq_true rfl, Nat.le_of_ble_eq_true rfl⟩ dX4_clearBuffer_12 ⟨Nat.le_of_ble_eq_true rfl, Nat.le_of_ble_eq_true rfl⟩) hS hP hD hA [6, 7] [0, 1, 2, 3, 4, 5, 8, 9, 10, 11, 12] rfl rfl (by decide) (by decide) [0, 1, 2, 3, 4, 5, 11, 12, 6, 7, 8, 9, 10] (by decide) (wH cI sv ga (u.1, z1, u.2.2)) rfl (fun H locs hP hD hS => ?_)
  refine lv_iload_n hx hb dX4_clearBuffer_15 rfl (lv_at hl 0 rfl) ?_
  exact retMi hQ S hr hlocks hK hN hP hD hS h dX4_clearBuffer_16

theorem cc_X4_274 {p : Program} {l : Launch} {e : Env} {R : Room} {s : State} {m : MethodId} {args : Array Value} {below : List Frame} {meth : Method} {c : Code} {H : Heap} {locs : List Loc} {cells slots : Nat} {cc : ByteArray} {pc nL : Nat} {ls : Array Slot} {rest : List Value} {G : va_G} {A : Nat → Prop} (g0 g1 n g2 g3 n2 : Nat) {cI cS : ClassId} {u : TB × TB}  {r : TB × TB} (S : CallFix p m c cc nL s args bw RX4) (hK : va_K G vwCl (tysW cI cS) s) (hN : NW s) (hP : va_P G vwCl (wBB cI g0 g1 n g2 g3 n2 u) H) (hD : va_D A (wBB cI g0 g1 n g2 g3 n2 u)) (hf : fX0_addAll n n2 u = some r) (hsz : ls.size = nL) (hst : (rest.map fun v => v.category).sum ≤ 8) (hR : rmX0_addAll.frames + 1 ≤ R.frames ∧ 8 + (3 + 11) + rmX0_addAll.locals ≤ R.locals) (hdg : decode cc pc = .ok (.invokevirtual 274, 3)) (hcs : cells + 0 ≤ R.cells ∧ slots + 0 ≤ R.slots) : va_Run p l e R s m args below meth c H locs cells slots 0 0 (F0 m pc ls (.ref g2 :: .ref g0 :: rest)) rest (va_Qv (fun u' => u' = r) (PoM G (tysW cI cS) (va_A (wBB cI g0 g1 n g2 g3 n2 u) H.size) (wBB cI g0 g1 n g2 g3 n2)) (va_A (wBB cI g0 g1 n g2 g3 n2 u) H.size) (#[.ref g0, .ref g2] : Array Value)) (va_A (wBB cI g0 g1 n g2 g3 n2 u) H.size) :=
  va_runVN (As := [.ref g2]) (rest := rest) S (kX0_addAll l G cI cS g0 g1 n g2 g3 n2 H.size u r hf) ⟨va_cnB 1 S.2.2.2.2 (gdC q_13) rfl rfl rfl (hN _ nq_35) (S.2.2.2.2 _ q_17) (by decide +kernel) hR, S.2.2.2.2 _ q_154, S.2.2.2.2 _ q_155⟩ (pvM (q := (RX0, TX0, 2)) hK hN hP hD (ci := 0) (q0 := 0) rfl rfl) rfl rfl hsz rfl (lv_room hst) hdg hcs
theorem gf_X4_30 {p : Program} {l : Launch} {e : Env} {R : Room} {s : State} {m : MethodId} {args : Array Value} {below : List Frame} {meth : Method} {c : Code} {H : Heap} {locs : List Loc} {cells slots : Nat} {cc : ByteArray} {pc nL : Nat} {ls : Array Slot} {rest : List Value} {G : va_G} {Q : State → Prop} {tys : List (ClassId × FieldType)} {ws : va_W} {a : Nat} (S : CallFix p m c cc nL s args bw RX4) (hK : va_K G vwCl tys s) (hN : NW s) (hP : va_P G vwCl ws H) (q0 : Nat) {fs : List Value} (he : ws[q0]? = some (a, .inr (4, fs))) {v : Value} (hv : fs[3]? = some v) (hdg : decode cc pc = .ok (.getfield 30, 3)) (kk : W p l e R s m args below meth c H locs cells slots Q (F0 m (pc + 3) ls (v :: rest))) : W p l e R s m args below meth c H locs cells slots Q (F0 m pc ls (.ref a :: rest)) :=
  va_get (C := RX4) (T := TX4) (N := 8) S.1 S.2.1 S.2.2.2.2 bi_U4 S.2.2.2.1 hK hP q0 he rfl 3 (by decide) (S.2.2.2.2 _ q_121) (fun _ h9 => h9) hv hdg kk
theorem gf_X4_33 {p : Program} {l : Launch} {e : Env} {R : Room} {s : State} {m : MethodId} {args : Array Value} {below : List Frame} {meth : Method} {c : Code} {H : Heap} {locs : List Loc} {cells slots : Nat} {cc : ByteArray} {pc nL : Nat} {ls : Array Slot} {rest : List Value} {G : va_G} {Q : State → Prop} {tys : List (ClassId × FieldType)} {ws : va_W} {a : Nat} (S : CallFix p m c cc nL s args bw RX4) (hK : va_K G vwCl tys s) (hN : NW s) (hP : va_P G vwCl ws H) (q0 : Nat) {fs : List Value} (he : ws[q0]? = some (a, .inr (4, fs))) {v : Value} (hv : fs[4]? = some v) (hdg : decode cc pc = .ok (.getfield 33, 3)) (kk : W p l e R s m args below meth c H locs cells slots Q (F0 m (pc + 3) ls (v :: rest))) : W p l e R s m args below meth c H locs cells slots Q (F0 m pc ls (.ref a :: rest)) :=
  va_get (C := RX4) (T := TX4) (N := 8) S.1 S.2.1 S.2.2.2.2 bi_U4 S.2.2.2.1 hK hP q0 he rfl 4 (by decide) (S.2.2.2.2 _ q_122) (fun _ h9 => h9) hv hdg kk
def fX4_writeHomeRecord_s77 (u : TH) (x1 : Int32) : Option ((TH × Int32) ⊕ (TH)) := (if (3 : Int32) ≤ x1 then some (.inr u) else ((fX0_add 63 u.2.2.2.1 (0 : Int32)).bind fun z2 => some (.inl ((u.1, u.2.1, u.2.2.1, z2, u.2.2.2.2), (x1 + 1)))))
def fX4_writeHomeRecord_j58 (u : TH) : Option (TH) := ((fX0_addAll 63 60 (u.2.2.2.1, u.2.2.1)).bind fun z3 => ((itr (fun a : TH × Int32 => fX4_writeHomeRecord_s77 a.1 a.2) FU ((u.1, u.2.1, z3.2, z3.1, u.2.2.2.2), z3.1.1)).bind fun b4 => some b4))
def fX4_writeHomeRecord (u : TH) : Option (TH) := ((fX0_empty 63 u.2.2.2.1).bind fun z5 => (if u.2.2.1.1 = 0 then ((fX0_add 63 z5 (4 : Int32)).bind fun z10 => fX4_writeHomeRecord_j58 (u.1, u.2.1, u.2.2.1, z10, u.2.2.2.2)) else (if u.2.2.1.1 = (1 : Int32) then ((fX0_add 63 z5 (5 : Int32)).bind fun z9 => fX4_writeHomeRecord_j58 (u.1, u.2.1, u.2.2.1, z9, u.2.2.2.2)) else ((fX0_add 63 z5 (1 : Int32)).bind fun z8 => fX4_writeHomeRecord_j58 (u.1, u.2.1, u.2.2.1, z8, u.2.2.2.2)))))
abbrev rmX4_writeHomeRecord : Room := { frames := 2, cells := 0, slots := 0, locals := 43 }
set_option maxRecDepth 100000 in
set_option maxHeartbeats 4000000 in
theorem kX4_writeHomeRecord (l : Launch) (G : va_G) (cI cS : ClassId) (sv : Nat) (ga : Nat → Nat) (sz : Nat) (u : TH) (r : TH) (hf : fX4_writeHomeRecord u = some r) : Met l yX4_writeHomeRecord (.code yX4_writeHomeRecord cX4_writeHomeRecord 2 none :: bw) rmX4_writeHomeRecord (va_Pc [.ref (ga 0)] (PreM G (tysW cI cS) (wH cI sv ga u) sz)) (va_Qv (fun u' => u' = r) (PoM G (tysW cI cS) (va_A (wH cI sv ga u) sz) (wH cI sv ga)) (va_A (wH cI sv ga u) sz)) 0 0 (va_A (wH cI sv ga u) sz) := by
  refine enterM (own := RX4) (by decide) rfl (Nat.le_of_ble_eq_true rfl) ?_
  intro p e s m args below meth c A Q hAe hQ S hr hlocks hP hK hN hD hA hS ls hl
  rw [hAe] at hQ
  have hx := S.1; have hb := S.2.1; have hml := S.2.2.1; have hown := S.2.2.2.1; have hq := S.2.2.2.2
  have hl : lv_has ls 2 [(0, .ref (ga 0))] := hl
  have h := hf
  unfold fX4_writeHomeRecord at h
  have L77 : ∀ (n9 : Nat) (a9 : TH × Int32) (b9 : TH), itr (fun a : TH × Int32 => fX4_writeHomeRecord_s77 a.1 a.2) n9 a9 = some b9 → (fun b : TH => ∀ (H : Heap) (locs : List Loc), va_P G vwCl (wH cI sv ga b) H → va_D A (wH cI sv ga b) → va_S A s.heap H locs → ∀ ls : Array Slot, lv_has ls 2 [] → W p l e rmX4_writeHomeRecord s m args below meth c H locs 0 0 Q (F0 m 96 ls [])) b9 → (fun a : TH × Int32 => ∀ (H : Heap) (locs : List Loc), va_P G vwCl (wH cI sv ga a.1) H → va_D A (wH cI sv ga a.1) → va_S A s.heap H locs → ∀ ls : Array Slot, lv_has ls 2 [(0, .ref (ga 0)), (1, .int a.2)] → W p l e rmX4_writeHomeRecord s m args below meth c H locs 0 0 Q (F0 m 77 ls [])) a9 := by
    refine itr_ind (Inv := (fun a : TH × Int32 => ∀ (H : Heap) (locs : List Loc), va_P G vwCl (wH cI sv ga a.1) H → va_D A (wH cI sv ga a.1) → va_S A s.heap H locs → ∀ ls : Array Slot, lv_has ls 2 [(0, .ref (ga 0)), (1, .int a.2)] → W p l e rmX4_writeHomeRecord s m args below meth c H locs 0 0 Q (F0 m 77 ls []))) (Ex := (fun b : TH => ∀ (H : Heap) (locs : List Loc), va_P G vwCl (wH cI sv ga b) H → va_D A (wH cI sv ga b) → va_S A s.heap H locs → ∀ ls : Array Slot, lv_has ls 2 [] → W p l e rmX4_writeHomeRecord s m args below meth c H locs 0 0 Q (F0 m 96 ls []))) ?_
    rintro ⟨u, x1⟩ z h hI hE
    have h : fX4_writeHomeRecord_s77 u x1 = some z := h
    unfold fX4_writeHomeRecord_s77 at h
    show ∀ (H : Heap) (locs : List Loc), va_P G vwCl (wH cI sv ga u) H → va_D A (wH cI sv ga u) → va_S A s.heap H locs → ∀ ls : Array Slot, lv_has ls 2 [(0, .ref (ga 0)), (1, .int x1)] → W p l e rmX4_writeHomeRecord s m args below meth c H locs 0 0 Q (F0 m 77 ls [])
    intro H locs hP hD hS ls hl
    refine lv_iload_n hx hb dX4_writeHomeRecord_77 rfl (lv_at hl 1 rfl) ?_
    refine lv_iconst (v := 3) hx hb dX4_writeHomeRecord_78 (by decide) ?_
    refine lv_icmp_ge (tgt := 96) hx hb dX4_writeHomeRecord_79 (by decide) (fun c1 => ?_) (fun c1 => ?_)
    · have h := (if_pos c1).symm.trans h
      exact hE _ (Option.some.inj h) _ _ hP hD hS _ (lv_sub hl [] rfl)
    · have h := (if_neg c1).symm.trans h
      refine lv_aload_n hx hb dX4_writeHomeRecord_82 rfl (lv_at hl 0 rfl) ?_
      refine gf_X4_33 S hK hN hP 0 rfl (v := .ref (ga 10)) rfl dX4_writeHomeRecord_83 ?_
      refine lv_iconst (v := 0) hx hb dX4_writeHomeRecord_86 (by decide) ?_
      obtain ⟨z2, e_z2, h⟩ := bnd h
      refine mjv (cc_X4_75 (ga 10) (ga 11) 63 S hK hN (hP.sub [10, 11] rfl) (hD.sub [10, 11] (by decide) rfl) e_z2 hl.1 (Nat.le_of_ble_eq_true rfl) ⟨Nat.le_of_ble_eq_true rfl, Nat.le_of_ble_eq_true rfl⟩ dX4_writeHomeRecord_87 ⟨Nat.le_of_ble_eq_true rfl, Nat.le_of_ble_eq_true rfl⟩) hS hP hD hA [10, 11] [0, 1, 2, 3, 4, 5, 6, 7, 8, 9, 12] rfl rfl (by decide) (by decide) [0, 1, 2, 3, 4, 5, 6, 7, 8, 9, 11, 12, 10] (by decide) (wH cI sv ga (u.1, u.2.1, u.2.2.1, z2, u.2.2.2.2)) rfl (fun H locs hP hD hS => ?_)
      refine lv_iinc (v := (x1 + 1)) (lv' := [(1, .int (x1 + 1)), (0, .ref (ga 0))]) hx hb dX4_writeHomeRecord_90 hl (k := 1) rfl rfl (by decide) rfl (fun ls hl => ?_)
      refine lv_goto (tgt := 77) hx hb dX4_writeHomeRecord_93 (by decide) ?_
      exact hI _ (Option.some.inj h) _ _ hP hD hS _ (lv_sub hl [1, 0] rfl)
  have J58 : ∀ (u : TH) , fX4_writeHomeRecord_j58 u = some r → ∀ (H : Heap) (locs : List Loc), va_P G vwCl (wH cI sv ga u) H → va_D A (wH cI sv ga u) → va_S A s.heap H locs → ∀ ls : Array Slot, lv_has ls 2 [(0, .ref (ga 0))] → W p l e rmX4_writeHomeRecord s m args below meth c H locs 0 0 Q (F0 m 58 ls []) := by
    intro u h
    unfold fX4_writeHomeRecord_j58 at h
    intro H locs hP hD hS ls hl
    refine lv_aload_n hx hb dX4_writeHomeRecord_58 rfl (lv_at hl 0 rfl) ?_
    refine gf_X4_33 S hK hN hP 0 rfl (v := .ref (ga 10)) rfl dX4_writeHomeRecord_59 ?_
    refine lv_aload_n hx hb dX4_writeHomeRecord_62 rfl (lv_at hl 0 rfl) ?_
    refine gf_X4_30 S hK hN hP 0 rfl (v := .ref (ga 8)) rfl dX4_writeHomeRecord_63 ?_
    obtain ⟨z3, e_z3, h⟩ := bnd h
    refine mjv (cc_X4_274 (ga 10) (ga 11) 63 (ga 8) (ga 9) 60 S hK hN (hP.sub [10, 11, 8, 9] rfl) (hD.sub [10, 11, 8, 9] (by decide) rfl) e_z3 hl.1 (Nat.le_of_ble_eq_true rfl) ⟨Nat.le_of_ble_eq_true rfl, Nat.le_of_ble_eq_true rfl⟩ dX4_writeHomeRecord_66 ⟨Nat.le_of_ble_eq_true rfl, Nat.le_of_ble_eq_true rfl⟩) hS hP hD hA [10, 11, 8, 9] [0, 1, 2, 3, 4, 5, 6, 7, 12] rfl rfl (by decide) (by decide) [0, 1, 2, 3, 4, 5, 6, 7, 11, 12, 9, 10, 8] (by decide) (wH cI sv ga (u.1, u.2.1, z3.2, z3.1, u.2.2.2.2)) rfl (fun H locs hP hD hS => ?_)
    refine lv_aload_n hx hb dX4_writeHomeRecord_69 rfl (lv_at hl 0 rfl) ?_
    refine gf_X4_33 S hK hN hP 0 rfl (v := .ref (ga 10)) rfl dX4_writeHomeRecord_70 ?_
    refine gf_X4_54 S hK hN hP 10 rfl (v := .int z3.1.1) rfl dX4_writeHomeRecord_73 ?_
    refine lv_istore_n (lv' := [(1, .int z3.1.1), (0, .ref (ga 0))]) hx hb dX4_writeHomeRecord_76 rfl hl (by decide) rfl (fun ls hl => ?_)
    obtain ⟨b4, e_b4, h⟩ := bnd h
    refine L77 _ _ _ e_b4 ?_ _ _ hP hD hS _ (lv_sub hl [1, 0] rfl)
    intro H locs hP hD hS ls hl
    exact retMv hQ S hr hlocks hK hN hP hD hS h dX4_writeHomeRecord_96
  refine lv_aload_n hx hb dX4_writeHomeRecord_0 rfl (lv_at hl 0 rfl) ?_
  refine gf_X4_33 S hK hN hP 0 rfl (v := .ref (ga 10)) rfl dX4_writeHomeRecord_1 ?_
  obtain ⟨z5, e_z5, h⟩ := bnd h
  refine mjv (cc_X4_58 (ga 10) (ga 11) 63 S hK hN (hP.sub [10, 11] rfl) (hD.sub [10, 11] (by decide) rfl) e_z5 hl.1 (Nat.le_of_ble_eq_true rfl) ⟨Nat.le_of_ble_eq_true rfl, Nat.le_of_ble_eq_true rfl⟩ dX4_writeHomeRecord_4 ⟨Nat.le_of_ble_eq_true rfl, Nat.le_of_ble_eq_true rfl⟩) hS hP hD hA [10, 11] [0, 1, 2, 3, 4, 5, 6, 7, 8, 9, 12] rfl rfl (by decide) (by decide) [0, 1, 2, 3, 4, 5, 6, 7, 8, 9, 11, 12, 10] (by decide) (wH cI sv ga (u.1, u.2.1, u.2.2.1, z5, u.2.2.2.2)) rfl (fun H locs hP hD hS => ?_)
  refine lv_aload_n hx hb dX4_writeHomeRecord_7 rfl (lv_at hl 0 rfl) ?_
  refine gf_X4_30 S hK hN hP 0 rfl (v := .ref (ga 8)) rfl dX4_writeHomeRecord_8 ?_
  refine gf_X4_54 S hK hN hP 8 rfl (v := .int u.2.2.1.1) rfl dX4_writeHomeRecord_11 ?_
  refine lv_if_ne (tgt := 28) hx hb dX4_writeHomeRecord_14 (by decide) (fun c6 => ?_) (fun c6 => ?_)
  · have h := (if_neg c6).symm.trans h
    refine lv_aload_n hx hb dX4_writeHomeRecord_28 rfl (lv_at hl 0 rfl) ?_
    refine gf_X4_30 S hK hN hP 0 rfl (v := .ref (ga 8)) rfl dX4_writeHomeRecord_29 ?_
    refine gf_X4_54 S hK hN hP 8 rfl (v := .int u.2.2.1.1) rfl dX4_writeHomeRecord_32 ?_
    refine lv_iconst (v := 1) hx hb dX4_writeHomeRecord_35 (by decide) ?_
    refine lv_icmp_ne (tgt := 50) hx hb dX4_writeHomeRecord_36 (by decide) (fun c7 => ?_) (fun c7 => ?_)
    · have h := (if_neg c7).symm.trans h
      refine lv_aload_n hx hb dX4_writeHomeRecord_50 rfl (lv_at hl 0 rfl) ?_
      refine gf_X4_33 S hK hN hP 0 rfl (v := .ref (ga 10)) rfl dX4_writeHomeRecord_51 ?_
      refine lv_iconst (v := 1) hx hb dX4_writeHomeRecord_54 (by decide) ?_
      obtain ⟨z8, e_z8, h⟩ := bnd h
      refine mjv (cc_X4_75 (ga 10) (ga 11) 63 S hK hN (hP.sub [10, 11] rfl) (hD.sub [10, 11] (by decide) rfl) e_z8 hl.1 (Nat.le_of_ble_eq_true rfl) ⟨Nat.le_of_ble_eq_true rfl, Nat.le_of_ble_eq_true rfl⟩ dX4_writeHomeRecord_55 ⟨Nat.le_of_ble_eq_true rfl, Nat.le_of_ble_eq_true rfl⟩) hS hP hD hA [10, 11] [0, 1, 2, 3, 4, 5, 6, 7, 8, 9, 12] rfl rfl (by decide) (by decide) [0, 1, 2, 3, 4, 5, 6, 7, 8, 9, 11, 12, 10] (by decide) (wH cI sv ga (u.1, u.2.1, u.2.2.1, z8, u.2.2.2.2)) rfl (fun H locs hP hD hS => ?_)
      exact J58 (u.1, u.2.1, u.2.2.1, z8, u.2.2.2.2) h _ _ hP hD hS _ (lv_sub hl [0] rfl)
    · have h := (if_pos c7).symm.trans h
      refine lv_aload_n hx hb dX4_writeHomeRecord_39 rfl (lv_at hl 0 rfl) ?_
      refine gf_X4_33 S hK hN hP 0 rfl (v := .ref (ga 10)) rfl dX4_writeHomeRecord_40 ?_
      refine lv_iconst (v := 5) hx hb dX4_writeHomeRecord_43 (by decide) ?_
      obtain ⟨z9, e_z9, h⟩ := bnd h
      refine mjv (cc_X4_75 (ga 10) (ga 11) 63 S hK hN (hP.sub [10, 11] rfl) (hD.sub [10, 11] (by decide) rfl) e_z9 hl.1 (Nat.le_of_ble_eq_true rfl) ⟨Nat.le_of_ble_eq_true rfl, Nat.le_of_ble_eq_true rfl⟩ dX4_writeHomeRecord_44 ⟨Nat.le_of_ble_eq_true rfl, Nat.le_of_ble_eq_true rfl⟩) hS hP hD hA [10, 11] [0, 1, 2, 3, 4, 5, 6, 7, 8, 9, 12] rfl rfl (by decide) (by decide) [0, 1, 2, 3, 4, 5, 6, 7, 8, 9, 11, 12, 10] (by decide) (wH cI sv ga (u.1, u.2.1, u.2.2.1, z9, u.2.2.2.2)) rfl (fun H locs hP hD hS => ?_)
      refine lv_goto (tgt := 58) hx hb dX4_writeHomeRecord_47 (by decide) ?_
      exact J58 (u.1, u.2.1, u.2.2.1, z9, u.2.2.2.2) h _ _ hP hD hS _ (lv_sub hl [0] rfl)
  · have h := (if_pos c6).symm.trans h
    refine lv_aload_n hx hb dX4_writeHomeRecord_17 rfl (lv_at hl 0 rfl) ?_
    refine gf_X4_33 S hK hN hP 0 rfl (v := .ref (ga 10)) rfl dX4_writeHomeRecord_18 ?_
    refine lv_iconst (v := 4) hx hb dX4_writeHomeRecord_21 (by decide) ?_
    obtain ⟨z10, e_z10, h⟩ := bnd h
    refine mjv (cc_X4_75 (ga 10) (ga 11) 63 S hK hN (hP.sub [10, 11] rfl) (hD.sub [10, 11] (by decide) rfl) e_z10 hl.1 (Nat.le_of_ble_eq_true rfl) ⟨Nat.le_of_ble_eq_true rfl, Nat.le_of_ble_eq_true rfl⟩ dX4_writeHomeRecord_22 ⟨Nat.le_of_ble_eq_true rfl, Nat.le_of_ble_eq_true rfl⟩) hS hP hD hA [10, 11] [0, 1, 2, 3, 4, 5, 6, 7, 8, 9, 12] rfl rfl (by decide) (by decide) [0, 1, 2, 3, 4, 5, 6, 7, 8, 9, 11, 12, 10] (by decide) (wH cI sv ga (u.1, u.2.1, u.2.2.1, z10, u.2.2.2.2)) rfl (fun H locs hP hD hS => ?_)
    refine lv_goto (tgt := 58) hx hb dX4_writeHomeRecord_25 (by decide) ?_
    exact J58 (u.1, u.2.1, u.2.2.1, z10, u.2.2.2.2) h _ _ hP hD hS _ (lv_sub hl [0] rfl)

theorem cc_X4_149 {p : Program} {l : Launch} {e : Env} {R : Room} {s : State} {m : MethodId} {args : Array Value} {below : List Frame} {meth : Method} {c : Code} {H : Heap} {locs : List Loc} {cells slots : Nat} {cc : ByteArray} {pc nL : Nat} {ls : Array Slot} {rest : List Value} {G : va_G}  {cI cS : ClassId}  {p0 : Int32} {p1 : Int32} {r : Int32} (S : CallFix p m c cc nL s args bw RX4) (hK : va_K G vwCl (tysW cI cS) s) (hN : NW s) (hP : va_P G vwCl wE H) (hf : fX4_placeAt p0 p1 = some r) (hsz : ls.size = nL) (hst : (rest.map fun v => v.category).sum ≤ 8) (hR : rmX4_placeAt.frames + 1 ≤ R.frames ∧ 8 + (2 + 11) + rmX4_placeAt.locals ≤ R.locals) (hdg : decode cc pc = .ok (.invokestatic 149, 3)) (hcs : cells + 0 ≤ R.cells ∧ slots + 0 ≤ R.slots) : va_Run p l e R s m args below meth c H locs cells slots 0 0 (F0 m pc ls (.int p1 :: .int p0 :: rest)) rest (vp_Si (fun r' => r' = r) (#[.int p0, .int p1] : Array Value)) (fun _ => False) :=
  va_runS (As := [.int p0, .int p1]) (rest := rest) S (kX4_placeAt l G cI cS p0 p1 r hf) (cwS 2 S.2.2.2.2 (gdS q_158 q_159 q_49 q_152) rfl rfl rfl (by decide +kernel) hR) (psR hK hN hP) rfl rfl hsz rfl (lv_room hst) hdg hcs
theorem cc_X4_194 {p : Program} {l : Launch} {e : Env} {R : Room} {s : State} {m : MethodId} {args : Array Value} {below : List Frame} {meth : Method} {c : Code} {H : Heap} {locs : List Loc} {cells slots : Nat} {cc : ByteArray} {pc nL : Nat} {ls : Array Slot} {rest : List Value} {G : va_G} (g0 g1 g2 g3 g4 : Nat) {cI cS : ClassId} {u : TP}  {p0 : Int32} {r : Int32} (S : CallFix p m c cc nL s args bw RX4) (hK : va_K G vwCl (tysW cI cS) s) (hN : NW s) (hP : va_P G vwCl (wP cI g0 g1 g2 g3 g4 u) H) (hf : fX2_slotToUse u p0 = some r) (hsz : ls.size = nL) (hst : (rest.map fun v => v.category).sum ≤ 8) (hR : rmX2_slotToUse.frames + 1 ≤ R.frames ∧ 8 + (4 + 11) + rmX2_slotToUse.locals ≤ R.locals) (hdg : decode cc pc = .ok (.invokevirtual 194, 3)) (hcs : cells + 0 ≤ R.cells ∧ slots + 0 ≤ R.slots) : va_Run p l e R s m args below meth c H locs cells slots 0 0 (F0 m pc ls (.int p0 :: .ref g0 :: rest)) rest (vp_Si (fun r' => r' = r) (#[.ref g0, .int p0] : Array Value)) (fun _ => False) :=
  va_runVN (As := [.int p0]) (rest := rest) S (kX2_slotToUse l G cI cS g0 g1 g2 g3 g4 u p0 r hf) ⟨va_cnB 1 S.2.2.2.2 (gdC q_61) rfl rfl rfl (hN _ nq_22) (S.2.2.2.2 _ q_56) (by decide +kernel) hR, S.2.2.2.2 _ q_64, S.2.2.2.2 _ q_65⟩ (pvR (q := (RX2, TX2, 2)) hK hN hP (ci := 2) (q0 := 0) rfl rfl) rfl rfl hsz rfl (lv_room hst) hdg hcs
theorem cc_X4_281 {p : Program} {l : Launch} {e : Env} {R : Room} {s : State} {m : MethodId} {args : Array Value} {below : List Frame} {meth : Method} {c : Code} {H : Heap} {locs : List Loc} {cells slots : Nat} {cc : ByteArray} {pc nL : Nat} {ls : Array Slot} {rest : List Value} {G : va_G} {A : Nat → Prop} (g0 g1 g2 g3 g4 : Nat) {cI cS : ClassId} {u : TP}  {p0 : Int32} {r : TP} (S : CallFix p m c cc nL s args bw RX4) (hK : va_K G vwCl (tysW cI cS) s) (hN : NW s) (hP : va_P G vwCl (wP cI g0 g1 g2 g3 g4 u) H) (hD : va_D A (wP cI g0 g1 g2 g3 g4 u)) (hf : fX2_openIfNew u p0 = some r) (hsz : ls.size = nL) (hst : (rest.map fun v => v.category).sum ≤ 8) (hR : rmX2_openIfNew.frames + 1 ≤ R.frames ∧ 8 + (2 + 11) + rmX2_openIfNew.locals ≤ R.locals) (hdg : decode cc pc = .ok (.invokevirtual 281, 3)) (hcs : cells + 0 ≤ R.cells ∧ slots + 0 ≤ R.slots) : va_Run p l e R s m args below meth c H locs cells slots 0 0 (F0 m pc ls (.int p0 :: .ref g0 :: rest)) rest (va_Qv (fun u' => u' = r) (PoM G (tysW cI cS) (va_A (wP cI g0 g1 g2 g3 g4 u) H.size) (wP cI g0 g1 g2 g3 g4)) (va_A (wP cI g0 g1 g2 g3 g4 u) H.size) (#[.ref g0, .int p0] : Array Value)) (va_A (wP cI g0 g1 g2 g3 g4 u) H.size) :=
  va_runVN (As := [.int p0]) (rest := rest) S (kX2_openIfNew l G cI cS g0 g1 g2 g3 g4 H.size u p0 r hf) ⟨va_cnB 1 S.2.2.2.2 (gdC q_71) rfl rfl rfl (hN _ nq_33) (S.2.2.2.2 _ q_56) (by decide +kernel) hR, S.2.2.2.2 _ q_156, S.2.2.2.2 _ q_157⟩ (pvM (q := (RX2, TX2, 2)) hK hN hP hD (ci := 2) (q0 := 0) rfl rfl) rfl rfl hsz rfl (lv_room hst) hdg hcs
theorem cc_X4_284 {p : Program} {l : Launch} {e : Env} {R : Room} {s : State} {m : MethodId} {args : Array Value} {below : List Frame} {meth : Method} {c : Code} {H : Heap} {locs : List Loc} {cells slots : Nat} {cc : ByteArray} {pc nL : Nat} {ls : Array Slot} {rest : List Value} {G : va_G} {A : Nat → Prop} (sv : Nat) (ga : Nat → Nat) {cI cS : ClassId} {u : TH}  {r : TH} (S : CallFix p m c cc nL s args bw RX4) (hK : va_K G vwCl (tysW cI cS) s) (hN : NW s) (hP : va_P G vwCl (wH cI sv ga u) H) (hD : va_D A (wH cI sv ga u)) (hf : fX4_writeHomeRecord u = some r) (hsz : ls.size = nL) (hst : (rest.map fun v => v.category).sum ≤ 8) (hR : rmX4_writeHomeRecord.frames + 1 ≤ R.frames ∧ 8 + (2 + 11) + rmX4_writeHomeRecord.locals ≤ R.locals) (hdg : decode cc pc = .ok (.invokevirtual 284, 3)) (hcs : cells + 0 ≤ R.cells ∧ slots + 0 ≤ R.slots) : va_Run p l e R s m args below meth c H locs cells slots 0 0 (F0 m pc ls (.ref (ga 0) :: rest)) rest (va_Qv (fun u' => u' = r) (PoM G (tysW cI cS) (va_A (wH cI sv ga u) H.size) (wH cI sv ga)) (va_A (wH cI sv ga u) H.size) (#[.ref (ga 0)] : Array Value)) (va_A (wH cI sv ga u) H.size) :=
  va_runV (As := []) (rest := rest) S (kX4_writeHomeRecord l G cI cS sv ga H.size u r hf) (cwV 0 S.2.2.2.2 (gdV q_160 q_161 q_162 q_49 q_153) rfl rfl rfl (by decide +kernel) hR) (pvM (q := (RX4, TX4, 8)) hK hN hP hD (ci := 4) (q0 := 0) rfl rfl) rfl rfl hsz rfl (lv_room hst) hdg hcs
theorem cc_X4_287 {p : Program} {l : Launch} {e : Env} {R : Room} {s : State} {m : MethodId} {args : Array Value} {below : List Frame} {meth : Method} {c : Code} {H : Heap} {locs : List Loc} {cells slots : Nat} {cc : ByteArray} {pc nL : Nat} {ls : Array Slot} {rest : List Value} {G : va_G} {A : Nat → Prop} (g0 g1 g2 g3 g4 g5 g6 n : Nat) {cI cS : ClassId} {u : TP × TB}  {p0 : Int32} {r : TP × TB} (S : CallFix p m c cc nL s args bw RX4) (hK : va_K G vwCl (tysW cI cS) s) (hN : NW s) (hP : va_P G vwCl (wPB cI g0 g1 g2 g3 g4 g5 g6 n u) H) (hD : va_D A (wPB cI g0 g1 g2 g3 g4 g5 g6 n u)) (hf : fX2_putRecord n u p0 = some r) (hsz : ls.size = nL) (hst : (rest.map fun v => v.category).sum ≤ 8) (hR : rmX2_putRecord.frames + 1 ≤ R.frames ∧ 8 + (8 + 11) + rmX2_putRecord.locals ≤ R.locals) (hdg : decode cc pc = .ok (.invokevirtual 287, 3)) (hcs : cells + 0 ≤ R.cells ∧ slots + 0 ≤ R.slots) : va_Run p l e R s m args below meth c H locs cells slots 0 0 (F0 m pc ls (.ref g5 :: .int p0 :: .ref g0 :: rest)) rest (va_Qv (fun u' => u' = r) (PoM G (tysW cI cS) (va_A (wPB cI g0 g1 g2 g3 g4 g5 g6 n u) H.size) (wPB cI g0 g1 g2 g3 g4 g5 g6 n)) (va_A (wPB cI g0 g1 g2 g3 g4 g5 g6 n u) H.size) (#[.ref g0, .int p0, .ref g5] : Array Value)) (va_A (wPB cI g0 g1 g2 g3 g4 g5 g6 n u) H.size) :=
  va_runVN (As := [.int p0, .ref g5]) (rest := rest) S (kX2_putRecord l G cI cS g0 g1 g2 g3 g4 g5 g6 n H.size u p0 r hf) ⟨va_cnB 2 S.2.2.2.2 (gdC q_98) rfl rfl rfl (hN _ nq_36) (S.2.2.2.2 _ q_56) (by decide +kernel) hR, S.2.2.2.2 _ q_163, S.2.2.2.2 _ q_164⟩ (pvM (q := (RX2, TX2, 2)) hK hN hP hD (ci := 2) (q0 := 0) rfl rfl) rfl rfl hsz rfl (lv_room hst) hdg hcs
theorem gf_X4_12 {p : Program} {l : Launch} {e : Env} {R : Room} {s : State} {m : MethodId} {args : Array Value} {below : List Frame} {meth : Method} {c : Code} {H : Heap} {locs : List Loc} {cells slots : Nat} {cc : ByteArray} {pc nL : Nat} {ls : Array Slot} {rest : List Value} {G : va_G} {Q : State → Prop} {tys : List (ClassId × FieldType)} {ws : va_W} {a : Nat} (S : CallFix p m c cc nL s args bw RX4) (hK : va_K G vwCl tys s) (hN : NW s) (hP : va_P G vwCl ws H) (q0 : Nat) {fs : List Value} (he : ws[q0]? = some (a, .inr (4, fs))) {v : Value} (hv : fs[0]? = some v) (hdg : decode cc pc = .ok (.getfield 12, 3)) (kk : W p l e R s m args below meth c H locs cells slots Q (F0 m (pc + 3) ls (v :: rest))) : W p l e R s m args below meth c H locs cells slots Q (F0 m pc ls (.ref a :: rest)) :=
  va_get (C := RX4) (T := TX4) (N := 8) S.1 S.2.1 S.2.2.2.2 bi_U4 S.2.2.2.1 hK hP q0 he rfl 0 (by decide) (S.2.2.2.2 _ q_117) (fun _ h9 => h9) hv hdg kk
def fX4_insertContent (u : TH) (p0 : Int32) : Option (Int32 × TH) := ((fX2_openIfNew u.1 p0).bind fun z1 => ((fX2_slotToUse z1 p0).bind fun z2 => ((fX4_placeAt p0 z2).bind fun z3 => ((fX4_writeHomeRecord (z1, u.2)).bind fun z4 => ((fX2_putRecord 63 (z4.1, z4.2.2.2.1) z3).bind fun z5 => some (z3, z5.1, z4.2.1, z4.2.2.1, z5.2, z4.2.2.2.2))))))
abbrev rmX4_insertContent : Room := { frames := 3, cells := 0, slots := 0, locals := 94 }
set_option maxRecDepth 100000 in
set_option maxHeartbeats 4000000 in
theorem kX4_insertContent (l : Launch) (G : va_G) (cI cS : ClassId) (sv : Nat) (ga : Nat → Nat) (sz : Nat) (u : TH) (p0 : Int32) (r : Int32 × TH) (hf : fX4_insertContent u p0 = some r) : Met l yX4_insertContent (.code yX4_insertContent cX4_insertContent 3 (some .int) :: bw) rmX4_insertContent (va_Pc [.ref (ga 0), .int p0] (PreM G (tysW cI cS) (wH cI sv ga u) sz)) (va_Qi (fun r' u' => (r', u') = r) (PoM G (tysW cI cS) (va_A (wH cI sv ga u) sz) (wH cI sv ga)) (va_A (wH cI sv ga u) sz)) 0 0 (va_A (wH cI sv ga u) sz) := by
  refine enterM (own := RX4) (by decide) rfl (Nat.le_of_ble_eq_true rfl) ?_
  intro p e s m args below meth c A Q hAe hQ S hr hlocks hP hK hN hD hA hS ls hl
  rw [hAe] at hQ
  have hx := S.1; have hb := S.2.1; have hml := S.2.2.1; have hown := S.2.2.2.1; have hq := S.2.2.2.2
  have hl : lv_has ls 3 [(0, .ref (ga 0)), (1, .int p0)] := hl
  have h := hf
  unfold fX4_insertContent at h
  refine lv_aload_n hx hb dX4_insertContent_0 rfl (lv_at hl 0 rfl) ?_
  refine gf_X4_12 S hK hN hP 0 rfl (v := .ref (ga 1)) rfl dX4_insertContent_1 ?_
  refine lv_iload_n hx hb dX4_insertContent_4 rfl (lv_at hl 1 rfl) ?_
  obtain ⟨z1, e_z1, h⟩ := bnd h
  refine mjv (cc_X4_281 (ga 1) (ga 2) (ga 3) (ga 4) (ga 5) S hK hN (hP.sub [1, 2, 3, 4, 5] rfl) (hD.sub [1, 2, 3, 4, 5] (by decide) rfl) e_z1 hl.1 (Nat.le_of_ble_eq_true rfl) ⟨Nat.le_of_ble_eq_true rfl, Nat.le_of_ble_eq_true rfl⟩ dX4_insertContent_5 ⟨Nat.le_of_ble_eq_true rfl, Nat.le_of_ble_eq_true rfl⟩) hS hP hD hA [1, 2, 3, 4, 5] [0, 6, 7, 8, 9, 10, 11, 12] rfl rfl (by decide) (by decide) [0, 8, 9, 10, 11, 12, 1, 2, 3, 4, 5, 6, 7] (by decide) (wH cI sv ga (z1, u.2)) rfl (fun H locs hP hD hS => ?_)
  refine lv_iload_n hx hb dX4_insertContent_8 rfl (lv_at hl 1 rfl) ?_
  refine lv_aload_n hx hb dX4_insertContent_9 rfl (lv_at hl 0 rfl) ?_
  refine gf_X4_12 S hK hN hP 0 rfl (v := .ref (ga 1)) rfl dX4_insertContent_10 ?_
  refine lv_iload_n hx hb dX4_insertContent_13 rfl (lv_at hl 1 rfl) ?_
  obtain ⟨z2, e_z2, h⟩ := bnd h
  refine roI (cc_X4_194 (ga 1) (ga 2) (ga 3) (ga 4) (ga 5) S hK hN (hP.sub [1, 2, 3, 4, 5] rfl) e_z2 hl.1 (Nat.le_of_ble_eq_true rfl) ⟨Nat.le_of_ble_eq_true rfl, Nat.le_of_ble_eq_true rfl⟩ dX4_insertContent_14 ⟨Nat.le_of_ble_eq_true rfl, Nat.le_of_ble_eq_true rfl⟩) ?_
  obtain ⟨z3, e_z3, h⟩ := bnd h
  refine roI (cc_X4_149 S hK hN va_P0 e_z3 hl.1 (Nat.le_of_ble_eq_true rfl) ⟨Nat.le_of_ble_eq_true rfl, Nat.le_of_ble_eq_true rfl⟩ dX4_insertContent_17 ⟨Nat.le_of_ble_eq_true rfl, Nat.le_of_ble_eq_true rfl⟩) ?_
  refine lv_istore_n (lv' := [(2, .int z3), (0, .ref (ga 0)), (1, .int p0)]) hx hb dX4_insertContent_20 rfl hl (by decide) rfl (fun ls hl => ?_)
  refine lv_aload_n hx hb dX4_insertContent_21 rfl (lv_at hl 1 rfl) ?_
  obtain ⟨z4, e_z4, h⟩ := bnd h
  refine muv (cc_X4_284 sv ga S hK hN hP hD e_z4 hl.1 (Nat.le_of_ble_eq_true rfl) ⟨Nat.le_of_ble_eq_true rfl, Nat.le_of_ble_eq_true rfl⟩ dX4_insertContent_22 ⟨Nat.le_of_ble_eq_true rfl, Nat.le_of_ble_eq_true rfl⟩) hS hD (va_free hD hS hA [0, 1, 2, 3, 4, 5, 6, 7, 8, 9, 10, 11, 12] rfl) (fun H locs hP hD hS => ?_)
  have hP : va_P G vwCl (wH cI sv ga z4) H := hP
  have hD : va_D A (wH cI sv ga z4) := hD
  refine lv_aload_n hx hb dX4_insertContent_25 rfl (lv_at hl 1 rfl) ?_
  refine gf_X4_12 S hK hN hP 0 rfl (v := .ref (ga 1)) rfl dX4_insertContent_26 ?_
  refine lv_iload_n hx hb dX4_insertContent_29 rfl (lv_at hl 0 rfl) ?_
  refine lv_aload_n hx hb dX4_insertContent_30 rfl (lv_at hl 1 rfl) ?_
  refine gf_X4_33 S hK hN hP 0 rfl (v := .ref (ga 10)) rfl dX4_insertContent_31 ?_
  obtain ⟨z5, e_z5, h⟩ := bnd h
  refine mjv (cc_X4_287 (ga 1) (ga 2) (ga 3) (ga 4) (ga 5) (ga 10) (ga 11) 63 S hK hN (hP.sub [1, 2, 3, 4, 5, 10, 11] rfl) (hD.sub [1, 2, 3, 4, 5, 10, 11] (by decide) rfl) e_z5 hl.1 (Nat.le_of_ble_eq_true rfl) ⟨Nat.le_of_ble_eq_true rfl, Nat.le_of_ble_eq_true rfl⟩ dX4_insertContent_34 ⟨Nat.le_of_ble_eq_true rfl, Nat.le_of_ble_eq_true rfl⟩) hS hP hD hA [1, 2, 3, 4, 5, 10, 11] [0, 6, 7, 8, 9, 12] rfl rfl (by decide) (by decide) [0, 6, 7, 8, 9, 10, 1, 2, 3, 4, 11, 12, 5] (by decide) (wH cI sv ga (z5.1, z4.2.1, z4.2.2.1, z5.2, z4.2.2.2.2)) rfl (fun H locs hP hD hS => ?_)
  refine lv_iload_n hx hb dX4_insertContent_37 rfl (lv_at hl 0 rfl) ?_
  exact retMi hQ S hr hlocks hK hN hP hD hS h dX4_insertContent_38

theorem gf_X4_231 {p : Program} {l : Launch} {e : Env} {R : Room} {s : State} {m : MethodId} {args : Array Value} {below : List Frame} {meth : Method} {c : Code} {H : Heap} {locs : List Loc} {cells slots : Nat} {cc : ByteArray} {pc nL : Nat} {ls : Array Slot} {rest : List Value} {G : va_G} {Q : State → Prop} {tys : List (ClassId × FieldType)} {ws : va_W} {a : Nat} (S : CallFix p m c cc nL s args bw RX4) (hK : va_K G vwCl tys s) (hN : NW s) (hP : va_P G vwCl ws H) (q0 : Nat) {fs : List Value} (he : ws[q0]? = some (a, .inr (4, fs))) {v : Value} (hv : fs[7]? = some v) (hdg : decode cc pc = .ok (.getfield 231, 3)) (kk : W p l e R s m args below meth c H locs cells slots Q (F0 m (pc + 3) ls (v :: rest))) : W p l e R s m args below meth c H locs cells slots Q (F0 m pc ls (.ref a :: rest)) :=
  va_get (C := RX4) (T := TX4) (N := 8) S.1 S.2.1 S.2.2.2.2 bi_U4 S.2.2.2.1 hK hP q0 he rfl 7 (by decide) (S.2.2.2.2 _ q_145) (fun _ h9 => h9) hv hdg kk
theorem gf_X4_45 {p : Program} {l : Launch} {e : Env} {R : Room} {s : State} {m : MethodId} {args : Array Value} {below : List Frame} {meth : Method} {c : Code} {H : Heap} {locs : List Loc} {cells slots : Nat} {cc : ByteArray} {pc nL : Nat} {ls : Array Slot} {rest : List Value} {G : va_G} {Q : State → Prop} {tys : List (ClassId × FieldType)} {ws : va_W} {a : Nat} (S : CallFix p m c cc nL s args bw RX4) (hK : va_K G vwCl tys s) (hN : NW s) (hP : va_P G vwCl ws H) (q0 : Nat) {fs : List Value} (he : ws[q0]? = some (a, .inr (4, fs))) {v : Value} (hv : fs[6]? = some v) (hdg : decode cc pc = .ok (.getfield 45, 3)) (kk : W p l e R s m args below meth c H locs cells slots Q (F0 m (pc + 3) ls (v :: rest))) : W p l e R s m args below meth c H locs cells slots Q (F0 m pc ls (.ref a :: rest)) :=
  va_get (C := RX4) (T := TX4) (N := 8) S.1 S.2.1 S.2.2.2.2 bi_U4 S.2.2.2.1 hK hP q0 he rfl 6 (by decide) (S.2.2.2.2 _ q_128) (fun _ h9 => h9) hv hdg kk
theorem pf_X4_231 {p : Program} {l : Launch} {e : Env} {R : Room} {s : State} {m : MethodId} {args : Array Value} {below : List Frame} {meth : Method} {c : Code} {H : Heap} {locs : List Loc} {cells slots : Nat} {cc : ByteArray} {pc nL : Nat} {ls : Array Slot} {rest : List Value} {G : va_G} {Q : State → Prop} {tys : List (ClassId × FieldType)} {ws : va_W} {a : Nat} {A : Nat → Prop} {H0 : Heap} {x : Int32} (S : CallFix p m c cc nL s args bw RX4) (hK : va_K G vwCl tys s) (hN : NW s) (hP : va_P G vwCl ws H) (hD : va_D A ws) (hS : va_S A H0 H locs) (q0 : Nat) {fs : List Value} (he : ws[q0]? = some (a, .inr (4, fs))) (hl : 7 < fs.length) (hdg : decode cc pc = .ok (.putfield 231, 3)) (kk : ∀ (H1 : Heap) (locs1 : List Loc), va_P G vwCl (ws.set q0 (a, .inr (4, fs.set 7 (.int x)))) H1 → va_D A (ws.set q0 (a, .inr (4, fs.set 7 (.int x)))) → va_S A H0 H1 locs1 → W p l e R s m args below meth c H1 locs1 cells slots Q (F0 m (pc + 3) ls rest)) : W p l e R s m args below meth c H locs cells slots Q (F0 m pc ls (.int x :: .ref a :: rest)) :=
  va_put (ty := .int) (v := .int x) (C := RX4) (T := TX4) (N := 8) S.1 S.2.1 S.2.2.2.2 bi_U4 tyX4 tyX4_ok nmX4 S.2.2.2.1 hK hP hD hS q0 he rfl 7 (by decide) (S.2.2.2.2 _ q_145) (fun _ h9 => h9) rfl rfl rfl rfl hl hdg kk
def fX4_discardOldest (u : THS) : Option (THS) := some ((u.1.1, u.1.2.1, u.1.2.2.1, u.1.2.2.2.1, u.1.2.2.2.2.1, (u.1.2.2.2.2.2 - (1 : Int32))), (rot u.2.1), (rot u.2.2.1), (rot u.2.2.2))
abbrev rmX4_discardOldest : Room := { frames := 0, cells := 0, slots := 0, locals := 0 }
set_option maxRecDepth 100000 in
set_option maxHeartbeats 4000000 in
theorem kX4_discardOldest (l : Launch) (G : va_G) (cI cS : ClassId) (sv : Nat) (ga : Nat → Nat) (sz : Nat) (u : THS) (r : THS) (hf : fX4_discardOldest u = some r) : Met l yX4_discardOldest (.code yX4_discardOldest cX4_discardOldest 3 none :: bw) rmX4_discardOldest (va_Pc [.ref (ga 0)] (PreM G (tysW cI cS) (wHS cI cS sv ga u) sz)) (va_Qv (fun u' => u' = r) (PoM G (tysW cI cS) (va_A (wHS cI cS sv ga u) sz) (wHS cI cS sv ga)) (va_A (wHS cI cS sv ga u) sz)) 0 0 (va_A (wHS cI cS sv ga u) sz) := by
  refine enterM (own := RX4) (by decide) rfl (Nat.le_of_ble_eq_true rfl) ?_
  intro p e s m args below meth c A Q hAe hQ S hr hlocks hP hK hN hD hA hS ls hl
  rw [hAe] at hQ
  have hx := S.1; have hb := S.2.1; have hml := S.2.2.1; have hown := S.2.2.2.1; have hq := S.2.2.2.2
  have hl : lv_has ls 3 [(0, .ref (ga 0))] := hl
  have h := hf
  unfold fX4_discardOldest at h
  refine lv_iconst (v := 1) hx hb dX4_discardOldest_0 (by decide) ?_
  refine lv_istore_n (lv' := [(1, .int (1 : Int32)), (0, .ref (ga 0))]) hx hb dX4_discardOldest_1 rfl hl (by decide) rfl (fun ls hl => ?_)
  refine lv_iload_n hx hb dX4_discardOldest_2 rfl (lv_at hl 0 rfl) ?_
  refine lv_aload_n hx hb dX4_discardOldest_3 rfl (lv_at hl 1 rfl) ?_
  refine gf_X4_45 S hK hN hP 0 rfl (v := .ref sv) rfl dX4_discardOldest_4 ?_
  refine va_alen hx hb hK hP 13 1 rfl rfl (v := (6 : Int32)) rfl dX4_discardOldest_7 ?_
  refine lv_icmp_ge (tgt := 47) hx hb dX4_discardOldest_8 (by decide) (fun c9 => absurd c9 (by decide)) (fun _ => ?_)
  refine lv_aload_n hx hb dX4_discardOldest_11 rfl (lv_at hl 1 rfl) ?_
  refine gf_X4_45 S hK hN hP 0 rfl (v := .ref sv) rfl dX4_discardOldest_12 ?_
  refine lv_iload_n hx hb dX4_discardOldest_15 rfl (lv_at hl 0 rfl) ?_
  refine lv_iconst (v := 1) hx hb dX4_discardOldest_16 (by decide) ?_
  refine lv_isub hx hb dX4_discardOldest_17 ?_
  refine aaO (f := (fun i => some (u.2.2.1 i))) (v := (u.2.2.1 0)) (ki := 0) hx hb hK hP 13 1 rfl rfl (by decide) (by decide) rfl dX4_discardOldest_18 ?_
  refine lv_astore_n (lv' := [(2, .ref (u.2.2.1 0)), (1, .int (1 : Int32)), (0, .ref (ga 0))]) hx hb dX4_discardOldest_19 rfl hl (by decide) rfl (fun ls hl => ?_)
  refine lv_aload_n hx hb dX4_discardOldest_20 rfl (lv_at hl 2 rfl) ?_
  refine gf_X4_45 S hK hN hP 0 rfl (v := .ref sv) rfl dX4_discardOldest_21 ?_
  refine lv_iload_n hx hb dX4_discardOldest_24 rfl (lv_at hl 1 rfl) ?_
  refine lv_iconst (v := 1) hx hb dX4_discardOldest_25 (by decide) ?_
  refine lv_isub hx hb dX4_discardOldest_26 ?_
  refine lv_aload_n hx hb dX4_discardOldest_27 rfl (lv_at hl 2 rfl) ?_
  refine gf_X4_45 S hK hN hP 0 rfl (v := .ref sv) rfl dX4_discardOldest_28 ?_
  refine lv_iload_n hx hb dX4_discardOldest_31 rfl (lv_at hl 1 rfl) ?_
  refine aaO (f := (fun i => some (u.2.2.1 i))) (v := (u.2.2.1 1)) (ki := 1) hx hb hK hP 13 1 rfl rfl (by decide) (by decide) rfl dX4_discardOldest_32 ?_
  refine va_astq (ci := 3) (r := (RX3, TX3, 5)) hx hb hK hP hD hS 13 1 16 rfl rfl rfl rfl (vp_in_of_not (i := ((1 : Int32) - (1 : Int32))) (n := 6) (by decide)) dX4_discardOldest_33 (fun H locs hP hD hS => ?_)
  have hP : va_P G vwCl (wHSf cI cS sv ga u (va_up (fun i => some (u.2.2.1 i)) 0 (some (u.2.2.1 1)))) H := hP
  have hD : va_D A (wHSf cI cS sv ga u (va_up (fun i => some (u.2.2.1 i)) 0 (some (u.2.2.1 1)))) := hD
  refine lv_aload_n hx hb dX4_discardOldest_34 rfl (lv_at hl 2 rfl) ?_
  refine gf_X4_45 S hK hN hP 0 rfl (v := .ref sv) rfl dX4_discardOldest_35 ?_
  refine lv_iload_n hx hb dX4_discardOldest_38 rfl (lv_at hl 1 rfl) ?_
  refine lv_aload_n hx hb dX4_discardOldest_39 rfl (lv_at hl 0 rfl) ?_
  refine va_astq (ci := 3) (r := (RX3, TX3, 5)) hx hb hK hP hD hS 13 1 14 rfl rfl rfl rfl (vp_in_of_not (i := (1 : Int32)) (n := 6) (by decide)) dX4_discardOldest_40 (fun H locs hP hD hS => ?_)
  have hP : va_P G vwCl (wHSf cI cS sv ga u (va_up (va_up (fun i => some (u.2.2.1 i)) 0 (some (u.2.2.1 1))) 1 (some (u.2.2.1 0)))) H := hP
  have hD : va_D A (wHSf cI cS sv ga u (va_up (va_up (fun i => some (u.2.2.1 i)) 0 (some (u.2.2.1 1))) 1 (some (u.2.2.1 0)))) := hD
  refine lv_iinc (v := (2 : Int32)) (lv' := [(1, .int (2 : Int32)), (2, .ref (u.2.2.1 0)), (0, .ref (ga 0))]) hx hb dX4_discardOldest_41 hl (k := 1) rfl (by decide) (by decide) rfl (fun ls hl => ?_)
  refine lv_goto (tgt := 2) hx hb dX4_discardOldest_44 (by decide) ?_
  refine lv_iload_n hx hb dX4_discardOldest_2 rfl (lv_at hl 0 rfl) ?_
  refine lv_aload_n hx hb dX4_discardOldest_3 rfl (lv_at hl 2 rfl) ?_
  refine gf_X4_45 S hK hN hP 0 rfl (v := .ref sv) rfl dX4_discardOldest_4 ?_
  refine va_alen hx hb hK hP 13 1 rfl rfl (v := (6 : Int32)) rfl dX4_discardOldest_7 ?_
  refine lv_icmp_ge (tgt := 47) hx hb dX4_discardOldest_8 (by decide) (fun c9 => absurd c9 (by decide)) (fun _ => ?_)
  refine lv_aload_n hx hb dX4_discardOldest_11 rfl (lv_at hl 2 rfl) ?_
  refine gf_X4_45 S hK hN hP 0 rfl (v := .ref sv) rfl dX4_discardOldest_12 ?_
  refine lv_iload_n hx hb dX4_discardOldest_15 rfl (lv_at hl 0 rfl) ?_
  refine lv_iconst (v := 1) hx hb dX4_discardOldest_16 (by decide) ?_
  refine lv_isub hx hb dX4_discardOldest_17 ?_
  refine aaO (f := (va_up (va_up (fun i => some (u.2.2.1 i)) 0 (some (u.2.2.1 1))) 1 (some (u.2.2.1 0)))) (v := (u.2.2.1 0)) (ki := 1) hx hb hK hP 13 1 rfl rfl (by decide) (by decide) rfl dX4_discardOldest_18 ?_
  refine lv_astore_n (lv' := [(2, .ref (u.2.2.1 0)), (1, .int (2 : Int32)), (0, .ref (ga 0))]) hx hb dX4_discardOldest_19 rfl hl (by decide) rfl (fun ls hl => ?_)
  refine lv_aload_n hx hb dX4_discardOldest_20 rfl (lv_at hl 2 rfl) ?_
  refine gf_X4_45 S hK hN hP 0 rfl (v := .ref sv) rfl dX4_discardOldest_21 ?_
  refine lv_iload_n hx hb dX4_discardOldest_24 rfl (lv_at hl 1 rfl) ?_
  refine lv_iconst (v := 1) hx hb dX4_discardOldest_25 (by decide) ?_
  refine lv_isub hx hb dX4_discardOldest_26 ?_
  refine lv_aload_n hx hb dX4_discardOldest_27 rfl (lv_at hl 2 rfl) ?_
  refine gf_X4_45 S hK hN hP 0 rfl (v := .ref sv) rfl dX4_discardOldest_28 ?_
  refine lv_iload_n hx hb dX4_discardOldest_31 rfl (lv_at hl 1 rfl) ?_
  refine aaO (f := (va_up (va_up (fun i => some (u.2.2.1 i)) 0 (some (u.2.2.1 1))) 1 (some (u.2.2.1 0)))) (v := (u.2.2.1 2)) (ki := 2) hx hb hK hP 13 1 rfl rfl (by decide) (by decide) rfl dX4_discardOldest_32 ?_
  refine va_astq (ci := 3) (r := (RX3, TX3, 5)) hx hb hK hP hD hS 13 1 18 rfl rfl rfl rfl (vp_in_of_not (i := ((2 : Int32) - (1 : Int32))) (n := 6) (by decide)) dX4_discardOldest_33 (fun H locs hP hD hS => ?_)
  have hP : va_P G vwCl (wHSf cI cS sv ga u (va_up (va_up (va_up (fun i => some (u.2.2.1 i)) 0 (some (u.2.2.1 1))) 1 (some (u.2.2.1 0))) 1 (some (u.2.2.1 2)))) H := hP
  have hD : va_D A (wHSf cI cS sv ga u (va_up (va_up (va_up (fun i => some (u.2.2.1 i)) 0 (some (u.2.2.1 1))) 1 (some (u.2.2.1 0))) 1 (some (u.2.2.1 2)))) := hD
  refine lv_aload_n hx hb dX4_discardOldest_34 rfl (lv_at hl 2 rfl) ?_
  refine gf_X4_45 S hK hN hP 0 rfl (v := .ref sv) rfl dX4_discardOldest_35 ?_
  refine lv_iload_n hx hb dX4_discardOldest_38 rfl (lv_at hl 1 rfl) ?_
  refine lv_aload_n hx hb dX4_discardOldest_39 rfl (lv_at hl 0 rfl) ?_
  refine va_astq (ci := 3) (r := (RX3, TX3, 5)) hx hb hK hP hD hS 13 1 14 rfl rfl rfl rfl (vp_in_of_not (i := (2 : Int32)) (n := 6) (by decide)) dX4_discardOldest_40 (fun H locs hP hD hS => ?_)
  have hP : va_P G vwCl (wHSf cI cS sv ga u (va_up (va_up (va_up (va_up (fun i => some (u.2.2.1 i)) 0 (some (u.2.2.1 1))) 1 (some (u.2.2.1 0))) 1 (some (u.2.2.1 2))) 2 (some (u.2.2.1 0)))) H := hP
  have hD : va_D A (wHSf cI cS sv ga u (va_up (va_up (va_up (va_up (fun i => some (u.2.2.1 i)) 0 (some (u.2.2.1 1))) 1 (some (u.2.2.1 0))) 1 (some (u.2.2.1 2))) 2 (some (u.2.2.1 0)))) := hD
  refine lv_iinc (v := (3 : Int32)) (lv' := [(1, .int (3 : Int32)), (2, .ref (u.2.2.1 0)), (0, .ref (ga 0))]) hx hb dX4_discardOldest_41 hl (k := 1) rfl (by decide) (by decide) rfl (fun ls hl => ?_)
  refine lv_goto (tgt := 2) hx hb dX4_discardOldest_44 (by decide) ?_
  refine lv_iload_n hx hb dX4_discardOldest_2 rfl (lv_at hl 0 rfl) ?_
  refine lv_aload_n hx hb dX4_discardOldest_3 rfl (lv_at hl 2 rfl) ?_
  refine gf_X4_45 S hK hN hP 0 rfl (v := .ref sv) rfl dX4_discardOldest_4 ?_
  refine va_alen hx hb hK hP 13 1 rfl rfl (v := (6 : Int32)) rfl dX4_discardOldest_7 ?_
  refine lv_icmp_ge (tgt := 47) hx hb dX4_discardOldest_8 (by decide) (fun c9 => absurd c9 (by decide)) (fun _ => ?_)
  refine lv_aload_n hx hb dX4_discardOldest_11 rfl (lv_at hl 2 rfl) ?_
  refine gf_X4_45 S hK hN hP 0 rfl (v := .ref sv) rfl dX4_discardOldest_12 ?_
  refine lv_iload_n hx hb dX4_discardOldest_15 rfl (lv_at hl 0 rfl) ?_
  refine lv_iconst (v := 1) hx hb dX4_discardOldest_16 (by decide) ?_
  refine lv_isub hx hb dX4_discardOldest_17 ?_
  refine aaO (f := (va_up (va_up (va_up (va_up (fun i => some (u.2.2.1 i)) 0 (some (u.2.2.1 1))) 1 (some (u.2.2.1 0))) 1 (some (u.2.2.1 2))) 2 (some (u.2.2.1 0)))) (v := (u.2.2.1 0)) (ki := 2) hx hb hK hP 13 1 rfl rfl (by decide) (by decide) rfl dX4_discardOldest_18 ?_
  refine lv_astore_n (lv' := [(2, .ref (u.2.2.1 0)), (1, .int (3 : Int32)), (0, .ref (ga 0))]) hx hb dX4_discardOldest_19 rfl hl (by decide) rfl (fun ls hl => ?_)
  refine lv_aload_n hx hb dX4_discardOldest_20 rfl (lv_at hl 2 rfl) ?_
  refine gf_X4_45 S hK hN hP 0 rfl (v := .ref sv) rfl dX4_discardOldest_21 ?_
  refine lv_iload_n hx hb dX4_discardOldest_24 rfl (lv_at hl 1 rfl) ?_
  refine lv_iconst (v := 1) hx hb dX4_discardOldest_25 (by decide) ?_
  refine lv_isub hx hb dX4_discardOldest_26 ?_
  refine lv_aload_n hx hb dX4_discardOldest_27 rfl (lv_at hl 2 rfl) ?_
  refine gf_X4_45 S hK hN hP 0 rfl (v := .ref sv) rfl dX4_discardOldest_28 ?_
  refine lv_iload_n hx hb dX4_discardOldest_31 rfl (lv_at hl 1 rfl) ?_
  refine aaO (f := (va_up (va_up (va_up (va_up (fun i => some (u.2.2.1 i)) 0 (some (u.2.2.1 1))) 1 (some (u.2.2.1 0))) 1 (some (u.2.2.1 2))) 2 (some (u.2.2.1 0)))) (v := (u.2.2.1 3)) (ki := 3) hx hb hK hP 13 1 rfl rfl (by decide) (by decide) rfl dX4_discardOldest_32 ?_
  refine va_astq (ci := 3) (r := (RX3, TX3, 5)) hx hb hK hP hD hS 13 1 20 rfl rfl rfl rfl (vp_in_of_not (i := ((3 : Int32) - (1 : Int32))) (n := 6) (by decide)) dX4_discardOldest_33 (fun H locs hP hD hS => ?_)
  have hP : va_P G vwCl (wHSf cI cS sv ga u (va_up (va_up (va_up (va_up (va_up (fun i => some (u.2.2.1 i)) 0 (some (u.2.2.1 1))) 1 (some (u.2.2.1 0))) 1 (some (u.2.2.1 2))) 2 (some (u.2.2.1 0))) 2 (some (u.2.2.1 3)))) H := hP
  have hD : va_D A (wHSf cI cS sv ga u (va_up (va_up (va_up (va_up (va_up (fun i => some (u.2.2.1 i)) 0 (some (u.2.2.1 1))) 1 (some (u.2.2.1 0))) 1 (some (u.2.2.1 2))) 2 (some (u.2.2.1 0))) 2 (some (u.2.2.1 3)))) := hD
  refine lv_aload_n hx hb dX4_discardOldest_34 rfl (lv_at hl 2 rfl) ?_
  refine gf_X4_45 S hK hN hP 0 rfl (v := .ref sv) rfl dX4_discardOldest_35 ?_
  refine lv_iload_n hx hb dX4_discardOldest_38 rfl (lv_at hl 1 rfl) ?_
  refine lv_aload_n hx hb dX4_discardOldest_39 rfl (lv_at hl 0 rfl) ?_
  refine va_astq (ci := 3) (r := (RX3, TX3, 5)) hx hb hK hP hD hS 13 1 14 rfl rfl rfl rfl (vp_in_of_not (i := (3 : Int32)) (n := 6) (by decide)) dX4_discardOldest_40 (fun H locs hP hD hS => ?_)
  have hP : va_P G vwCl (wHSf cI cS sv ga u (va_up (va_up (va_up (va_up (va_up (va_up (fun i => some (u.2.2.1 i)) 0 (some (u.2.2.1 1))) 1 (some (u.2.2.1 0))) 1 (some (u.2.2.1 2))) 2 (some (u.2.2.1 0))) 2 (some (u.2.2.1 3))) 3 (some (u.2.2.1 0)))) H := hP
  have hD : va_D A (wHSf cI cS sv ga u (va_up (va_up (va_up (va_up (va_up (va_up (fun i => some (u.2.2.1 i)) 0 (some (u.2.2.1 1))) 1 (some (u.2.2.1 0))) 1 (some (u.2.2.1 2))) 2 (some (u.2.2.1 0))) 2 (some (u.2.2.1 3))) 3 (some (u.2.2.1 0)))) := hD
  refine lv_iinc (v := (4 : Int32)) (lv' := [(1, .int (4 : Int32)), (2, .ref (u.2.2.1 0)), (0, .ref (ga 0))]) hx hb dX4_discardOldest_41 hl (k := 1) rfl (by decide) (by decide) rfl (fun ls hl => ?_)
  refine lv_goto (tgt := 2) hx hb dX4_discardOldest_44 (by decide) ?_
  refine lv_iload_n hx hb dX4_discardOldest_2 rfl (lv_at hl 0 rfl) ?_
  refine lv_aload_n hx hb dX4_discardOldest_3 rfl (lv_at hl 2 rfl) ?_
  refine gf_X4_45 S hK hN hP 0 rfl (v := .ref sv) rfl dX4_discardOldest_4 ?_
  refine va_alen hx hb hK hP 13 1 rfl rfl (v := (6 : Int32)) rfl dX4_discardOldest_7 ?_
  refine lv_icmp_ge (tgt := 47) hx hb dX4_discardOldest_8 (by decide) (fun c9 => absurd c9 (by decide)) (fun _ => ?_)
  refine lv_aload_n hx hb dX4_discardOldest_11 rfl (lv_at hl 2 rfl) ?_
  refine gf_X4_45 S hK hN hP 0 rfl (v := .ref sv) rfl dX4_discardOldest_12 ?_
  refine lv_iload_n hx hb dX4_discardOldest_15 rfl (lv_at hl 0 rfl) ?_
  refine lv_iconst (v := 1) hx hb dX4_discardOldest_16 (by decide) ?_
  refine lv_isub hx hb dX4_discardOldest_17 ?_
  refine aaO (f := (va_up (va_up (va_up (va_up (va_up (va_up (fun i => some (u.2.2.1 i)) 0 (some (u.2.2.1 1))) 1 (some (u.2.2.1 0))) 1 (some (u.2.2.1 2))) 2 (some (u.2.2.1 0))) 2 (some (u.2.2.1 3))) 3 (some (u.2.2.1 0)))) (v := (u.2.2.1 0)) (ki := 3) hx hb hK hP 13 1 rfl rfl (by decide) (by decide) rfl dX4_discardOldest_18 ?_
  refine lv_astore_n (lv' := [(2, .ref (u.2.2.1 0)), (1, .int (4 : Int32)), (0, .ref (ga 0))]) hx hb dX4_discardOldest_19 rfl hl (by decide) rfl (fun ls hl => ?_)
  refine lv_aload_n hx hb dX4_discardOldest_20 rfl (lv_at hl 2 rfl) ?_
  refine gf_X4_45 S hK hN hP 0 rfl (v := .ref sv) rfl dX4_discardOldest_21 ?_
  refine lv_iload_n hx hb dX4_discardOldest_24 rfl (lv_at hl 1 rfl) ?_
  refine lv_iconst (v := 1) hx hb dX4_discardOldest_25 (by decide) ?_
  refine lv_isub hx hb dX4_discardOldest_26 ?_
  refine lv_aload_n hx hb dX4_discardOldest_27 rfl (lv_at hl 2 rfl) ?_
  refine gf_X4_45 S hK hN hP 0 rfl (v := .ref sv) rfl dX4_discardOldest_28 ?_
  refine lv_iload_n hx hb dX4_discardOldest_31 rfl (lv_at hl 1 rfl) ?_
  refine aaO (f := (va_up (va_up (va_up (va_up (va_up (va_up (fun i => some (u.2.2.1 i)) 0 (some (u.2.2.1 1))) 1 (some (u.2.2.1 0))) 1 (some (u.2.2.1 2))) 2 (some (u.2.2.1 0))) 2 (some (u.2.2.1 3))) 3 (some (u.2.2.1 0)))) (v := (u.2.2.1 4)) (ki := 4) hx hb hK hP 13 1 rfl rfl (by decide) (by decide) rfl dX4_discardOldest_32 ?_
  refine va_astq (ci := 3) (r := (RX3, TX3, 5)) hx hb hK hP hD hS 13 1 22 rfl rfl rfl rfl (vp_in_of_not (i := ((4 : Int32) - (1 : Int32))) (n := 6) (by decide)) dX4_discardOldest_33 (fun H locs hP hD hS => ?_)
  have hP : va_P G vwCl (wHSf cI cS sv ga u (va_up (va_up (va_up (va_up (va_up (va_up (va_up (fun i => some (u.2.2.1 i)) 0 (some (u.2.2.1 1))) 1 (some (u.2.2.1 0))) 1 (some (u.2.2.1 2))) 2 (some (u.2.2.1 0))) 2 (some (u.2.2.1 3))) 3 (some (u.2.2.1 0))) 3 (some (u.2.2.1 4)))) H := hP
  have hD : va_D A (wHSf cI cS sv ga u (va_up (va_up (va_up (va_up (va_up (va_up (va_up (fun i => some (u.2.2.1 i)) 0 (some (u.2.2.1 1))) 1 (some (u.2.2.1 0))) 1 (some (u.2.2.1 2))) 2 (some (u.2.2.1 0))) 2 (some (u.2.2.1 3))) 3 (some (u.2.2.1 0))) 3 (some (u.2.2.1 4)))) := hD
  refine lv_aload_n hx hb dX4_discardOldest_34 rfl (lv_at hl 2 rfl) ?_
  refine gf_X4_45 S hK hN hP 0 rfl (v := .ref sv) rfl dX4_discardOldest_35 ?_
  refine lv_iload_n hx hb dX4_discardOldest_38 rfl (lv_at hl 1 rfl) ?_
  refine lv_aload_n hx hb dX4_discardOldest_39 rfl (lv_at hl 0 rfl) ?_
  refine va_astq (ci := 3) (r := (RX3, TX3, 5)) hx hb hK hP hD hS 13 1 14 rfl rfl rfl rfl (vp_in_of_not (i := (4 : Int32)) (n := 6) (by decide)) dX4_discardOldest_40 (fun H locs hP hD hS => ?_)
  have hP : va_P G vwCl (wHSf cI cS sv ga u (va_up (va_up (va_up (va_up (va_up (va_up (va_up (va_up (fun i => some (u.2.2.1 i)) 0 (some (u.2.2.1 1))) 1 (some (u.2.2.1 0))) 1 (some (u.2.2.1 2))) 2 (some (u.2.2.1 0))) 2 (some (u.2.2.1 3))) 3 (some (u.2.2.1 0))) 3 (some (u.2.2.1 4))) 4 (some (u.2.2.1 0)))) H := hP
  have hD : va_D A (wHSf cI cS sv ga u (va_up (va_up (va_up (va_up (va_up (va_up (va_up (va_up (fun i => some (u.2.2.1 i)) 0 (some (u.2.2.1 1))) 1 (some (u.2.2.1 0))) 1 (some (u.2.2.1 2))) 2 (some (u.2.2.1 0))) 2 (some (u.2.2.1 3))) 3 (some (u.2.2.1 0))) 3 (some (u.2.2.1 4))) 4 (some (u.2.2.1 0)))) := hD
  refine lv_iinc (v := (5 : Int32)) (lv' := [(1, .int (5 : Int32)), (2, .ref (u.2.2.1 0)), (0, .ref (ga 0))]) hx hb dX4_discardOldest_41 hl (k := 1) rfl (by decide) (by decide) rfl (fun ls hl => ?_)
  refine lv_goto (tgt := 2) hx hb dX4_discardOldest_44 (by decide) ?_
  refine lv_iload_n hx hb dX4_discardOldest_2 rfl (lv_at hl 0 rfl) ?_
  refine lv_aload_n hx hb dX4_discardOldest_3 rfl (lv_at hl 2 rfl) ?_
  refine gf_X4_45 S hK hN hP 0 rfl (v := .ref sv) rfl dX4_discardOldest_4 ?_
  refine va_alen hx hb hK hP 13 1 rfl rfl (v := (6 : Int32)) rfl dX4_discardOldest_7 ?_
  refine lv_icmp_ge (tgt := 47) hx hb dX4_discardOldest_8 (by decide) (fun c9 => absurd c9 (by decide)) (fun _ => ?_)
  refine lv_aload_n hx hb dX4_discardOldest_11 rfl (lv_at hl 2 rfl) ?_
  refine gf_X4_45 S hK hN hP 0 rfl (v := .ref sv) rfl dX4_discardOldest_12 ?_
  refine lv_iload_n hx hb dX4_discardOldest_15 rfl (lv_at hl 0 rfl) ?_
  refine lv_iconst (v := 1) hx hb dX4_discardOldest_16 (by decide) ?_
  refine lv_isub hx hb dX4_discardOldest_17 ?_
  refine aaO (f := (va_up (va_up (va_up (va_up (va_up (va_up (va_up (va_up (fun i => some (u.2.2.1 i)) 0 (some (u.2.2.1 1))) 1 (some (u.2.2.1 0))) 1 (some (u.2.2.1 2))) 2 (some (u.2.2.1 0))) 2 (some (u.2.2.1 3))) 3 (some (u.2.2.1 0))) 3 (some (u.2.2.1 4))) 4 (some (u.2.2.1 0)))) (v := (u.2.2.1 0)) (ki := 4) hx hb hK hP 13 1 rfl rfl (by decide) (by decide) rfl dX4_discardOldest_18 ?_
  refine lv_astore_n (lv' := [(2, .ref (u.2.2.1 0)), (1, .int (5 : Int32)), (0, .ref (ga 0))]) hx hb dX4_discardOldest_19 rfl hl (by decide) rfl (fun ls hl => ?_)
  refine lv_aload_n hx hb dX4_discardOldest_20 rfl (lv_at hl 2 rfl) ?_
  refine gf_X4_45 S hK hN hP 0 rfl (v := .ref sv) rfl dX4_discardOldest_21 ?_
  refine lv_iload_n hx hb dX4_discardOldest_24 rfl (lv_at hl 1 rfl) ?_
  refine lv_iconst (v := 1) hx hb dX4_discardOldest_25 (by decide) ?_
  refine lv_isub hx hb dX4_discardOldest_26 ?_
  refine lv_aload_n hx hb dX4_discardOldest_27 rfl (lv_at hl 2 rfl) ?_
  refine gf_X4_45 S hK hN hP 0 rfl (v := .ref sv) rfl dX4_discardOldest_28 ?_
  refine lv_iload_n hx hb dX4_discardOldest_31 rfl (lv_at hl 1 rfl) ?_
  refine aaO (f := (va_up (va_up (va_up (va_up (va_up (va_up (va_up (va_up (fun i => some (u.2.2.1 i)) 0 (some (u.2.2.1 1))) 1 (some (u.2.2.1 0))) 1 (some (u.2.2.1 2))) 2 (some (u.2.2.1 0))) 2 (some (u.2.2.1 3))) 3 (some (u.2.2.1 0))) 3 (some (u.2.2.1 4))) 4 (some (u.2.2.1 0)))) (v := (u.2.2.1 5)) (ki := 5) hx hb hK hP 13 1 rfl rfl (by decide) (by decide) rfl dX4_discardOldest_32 ?_
  refine va_astq (ci := 3) (r := (RX3, TX3, 5)) hx hb hK hP hD hS 13 1 24 rfl rfl rfl rfl (vp_in_of_not (i := ((5 : Int32) - (1 : Int32))) (n := 6) (by decide)) dX4_discardOldest_33 (fun H locs hP hD hS => ?_)
  have hP : va_P G vwCl (wHSf cI cS sv ga u (va_up (va_up (va_up (va_up (va_up (va_up (va_up (va_up (va_up (fun i => some (u.2.2.1 i)) 0 (some (u.2.2.1 1))) 1 (some (u.2.2.1 0))) 1 (some (u.2.2.1 2))) 2 (some (u.2.2.1 0))) 2 (some (u.2.2.1 3))) 3 (some (u.2.2.1 0))) 3 (some (u.2.2.1 4))) 4 (some (u.2.2.1 0))) 4 (some (u.2.2.1 5)))) H := hP
  have hD : va_D A (wHSf cI cS sv ga u (va_up (va_up (va_up (va_up (va_up (va_up (va_up (va_up (va_up (fun i => some (u.2.2.1 i)) 0 (some (u.2.2.1 1))) 1 (some (u.2.2.1 0))) 1 (some (u.2.2.1 2))) 2 (some (u.2.2.1 0))) 2 (some (u.2.2.1 3))) 3 (some (u.2.2.1 0))) 3 (some (u.2.2.1 4))) 4 (some (u.2.2.1 0))) 4 (some (u.2.2.1 5)))) := hD
  refine lv_aload_n hx hb dX4_discardOldest_34 rfl (lv_at hl 2 rfl) ?_
  refine gf_X4_45 S hK hN hP 0 rfl (v := .ref sv) rfl dX4_discardOldest_35 ?_
  refine lv_iload_n hx hb dX4_discardOldest_38 rfl (lv_at hl 1 rfl) ?_
  refine lv_aload_n hx hb dX4_discardOldest_39 rfl (lv_at hl 0 rfl) ?_
  refine va_astq (ci := 3) (r := (RX3, TX3, 5)) hx hb hK hP hD hS 13 1 14 rfl rfl rfl rfl (vp_in_of_not (i := (5 : Int32)) (n := 6) (by decide)) dX4_discardOldest_40 (fun H locs hP hD hS => ?_)
  have hP : va_P G vwCl (wHSf cI cS sv ga u (va_up (va_up (va_up (va_up (va_up (va_up (va_up (va_up (va_up (va_up (fun i => some (u.2.2.1 i)) 0 (some (u.2.2.1 1))) 1 (some (u.2.2.1 0))) 1 (some (u.2.2.1 2))) 2 (some (u.2.2.1 0))) 2 (some (u.2.2.1 3))) 3 (some (u.2.2.1 0))) 3 (some (u.2.2.1 4))) 4 (some (u.2.2.1 0))) 4 (some (u.2.2.1 5))) 5 (some (u.2.2.1 0)))) H := hP
  have hD : va_D A (wHSf cI cS sv ga u (va_up (va_up (va_up (va_up (va_up (va_up (va_up (va_up (va_up (va_up (fun i => some (u.2.2.1 i)) 0 (some (u.2.2.1 1))) 1 (some (u.2.2.1 0))) 1 (some (u.2.2.1 2))) 2 (some (u.2.2.1 0))) 2 (some (u.2.2.1 3))) 3 (some (u.2.2.1 0))) 3 (some (u.2.2.1 4))) 4 (some (u.2.2.1 0))) 4 (some (u.2.2.1 5))) 5 (some (u.2.2.1 0)))) := hD
  refine lv_iinc (v := (6 : Int32)) (lv' := [(1, .int (6 : Int32)), (2, .ref (u.2.2.1 0)), (0, .ref (ga 0))]) hx hb dX4_discardOldest_41 hl (k := 1) rfl (by decide) (by decide) rfl (fun ls hl => ?_)
  refine lv_goto (tgt := 2) hx hb dX4_discardOldest_44 (by decide) ?_
  refine lv_iload_n hx hb dX4_discardOldest_2 rfl (lv_at hl 0 rfl) ?_
  refine lv_aload_n hx hb dX4_discardOldest_3 rfl (lv_at hl 2 rfl) ?_
  refine gf_X4_45 S hK hN hP 0 rfl (v := .ref sv) rfl dX4_discardOldest_4 ?_
  refine va_alen hx hb hK hP 13 1 rfl rfl (v := (6 : Int32)) rfl dX4_discardOldest_7 ?_
  refine lv_icmp_ge (tgt := 47) hx hb dX4_discardOldest_8 (by decide) (fun _ => ?_) (fun c9 => absurd (by decide) c9)
  refine lv_aload_n hx hb dX4_discardOldest_47 rfl (lv_at hl 2 rfl) ?_
  refine lv_dup hx hb dX4_discardOldest_48 rfl ?_
  refine gf_X4_231 S hK hN hP 0 rfl (v := .int u.1.2.2.2.2.2) rfl dX4_discardOldest_49 ?_
  refine lv_iconst (v := 1) hx hb dX4_discardOldest_52 (by decide) ?_
  refine lv_isub hx hb dX4_discardOldest_53 ?_
  refine pf_X4_231 S hK hN hP hD hS 0 rfl (Nat.le_of_ble_eq_true rfl) dX4_discardOldest_54 (fun H locs hP hD hS => ?_)
  have hP : va_P G vwCl (wHSf cI cS sv ga ((u.1.1, u.1.2.1, u.1.2.2.1, u.1.2.2.2.1, u.1.2.2.2.2.1, (u.1.2.2.2.2.2 - (1 : Int32))), u.2) (va_up (va_up (va_up (va_up (va_up (va_up (va_up (va_up (va_up (va_up (fun i => some (u.2.2.1 i)) 0 (some (u.2.2.1 1))) 1 (some (u.2.2.1 0))) 1 (some (u.2.2.1 2))) 2 (some (u.2.2.1 0))) 2 (some (u.2.2.1 3))) 3 (some (u.2.2.1 0))) 3 (some (u.2.2.1 4))) 4 (some (u.2.2.1 0))) 4 (some (u.2.2.1 5))) 5 (some (u.2.2.1 0)))) H := hP
  have hD : va_D A (wHSf cI cS sv ga ((u.1.1, u.1.2.1, u.1.2.2.1, u.1.2.2.2.1, u.1.2.2.2.2.1, (u.1.2.2.2.2.2 - (1 : Int32))), u.2) (va_up (va_up (va_up (va_up (va_up (va_up (va_up (va_up (va_up (va_up (fun i => some (u.2.2.1 i)) 0 (some (u.2.2.1 1))) 1 (some (u.2.2.1 0))) 1 (some (u.2.2.1 2))) 2 (some (u.2.2.1 0))) 2 (some (u.2.2.1 3))) 3 (some (u.2.2.1 0))) 3 (some (u.2.2.1 4))) 4 (some (u.2.2.1 0))) 4 (some (u.2.2.1 5))) 5 (some (u.2.2.1 0)))) := hD
  have hP : va_P G vwCl (wHSf cI cS sv ga ((u.1.1, u.1.2.1, u.1.2.2.1, u.1.2.2.2.1, u.1.2.2.2.2.1, (u.1.2.2.2.2.2 - (1 : Int32))), (rot u.2.1), (rot u.2.2.1), (rot u.2.2.2)) (va_up (va_up (va_up (va_up (va_up (va_up (va_up (va_up (va_up (va_up (fun i => some (u.2.2.1 i)) 0 (some (u.2.2.1 1))) 1 (some (u.2.2.1 0))) 1 (some (u.2.2.1 2))) 2 (some (u.2.2.1 0))) 2 (some (u.2.2.1 3))) 3 (some (u.2.2.1 0))) 3 (some (u.2.2.1 4))) 4 (some (u.2.2.1 0))) 4 (some (u.2.2.1 5))) 5 (some (u.2.2.1 0)))) H := hP.sub [0, 1, 2, 3, 4, 5, 6, 7, 8, 9, 10, 11, 12, 13, 16, 17, 18, 19, 20, 21, 22, 23, 24, 25, 14, 15] rfl
  have hD : va_D A (wHSf cI cS sv ga ((u.1.1, u.1.2.1, u.1.2.2.1, u.1.2.2.2.1, u.1.2.2.2.2.1, (u.1.2.2.2.2.2 - (1 : Int32))), (rot u.2.1), (rot u.2.2.1), (rot u.2.2.2)) (va_up (va_up (va_up (va_up (va_up (va_up (va_up (va_up (va_up (va_up (fun i => some (u.2.2.1 i)) 0 (some (u.2.2.1 1))) 1 (some (u.2.2.1 0))) 1 (some (u.2.2.1 2))) 2 (some (u.2.2.1 0))) 2 (some (u.2.2.1 3))) 3 (some (u.2.2.1 0))) 3 (some (u.2.2.1 4))) 4 (some (u.2.2.1 0))) 4 (some (u.2.2.1 5))) 5 (some (u.2.2.1 0)))) := hD.sub [0, 1, 2, 3, 4, 5, 6, 7, 8, 9, 10, 11, 12, 13, 16, 17, 18, 19, 20, 21, 22, 23, 24, 25, 14, 15] (by decide) rfl
  rw [rotF] at hP hD
  have hP : va_P G vwCl (wHS cI cS sv ga ((u.1.1, u.1.2.1, u.1.2.2.1, u.1.2.2.2.1, u.1.2.2.2.2.1, (u.1.2.2.2.2.2 - (1 : Int32))), (rot u.2.1), (rot u.2.2.1), (rot u.2.2.2))) H := hP
  have hD : va_D A (wHS cI cS sv ga ((u.1.1, u.1.2.1, u.1.2.2.1, u.1.2.2.2.1, u.1.2.2.2.2.1, (u.1.2.2.2.2.2 - (1 : Int32))), (rot u.2.1), (rot u.2.2.1), (rot u.2.2.2))) := hD
  exact retMv hQ S hr hlocks hK hN hP hD hS h dX4_discardOldest_57

theorem cc_X4_236 {p : Program} {l : Launch} {e : Env} {R : Room} {s : State} {m : MethodId} {args : Array Value} {below : List Frame} {meth : Method} {c : Code} {H : Heap} {locs : List Loc} {cells slots : Nat} {cc : ByteArray} {pc nL : Nat} {ls : Array Slot} {rest : List Value} {G : va_G} {A : Nat → Prop} (g0 g1 g2 g3 : Nat) {cI cS : ClassId} {u : TS × TS}  {r : TS × TS} (S : CallFix p m c cc nL s args bw RX4) (hK : va_K G vwCl (tysW cI cS) s) (hN : NW s) (hP : va_P G vwCl (wSS cI g0 g1 g2 g3 u) H) (hD : va_D A (wSS cI g0 g1 g2 g3 u)) (hf : fX3_copyFrom u = some r) (hsz : ls.size = nL) (hst : (rest.map fun v => v.category).sum ≤ 8) (hR : rmX3_copyFrom.frames + 1 ≤ R.frames ∧ 8 + (2 + 11) + rmX3_copyFrom.locals ≤ R.locals) (hdg : decode cc pc = .ok (.invokevirtual 236, 3)) (hcs : cells + 0 ≤ R.cells ∧ slots + 0 ≤ R.slots) : va_Run p l e R s m args below meth c H locs cells slots 0 0 (F0 m pc ls (.ref g2 :: .ref g0 :: rest)) rest (va_Qv (fun u' => u' = r) (PoM G (tysW cI cS) (va_A (wSS cI g0 g1 g2 g3 u) H.size) (wSS cI g0 g1 g2 g3)) (va_A (wSS cI g0 g1 g2 g3 u) H.size) (#[.ref g0, .ref g2] : Array Value)) (va_A (wSS cI g0 g1 g2 g3 u) H.size) :=
  va_runVN (As := [.ref g2]) (rest := rest) S (kX3_copyFrom l G cI cS g0 g1 g2 g3 H.size u r hf) ⟨va_cnB 1 S.2.2.2.2 (gdC q_104) rfl rfl rfl (hN _ nq_23) (S.2.2.2.2 _ q_35) (by decide +kernel) hR, S.2.2.2.2 _ q_149, S.2.2.2.2 _ q_150⟩ (pvM (q := (RX3, TX3, 5)) hK hN hP hD (ci := 3) (q0 := 0) rfl rfl) rfl rfl hsz rfl (lv_room hst) hdg hcs
theorem cc_X4_323 {p : Program} {l : Launch} {e : Env} {R : Room} {s : State} {m : MethodId} {args : Array Value} {below : List Frame} {meth : Method} {c : Code} {H : Heap} {locs : List Loc} {cells slots : Nat} {cc : ByteArray} {pc nL : Nat} {ls : Array Slot} {rest : List Value} {G : va_G} {A : Nat → Prop} (sv : Nat) (ga : Nat → Nat) {cI cS : ClassId} {u : THS}  {r : THS} (S : CallFix p m c cc nL s args bw RX4) (hK : va_K G vwCl (tysW cI cS) s) (hN : NW s) (hP : va_P G vwCl (wHS cI cS sv ga u) H) (hD : va_D A (wHS cI cS sv ga u)) (hf : fX4_discardOldest u = some r) (hsz : ls.size = nL) (hst : (rest.map fun v => v.category).sum ≤ 8) (hR : rmX4_discardOldest.frames + 1 ≤ R.frames ∧ 8 + (3 + 11) + rmX4_discardOldest.locals ≤ R.locals) (hdg : decode cc pc = .ok (.invokevirtual 323, 3)) (hcs : cells + 0 ≤ R.cells ∧ slots + 0 ≤ R.slots) : va_Run p l e R s m args below meth c H locs cells slots 0 0 (F0 m pc ls (.ref (ga 0) :: rest)) rest (va_Qv (fun u' => u' = r) (PoM G (tysW cI cS) (va_A (wHS cI cS sv ga u) H.size) (wHS cI cS sv ga)) (va_A (wHS cI cS sv ga u) H.size) (#[.ref (ga 0)] : Array Value)) (va_A (wHS cI cS sv ga u) H.size) :=
  va_runV (As := []) (rest := rest) S (kX4_discardOldest l G cI cS sv ga H.size u r hf) (cwV 0 S.2.2.2.2 (gdV q_146 q_147 q_148 q_49 q_144) rfl rfl rfl (by decide +kernel) hR) (pvM (q := (RX4, TX4, 8)) hK hN hP hD (ci := 4) (q0 := 0) rfl rfl) rfl rfl hsz rfl (lv_room hst) hdg hcs
theorem gf_X4_20 {p : Program} {l : Launch} {e : Env} {R : Room} {s : State} {m : MethodId} {args : Array Value} {below : List Frame} {meth : Method} {c : Code} {H : Heap} {locs : List Loc} {cells slots : Nat} {cc : ByteArray} {pc nL : Nat} {ls : Array Slot} {rest : List Value} {G : va_G} {Q : State → Prop} {tys : List (ClassId × FieldType)} {ws : va_W} {a : Nat} (S : CallFix p m c cc nL s args bw RX4) (hK : va_K G vwCl tys s) (hN : NW s) (hP : va_P G vwCl ws H) (q0 : Nat) {fs : List Value} (he : ws[q0]? = some (a, .inr (4, fs))) {v : Value} (hv : fs[1]? = some v) (hdg : decode cc pc = .ok (.getfield 20, 3)) (kk : W p l e R s m args below meth c H locs cells slots Q (F0 m (pc + 3) ls (v :: rest))) : W p l e R s m args below meth c H locs cells slots Q (F0 m pc ls (.ref a :: rest)) :=
  va_get (C := RX4) (T := TX4) (N := 8) S.1 S.2.1 S.2.2.2.2 bi_U4 S.2.2.2.1 hK hP q0 he rfl 1 (by decide) (S.2.2.2.2 _ q_118) (fun _ h9 => h9) hv hdg kk
def fX4_saveState_j16 (u : THS) : Option (THS) := (if u.1.2.2.2.2.2 < 0 then some u else (if (6 : Int32) ≤ u.1.2.2.2.2.2 then some u else (if u.1.2.2.2.2.2 = 0 then ((fX3_copyFrom ((u.2.1 0), u.1.1.1)).bind fun z4 => some (((z4.2, u.1.1.2), u.1.2.1, u.1.2.2.1, u.1.2.2.2.1, u.1.2.2.2.2.1, (u.1.2.2.2.2.2 + (1 : Int32))), (va_up u.2.1 0 z4.1), u.2.2)) else (if u.1.2.2.2.2.2 = 1 then ((fX3_copyFrom ((u.2.1 1), u.1.1.1)).bind fun z6 => some (((z6.2, u.1.1.2), u.1.2.1, u.1.2.2.1, u.1.2.2.2.1, u.1.2.2.2.2.1, (u.1.2.2.2.2.2 + (1 : Int32))), (va_up u.2.1 1 z6.1), u.2.2)) else (if u.1.2.2.2.2.2 = 2 then ((fX3_copyFrom ((u.2.1 2), u.1.1.1)).bind fun z8 => some (((z8.2, u.1.1.2), u.1.2.1, u.1.2.2.1, u.1.2.2.2.1, u.1.2.2.2.2.1, (u.1.2.2.2.2.2 + (1 : Int32))), (va_up u.2.1 2 z8.1), u.2.2)) else (if u.1.2.2.2.2.2 = 3 then ((fX3_copyFrom ((u.2.1 3), u.1.1.1)).bind fun z10 => some (((z10.2, u.1.1.2), u.1.2.1, u.1.2.2.1, u.1.2.2.2.1, u.1.2.2.2.2.1, (u.1.2.2.2.2.2 + (1 : Int32))), (va_up u.2.1 3 z10.1), u.2.2)) else (if u.1.2.2.2.2.2 = 4 then ((fX3_copyFrom ((u.2.1 4), u.1.1.1)).bind fun z12 => some (((z12.2, u.1.1.2), u.1.2.1, u.1.2.2.1, u.1.2.2.2.1, u.1.2.2.2.2.1, (u.1.2.2.2.2.2 + (1 : Int32))), (va_up u.2.1 4 z12.1), u.2.2)) else (if u.1.2.2.2.2.2 = 5 then ((fX3_copyFrom ((u.2.1 5), u.1.1.1)).bind fun z14 => some (((z14.2, u.1.1.2), u.1.2.1, u.1.2.2.1, u.1.2.2.2.1, u.1.2.2.2.2.1, (u.1.2.2.2.2.2 + (1 : Int32))), (va_up u.2.1 5 z14.1), u.2.2)) else none))))))))
def fX4_saveState (u : THS) : Option (THS) := (if u.1.2.2.2.2.2 < (6 : Int32) then fX4_saveState_j16 u else ((fX4_discardOldest u).bind fun z16 => fX4_saveState_j16 z16))
abbrev rmX4_saveState : Room := { frames := 2, cells := 0, slots := 0, locals := 81 }
set_option maxRecDepth 100000 in
set_option maxHeartbeats 4000000 in
theorem kX4_saveState (l : Launch) (G : va_G) (cI cS : ClassId) (sv : Nat) (ga : Nat → Nat) (sz : Nat) (u : THS) (r : THS) (hf : fX4_saveState u = some r) : Met l yX4_saveState (.code yX4_saveState cX4_saveState 1 none :: bw) rmX4_saveState (va_Pc [.ref (ga 0)] (PreM G (tysW cI cS) (wHS cI cS sv ga u) sz)) (va_Qv (fun u' => u' = r) (PoM G (tysW cI cS) (va_A (wHS cI cS sv ga u) sz) (wHS cI cS sv ga)) (va_A (wHS cI cS sv ga u) sz)) 0 0 (va_A (wHS cI cS sv ga u) sz) := by
  refine enterM (own := RX4) (by decide) rfl (Nat.le_of_ble_eq_true rfl) ?_
  intro p e s m args below meth c A Q hAe hQ S hr hlocks hP hK hN hD hA hS ls hl
  rw [hAe] at hQ
  have hx := S.1; have hb := S.2.1; have hml := S.2.2.1; have hown := S.2.2.2.1; have hq := S.2.2.2.2
  have hl : lv_has ls 1 [(0, .ref (ga 0))] := hl
  have h := hf
  unfold fX4_saveState at h
  have J16 : ∀ (u : THS) , fX4_saveState_j16 u = some r → ∀ (H : Heap) (locs : List Loc), va_P G vwCl (wHS cI cS sv ga u) H → va_D A (wHS cI cS sv ga u) → va_S A s.heap H locs → ∀ ls : Array Slot, lv_has ls 1 [(0, .ref (ga 0))] → W p l e rmX4_saveState s m args below meth c H locs 0 0 Q (F0 m 16 ls []) := by
    intro u h
    unfold fX4_saveState_j16 at h
    intro H locs hP hD hS ls hl
    refine lv_aload_n hx hb dX4_saveState_16 rfl (lv_at hl 0 rfl) ?_
    refine gf_X4_231 S hK hN hP 0 rfl (v := .int u.1.2.2.2.2.2) rfl dX4_saveState_17 ?_
    refine lv_if_lt (tgt := 73) hx hb dX4_saveState_20 (by decide) (fun c1 => ?_) (fun c1 => ?_)
    · have h := (if_pos c1).symm.trans h
      exact retMv hQ S hr hlocks hK hN hP hD hS h dX4_saveState_73
    · have h := (if_neg c1).symm.trans h
      refine lv_aload_n hx hb dX4_saveState_23 rfl (lv_at hl 0 rfl) ?_
      refine gf_X4_231 S hK hN hP 0 rfl (v := .int u.1.2.2.2.2.2) rfl dX4_saveState_24 ?_
      refine lv_aload_n hx hb dX4_saveState_27 rfl (lv_at hl 0 rfl) ?_
      refine gf_X4_45 S hK hN hP 0 rfl (v := .ref sv) rfl dX4_saveState_28 ?_
      refine va_alen hx hb hK hP 13 1 rfl rfl (v := (6 : Int32)) rfl dX4_saveState_31 ?_
      refine lv_icmp_ge (tgt := 73) hx hb dX4_saveState_32 (by decide) (fun c2 => ?_) (fun c2 => ?_)
      · have h := (if_pos c2).symm.trans h
        exact retMv hQ S hr hlocks hK hN hP hD hS h dX4_saveState_73
      · have h := (if_neg c2).symm.trans h
        refine lv_aload_n hx hb dX4_saveState_35 rfl (lv_at hl 0 rfl) ?_
        refine gf_X4_45 S hK hN hP 0 rfl (v := .ref sv) rfl dX4_saveState_36 ?_
        refine lv_aload_n hx hb dX4_saveState_39 rfl (lv_at hl 0 rfl) ?_
        refine gf_X4_231 S hK hN hP 0 rfl (v := .int u.1.2.2.2.2.2) rfl dX4_saveState_40 ?_
        by_cases c3 : u.1.2.2.2.2.2 = 0
        · have h := (if_pos c3).symm.trans h
          refine aaO (f := (fun i => some (u.2.2.1 i))) (v := (u.2.2.1 0)) (ki := 0) hx hb hK hP 13 1 rfl rfl c3 (by decide) rfl dX4_saveState_43 ?_
          refine lv_ifnull hx hb dX4_saveState_44 ?_
          refine lv_aload_n hx hb dX4_saveState_47 rfl (lv_at hl 0 rfl) ?_
          refine gf_X4_45 S hK hN hP 0 rfl (v := .ref sv) rfl dX4_saveState_48 ?_
          refine lv_aload_n hx hb dX4_saveState_51 rfl (lv_at hl 0 rfl) ?_
          refine gf_X4_231 S hK hN hP 0 rfl (v := .int u.1.2.2.2.2.2) rfl dX4_saveState_52 ?_
          refine aaO (f := (fun i => some (u.2.2.1 i))) (v := (u.2.2.1 0)) (ki := 0) hx hb hK hP 13 1 rfl rfl c3 (by decide) rfl dX4_saveState_55 ?_
          refine lv_aload_n hx hb dX4_saveState_56 rfl (lv_at hl 0 rfl) ?_
          refine gf_X4_20 S hK hN hP 0 rfl (v := .ref (ga 2)) rfl dX4_saveState_57 ?_
          obtain ⟨z4, e_z4, h⟩ := bnd h
          refine mjv (cc_X4_236 (u.2.2.1 0) (u.2.2.2 0) (ga 2) (ga 3) S hK hN (hP.sub [14, 15, 2, 3] rfl) (hD.sub [14, 15, 2, 3] (by decide) rfl) e_z4 hl.1 (Nat.le_of_ble_eq_true rfl) ⟨Nat.le_of_ble_eq_true rfl, Nat.le_of_ble_eq_true rfl⟩ dX4_saveState_60 ⟨Nat.le_of_ble_eq_true rfl, Nat.le_of_ble_eq_true rfl⟩) hS hP hD hA [14, 15, 2, 3] [0, 1, 4, 5, 6, 7, 8, 9, 10, 11, 12, 13, 16, 17, 18, 19, 20, 21, 22, 23, 24, 25] rfl rfl (by decide) (by decide) [0, 1, 24, 25, 2, 3, 4, 5, 6, 7, 8, 9, 10, 11, 22, 23, 12, 13, 14, 15, 16, 17, 18, 19, 20, 21] (by decide) (wHS cI cS sv ga (((z4.2, u.1.1.2), u.1.2), (va_up u.2.1 0 z4.1), u.2.2)) rfl (fun H locs hP hD hS => ?_)
          refine lv_aload_n hx hb dX4_saveState_63 rfl (lv_at hl 0 rfl) ?_
          refine lv_dup hx hb dX4_saveState_64 rfl ?_
          refine gf_X4_231 S hK hN hP 0 rfl (v := .int u.1.2.2.2.2.2) rfl dX4_saveState_65 ?_
          refine lv_iconst (v := 1) hx hb dX4_saveState_68 (by decide) ?_
          refine lv_iadd hx hb dX4_saveState_69 ?_
          refine pf_X4_231 S hK hN hP hD hS 0 rfl (Nat.le_of_ble_eq_true rfl) dX4_saveState_70 (fun H locs hP hD hS => ?_)
          have hP : va_P G vwCl (wHS cI cS sv ga (((z4.2, u.1.1.2), u.1.2.1, u.1.2.2.1, u.1.2.2.2.1, u.1.2.2.2.2.1, (u.1.2.2.2.2.2 + (1 : Int32))), (va_up u.2.1 0 z4.1), u.2.2)) H := hP
          have hD : va_D A (wHS cI cS sv ga (((z4.2, u.1.1.2), u.1.2.1, u.1.2.2.1, u.1.2.2.2.1, u.1.2.2.2.2.1, (u.1.2.2.2.2.2 + (1 : Int32))), (va_up u.2.1 0 z4.1), u.2.2)) := hD
          exact retMv hQ S hr hlocks hK hN hP hD hS h dX4_saveState_73
        have h := (if_neg c3).symm.trans h
        by_cases c5 : u.1.2.2.2.2.2 = 1
        · have h := (if_pos c5).symm.trans h
          refine aaO (f := (fun i => some (u.2.2.1 i))) (v := (u.2.2.1 1)) (ki := 1) hx hb hK hP 13 1 rfl rfl c5 (by decide) rfl dX4_saveState_43 ?_
          refine lv_ifnull hx hb dX4_saveState_44 ?_
          refine lv_aload_n hx hb dX4_saveState_47 rfl (lv_at hl 0 rfl) ?_
          refine gf_X4_45 S hK hN hP 0 rfl (v := .ref sv) rfl dX4_saveState_48 ?_
          refine lv_aload_n hx hb dX4_saveState_51 rfl (lv_at hl 0 rfl) ?_
          refine gf_X4_231 S hK hN hP 0 rfl (v := .int u.1.2.2.2.2.2) rfl dX4_saveState_52 ?_
          refine aaO (f := (fun i => some (u.2.2.1 i))) (v := (u.2.2.1 1)) (ki := 1) hx hb hK hP 13 1 rfl rfl c5 (by decide) rfl dX4_saveState_55 ?_
          refine lv_aload_n hx hb dX4_saveState_56 rfl (lv_at hl 0 rfl) ?_
          refine gf_X4_20 S hK hN hP 0 rfl (v := .ref (ga 2)) rfl dX4_saveState_57 ?_
          obtain ⟨z6, e_z6, h⟩ := bnd h
          refine mjv (cc_X4_236 (u.2.2.1 1) (u.2.2.2 1) (ga 2) (ga 3) S hK hN (hP.sub [16, 17, 2, 3] rfl) (hD.sub [16, 17, 2, 3] (by decide) rfl) e_z6 hl.1 (Nat.le_of_ble_eq_true rfl) ⟨Nat.le_of_ble_eq_true rfl, Nat.le_of_ble_eq_true rfl⟩ dX4_saveState_60 ⟨Nat.le_of_ble_eq_true rfl, Nat.le_of_ble_eq_true rfl⟩) hS hP hD hA [16, 17, 2, 3] [0, 1, 4, 5, 6, 7, 8, 9, 10, 11, 12, 13, 14, 15, 18, 19, 20, 21, 22, 23, 24, 25] rfl rfl (by decide) (by decide) [0, 1, 24, 25, 2, 3, 4, 5, 6, 7, 8, 9, 10, 11, 12, 13, 22, 23, 14, 15, 16, 17, 18, 19, 20, 21] (by decide) (wHS cI cS sv ga (((z6.2, u.1.1.2), u.1.2), (va_up u.2.1 1 z6.1), u.2.2)) rfl (fun H locs hP hD hS => ?_)
          refine lv_aload_n hx hb dX4_saveState_63 rfl (lv_at hl 0 rfl) ?_
          refine lv_dup hx hb dX4_saveState_64 rfl ?_
          refine gf_X4_231 S hK hN hP 0 rfl (v := .int u.1.2.2.2.2.2) rfl dX4_saveState_65 ?_
          refine lv_iconst (v := 1) hx hb dX4_saveState_68 (by decide) ?_
          refine lv_iadd hx hb dX4_saveState_69 ?_
          refine pf_X4_231 S hK hN hP hD hS 0 rfl (Nat.le_of_ble_eq_true rfl) dX4_saveState_70 (fun H locs hP hD hS => ?_)
          have hP : va_P G vwCl (wHS cI cS sv ga (((z6.2, u.1.1.2), u.1.2.1, u.1.2.2.1, u.1.2.2.2.1, u.1.2.2.2.2.1, (u.1.2.2.2.2.2 + (1 : Int32))), (va_up u.2.1 1 z6.1), u.2.2)) H := hP
          have hD : va_D A (wHS cI cS sv ga (((z6.2, u.1.1.2), u.1.2.1, u.1.2.2.1, u.1.2.2.2.1, u.1.2.2.2.2.1, (u.1.2.2.2.2.2 + (1 : Int32))), (va_up u.2.1 1 z6.1), u.2.2)) := hD
          exact retMv hQ S hr hlocks hK hN hP hD hS h dX4_saveState_73
        have h := (if_neg c5).symm.trans h
        by_cases c7 : u.1.2.2.2.2.2 = 2
        · have h := (if_pos c7).symm.trans h
          refine aaO (f := (fun i => some (u.2.2.1 i))) (v := (u.2.2.1 2)) (ki := 2) hx hb hK hP 13 1 rfl rfl c7 (by decide) rfl dX4_saveState_43 ?_
          refine lv_ifnull hx hb dX4_saveState_44 ?_
          refine lv_aload_n hx hb dX4_saveState_47 rfl (lv_at hl 0 rfl) ?_
          refine gf_X4_45 S hK hN hP 0 rfl (v := .ref sv) rfl dX4_saveState_48 ?_
          refine lv_aload_n hx hb dX4_saveState_51 rfl (lv_at hl 0 rfl) ?_
          refine gf_X4_231 S hK hN hP 0 rfl (v := .int u.1.2.2.2.2.2) rfl dX4_saveState_52 ?_
          refine aaO (f := (fun i => some (u.2.2.1 i))) (v := (u.2.2.1 2)) (ki := 2) hx hb hK hP 13 1 rfl rfl c7 (by decide) rfl dX4_saveState_55 ?_
          refine lv_aload_n hx hb dX4_saveState_56 rfl (lv_at hl 0 rfl) ?_
          refine gf_X4_20 S hK hN hP 0 rfl (v := .ref (ga 2)) rfl dX4_saveState_57 ?_
          obtain ⟨z8, e_z8, h⟩ := bnd h
          refine mjv (cc_X4_236 (u.2.2.1 2) (u.2.2.2 2) (ga 2) (ga 3) S hK hN (hP.sub [18, 19, 2, 3] rfl) (hD.sub [18, 19, 2, 3] (by decide) rfl) e_z8 hl.1 (Nat.le_of_ble_eq_true rfl) ⟨Nat.le_of_ble_eq_true rfl, Nat.le_of_ble_eq_true rfl⟩ dX4_saveState_60 ⟨Nat.le_of_ble_eq_true rfl, Nat.le_of_ble_eq_true rfl⟩) hS hP hD hA [18, 19, 2, 3] [0, 1, 4, 5, 6, 7, 8, 9, 10, 11, 12, 13, 14, 15, 16, 17, 20, 21, 22, 23, 24, 25] rfl rfl (by decide) (by decide) [0, 1, 24, 25, 2, 3, 4, 5, 6, 7, 8, 9, 10, 11, 12, 13, 14, 15, 22, 23, 16, 17, 18, 19, 20, 21] (by decide) (wHS cI cS sv ga (((z8.2, u.1.1.2), u.1.2), (va_up u.2.1 2 z8.1), u.2.2)) rfl (fun H locs hP hD hS => ?_)
          refine lv_aload_n hx hb dX4_saveState_63 rfl (lv_at hl 0 rfl) ?_
          refine lv_dup hx hb dX4_saveState_64 rfl ?_
          refine gf_X4_231 S hK hN hP 0 rfl (v := .int u.1.2.2.2.2.2) rfl dX4_saveState_65 ?_
          refine lv_iconst (v := 1) hx hb dX4_saveState_68 (by decide) ?_
          refine lv_iadd hx hb dX4_saveState_69 ?_
          refine pf_X4_231 S hK hN hP hD hS 0 rfl (Nat.le_of_ble_eq_true rfl) dX4_saveState_70 (fun H locs hP hD hS => ?_)
          have hP : va_P G vwCl (wHS cI cS sv ga (((z8.2, u.1.1.2), u.1.2.1, u.1.2.2.1, u.1.2.2.2.1, u.1.2.2.2.2.1, (u.1.2.2.2.2.2 + (1 : Int32))), (va_up u.2.1 2 z8.1), u.2.2)) H := hP
          have hD : va_D A (wHS cI cS sv ga (((z8.2, u.1.1.2), u.1.2.1, u.1.2.2.1, u.1.2.2.2.1, u.1.2.2.2.2.1, (u.1.2.2.2.2.2 + (1 : Int32))), (va_up u.2.1 2 z8.1), u.2.2)) := hD
          exact retMv hQ S hr hlocks hK hN hP hD hS h dX4_saveState_73
        have h := (if_neg c7).symm.trans h
        by_cases c9 : u.1.2.2.2.2.2 = 3
        · have h := (if_pos c9).symm.trans h
          refine aaO (f := (fun i => some (u.2.2.1 i))) (v := (u.2.2.1 3)) (ki := 3) hx hb hK hP 13 1 rfl rfl c9 (by decide) rfl dX4_saveState_43 ?_
          refine lv_ifnull hx hb dX4_saveState_44 ?_
          refine lv_aload_n hx hb dX4_saveState_47 rfl (lv_at hl 0 rfl) ?_
          refine gf_X4_45 S hK hN hP 0 rfl (v := .ref sv) rfl dX4_saveState_48 ?_
          refine lv_aload_n hx hb dX4_saveState_51 rfl (lv_at hl 0 rfl) ?_
          refine gf_X4_231 S hK hN hP 0 rfl (v := .int u.1.2.2.2.2.2) rfl dX4_saveState_52 ?_
          refine aaO (f := (fun i => some (u.2.2.1 i))) (v := (u.2.2.1 3)) (ki := 3) hx hb hK hP 13 1 rfl rfl c9 (by decide) rfl dX4_saveState_55 ?_
          refine lv_aload_n hx hb dX4_saveState_56 rfl (lv_at hl 0 rfl) ?_
          refine gf_X4_20 S hK hN hP 0 rfl (v := .ref (ga 2)) rfl dX4_saveState_57 ?_
          obtain ⟨z10, e_z10, h⟩ := bnd h
          refine mjv (cc_X4_236 (u.2.2.1 3) (u.2.2.2 3) (ga 2) (ga 3) S hK hN (hP.sub [20, 21, 2, 3] rfl) (hD.sub [20, 21, 2, 3] (by decide) rfl) e_z10 hl.1 (Nat.le_of_ble_eq_true rfl) ⟨Nat.le_of_ble_eq_true rfl, Nat.le_of_ble_eq_true rfl⟩ dX4_saveState_60 ⟨Nat.le_of_ble_eq_true rfl, Nat.le_of_ble_eq_true rfl⟩) hS hP hD hA [20, 21, 2, 3] [0, 1, 4, 5, 6, 7, 8, 9, 10, 11, 12, 13, 14, 15, 16, 17, 18, 19, 22, 23, 24, 25] rfl rfl (by decide) (by decide) [0, 1, 24, 25, 2, 3, 4, 5, 6, 7, 8, 9, 10, 11, 12, 13, 14, 15, 16, 17, 22, 23, 18, 19, 20, 21] (by decide) (wHS cI cS sv ga (((z10.2, u.1.1.2), u.1.2), (va_up u.2.1 3 z10.1), u.2.2)) rfl (fun H locs hP hD hS => ?_)
          refine lv_aload_n hx hb dX4_saveState_63 rfl (lv_at hl 0 rfl) ?_
          refine lv_dup hx hb dX4_saveState_64 rfl ?_
          refine gf_X4_231 S hK hN hP 0 rfl (v := .int u.1.2.2.2.2.2) rfl dX4_saveState_65 ?_
          refine lv_iconst (v := 1) hx hb dX4_saveState_68 (by decide) ?_
          refine lv_iadd hx hb dX4_saveState_69 ?_
          refine pf_X4_231 S hK hN hP hD hS 0 rfl (Nat.le_of_ble_eq_true rfl) dX4_saveState_70 (fun H locs hP hD hS => ?_)
          have hP : va_P G vwCl (wHS cI cS sv ga (((z10.2, u.1.1.2), u.1.2.1, u.1.2.2.1, u.1.2.2.2.1, u.1.2.2.2.2.1, (u.1.2.2.2.2.2 + (1 : Int32))), (va_up u.2.1 3 z10.1), u.2.2)) H := hP
          have hD : va_D A (wHS cI cS sv ga (((z10.2, u.1.1.2), u.1.2.1, u.1.2.2.1, u.1.2.2.2.1, u.1.2.2.2.2.1, (u.1.2.2.2.2.2 + (1 : Int32))), (va_up u.2.1 3 z10.1), u.2.2)) := hD
          exact retMv hQ S hr hlocks hK hN hP hD hS h dX4_saveState_73
        have h := (if_neg c9).symm.trans h
        by_cases c11 : u.1.2.2.2.2.2 = 4
        · have h := (if_pos c11).symm.trans h
          refine aaO (f := (fun i => some (u.2.2.1 i))) (v := (u.2.2.1 4)) (ki := 4) hx hb hK hP 13 1 rfl rfl c11 (by decide) rfl dX4_saveState_43 ?_
          refine lv_ifnull hx hb dX4_saveState_44 ?_
          refine lv_aload_n hx hb dX4_saveState_47 rfl (lv_at hl 0 rfl) ?_
          refine gf_X4_45 S hK hN hP 0 rfl (v := .ref sv) rfl dX4_saveState_48 ?_
          refine lv_aload_n hx hb dX4_saveState_51 rfl (lv_at hl 0 rfl) ?_
          refine gf_X4_231 S hK hN hP 0 rfl (v := .int u.1.2.2.2.2.2) rfl dX4_saveState_52 ?_
          refine aaO (f := (fun i => some (u.2.2.1 i))) (v := (u.2.2.1 4)) (ki := 4) hx hb hK hP 13 1 rfl rfl c11 (by decide) rfl dX4_saveState_55 ?_
          refine lv_aload_n hx hb dX4_saveState_56 rfl (lv_at hl 0 rfl) ?_
          refine gf_X4_20 S hK hN hP 0 rfl (v := .ref (ga 2)) rfl dX4_saveState_57 ?_
          obtain ⟨z12, e_z12, h⟩ := bnd h
          refine mjv (cc_X4_236 (u.2.2.1 4) (u.2.2.2 4) (ga 2) (ga 3) S hK hN (hP.sub [22, 23, 2, 3] rfl) (hD.sub [22, 23, 2, 3] (by decide) rfl) e_z12 hl.1 (Nat.le_of_ble_eq_true rfl) ⟨Nat.le_of_ble_eq_true rfl, Nat.le_of_ble_eq_true rfl⟩ dX4_saveState_60 ⟨Nat.le_of_ble_eq_true rfl, Nat.le_of_ble_eq_true rfl⟩) hS hP hD hA [22, 23, 2, 3] [0, 1, 4, 5, 6, 7, 8, 9, 10, 11, 12, 13, 14, 15, 16, 17, 18, 19, 20, 21, 24, 25] rfl rfl (by decide) (by decide) [0, 1, 24, 25, 2, 3, 4, 5, 6, 7, 8, 9, 10, 11, 12, 13, 14, 15, 16, 17, 18, 19, 22, 23, 20, 21] (by decide) (wHS cI cS sv ga (((z12.2, u.1.1.2), u.1.2), (va_up u.2.1 4 z12.1), u.2.2)) rfl (fun H locs hP hD hS => ?_)
          refine lv_aload_n hx hb dX4_saveState_63 rfl (lv_at hl 0 rfl) ?_
          refine lv_dup hx hb dX4_saveState_64 rfl ?_
          refine gf_X4_231 S hK hN hP 0 rfl (v := .int u.1.2.2.2.2.2) rfl dX4_saveState_65 ?_
          refine lv_iconst (v := 1) hx hb dX4_saveState_68 (by decide) ?_
          refine lv_iadd hx hb dX4_saveState_69 ?_
          refine pf_X4_231 S hK hN hP hD hS 0 rfl (Nat.le_of_ble_eq_true rfl) dX4_saveState_70 (fun H locs hP hD hS => ?_)
          have hP : va_P G vwCl (wHS cI cS sv ga (((z12.2, u.1.1.2), u.1.2.1, u.1.2.2.1, u.1.2.2.2.1, u.1.2.2.2.2.1, (u.1.2.2.2.2.2 + (1 : Int32))), (va_up u.2.1 4 z12.1), u.2.2)) H := hP
          have hD : va_D A (wHS cI cS sv ga (((z12.2, u.1.1.2), u.1.2.1, u.1.2.2.1, u.1.2.2.2.1, u.1.2.2.2.2.1, (u.1.2.2.2.2.2 + (1 : Int32))), (va_up u.2.1 4 z12.1), u.2.2)) := hD
          exact retMv hQ S hr hlocks hK hN hP hD hS h dX4_saveState_73
        have h := (if_neg c11).symm.trans h
        by_cases c13 : u.1.2.2.2.2.2 = 5
        · have h := (if_pos c13).symm.trans h
          refine aaO (f := (fun i => some (u.2.2.1 i))) (v := (u.2.2.1 5)) (ki := 5) hx hb hK hP 13 1 rfl rfl c13 (by decide) rfl dX4_saveState_43 ?_
          refine lv_ifnull hx hb dX4_saveState_44 ?_
          refine lv_aload_n hx hb dX4_saveState_47 rfl (lv_at hl 0 rfl) ?_
          refine gf_X4_45 S hK hN hP 0 rfl (v := .ref sv) rfl dX4_saveState_48 ?_
          refine lv_aload_n hx hb dX4_saveState_51 rfl (lv_at hl 0 rfl) ?_
          refine gf_X4_231 S hK hN hP 0 rfl (v := .int u.1.2.2.2.2.2) rfl dX4_saveState_52 ?_
          refine aaO (f := (fun i => some (u.2.2.1 i))) (v := (u.2.2.1 5)) (ki := 5) hx hb hK hP 13 1 rfl rfl c13 (by decide) rfl dX4_saveState_55 ?_
          refine lv_aload_n hx hb dX4_saveState_56 rfl (lv_at hl 0 rfl) ?_
          refine gf_X4_20 S hK hN hP 0 rfl (v := .ref (ga 2)) rfl dX4_saveState_57 ?_
          obtain ⟨z14, e_z14, h⟩ := bnd h
          refine mjv (cc_X4_236 (u.2.2.1 5) (u.2.2.2 5) (ga 2) (ga 3) S hK hN (hP.sub [24, 25, 2, 3] rfl) (hD.sub [24, 25, 2, 3] (by decide) rfl) e_z14 hl.1 (Nat.le_of_ble_eq_true rfl) ⟨Nat.le_of_ble_eq_true rfl, Nat.le_of_ble_eq_true rfl⟩ dX4_saveState_60 ⟨Nat.le_of_ble_eq_true rfl, Nat.le_of_ble_eq_true rfl⟩) hS hP hD hA [24, 25, 2, 3] [0, 1, 4, 5, 6, 7, 8, 9, 10, 11, 12, 13, 14, 15, 16, 17, 18, 19, 20, 21, 22, 23] rfl rfl (by decide) (by decide) [0, 1, 24, 25, 2, 3, 4, 5, 6, 7, 8, 9, 10, 11, 12, 13, 14, 15, 16, 17, 18, 19, 20, 21, 22, 23] (by decide) (wHS cI cS sv ga (((z14.2, u.1.1.2), u.1.2), (va_up u.2.1 5 z14.1), u.2.2)) rfl (fun H locs hP hD hS => ?_)
          refine lv_aload_n hx hb dX4_saveState_63 rfl (lv_at hl 0 rfl) ?_
          refine lv_dup hx hb dX4_saveState_64 rfl ?_
          refine gf_X4_231 S hK hN hP 0 rfl (v := .int u.1.2.2.2.2.2) rfl dX4_saveState_65 ?_
          refine lv_iconst (v := 1) hx hb dX4_saveState_68 (by decide) ?_
          refine lv_iadd hx hb dX4_saveState_69 ?_
          refine pf_X4_231 S hK hN hP hD hS 0 rfl (Nat.le_of_ble_eq_true rfl) dX4_saveState_70 (fun H locs hP hD hS => ?_)
          have hP : va_P G vwCl (wHS cI cS sv ga (((z14.2, u.1.1.2), u.1.2.1, u.1.2.2.1, u.1.2.2.2.1, u.1.2.2.2.2.1, (u.1.2.2.2.2.2 + (1 : Int32))), (va_up u.2.1 5 z14.1), u.2.2)) H := hP
          have hD : va_D A (wHS cI cS sv ga (((z14.2, u.1.1.2), u.1.2.1, u.1.2.2.1, u.1.2.2.2.1, u.1.2.2.2.2.1, (u.1.2.2.2.2.2 + (1 : Int32))), (va_up u.2.1 5 z14.1), u.2.2)) := hD
          exact retMv hQ S hr hlocks hK hN hP hD hS h dX4_saveState_73
        have h := (if_neg c13).symm.trans h
        cases h
  refine lv_aload_n hx hb dX4_saveState_0 rfl (lv_at hl 0 rfl) ?_
  refine gf_X4_231 S hK hN hP 0 rfl (v := .int u.1.2.2.2.2.2) rfl dX4_saveState_1 ?_
  refine lv_aload_n hx hb dX4_saveState_4 rfl (lv_at hl 0 rfl) ?_
  refine gf_X4_45 S hK hN hP 0 rfl (v := .ref sv) rfl dX4_saveState_5 ?_
  refine va_alen hx hb hK hP 13 1 rfl rfl (v := (6 : Int32)) rfl dX4_saveState_8 ?_
  refine lv_icmp_lt (tgt := 16) hx hb dX4_saveState_9 (by decide) (fun c15 => ?_) (fun c15 => ?_)
  · have h := (if_pos c15).symm.trans h
    exact J16 u h _ _ hP hD hS _ (lv_sub hl [0] rfl)
  · have h := (if_neg c15).symm.trans h
    refine lv_aload_n hx hb dX4_saveState_12 rfl (lv_at hl 0 rfl) ?_
    obtain ⟨z16, e_z16, h⟩ := bnd h
    refine muv (cc_X4_323 sv ga S hK hN hP hD e_z16 hl.1 (Nat.le_of_ble_eq_true rfl) ⟨Nat.le_of_ble_eq_true rfl, Nat.le_of_ble_eq_true rfl⟩ dX4_saveState_13 ⟨Nat.le_of_ble_eq_true rfl, Nat.le_of_ble_eq_true rfl⟩) hS hD (va_free hD hS hA [0, 1, 2, 3, 4, 5, 6, 7, 8, 9, 10, 11, 12, 13, 14, 15, 16, 17, 18, 19, 20, 21, 22, 23, 24, 25] rfl) (fun H locs hP hD hS => ?_)
    have hP : va_P G vwCl (wHS cI cS sv ga z16) H := hP
    have hD : va_D A (wHS cI cS sv ga z16) := hD
    exact J16 z16 h _ _ hP hD hS _ (lv_sub hl [0] rfl)

theorem cc_X4_78 {p : Program} {l : Launch} {e : Env} {R : Room} {s : State} {m : MethodId} {args : Array Value} {below : List Frame} {meth : Method} {c : Code} {H : Heap} {locs : List Loc} {cells slots : Nat} {cc : ByteArray} {pc nL : Nat} {ls : Array Slot} {rest : List Value} {G : va_G}  {cI cS : ClassId}  {p0 : Int32} {r : Int32} (S : CallFix p m c cc nL s args bw RX4) (hK : va_K G vwCl (tysW cI cS) s) (hN : NW s) (hP : va_P G vwCl wE H) (hf : fX4_homeSize p0 = some r) (hsz : ls.size = nL) (hst : (rest.map fun v => v.category).sum ≤ 8) (hR : rmX4_homeSize.frames + 1 ≤ R.frames ∧ 8 + (1 + 11) + rmX4_homeSize.locals ≤ R.locals) (hdg : decode cc pc = .ok (.invokestatic 78, 3)) (hcs : cells + 0 ≤ R.cells ∧ slots + 0 ≤ R.slots) : va_Run p l e R s m args below meth c H locs cells slots 0 0 (F0 m pc ls (.int p0 :: rest)) rest (vp_Si (fun r' => r' = r) (#[.int p0] : Array Value)) (fun _ => False) :=
  va_runS (As := [.int p0]) (rest := rest) S (kX4_homeSize l G cI cS p0 r hf) (cwS 1 S.2.2.2.2 (gdS q_166 q_167 q_49 q_142) rfl rfl rfl (by decide +kernel) hR) (psR hK hN hP) rfl rfl hsz rfl (lv_room hst) hdg hcs
theorem cc_X4_82 {p : Program} {l : Launch} {e : Env} {R : Room} {s : State} {m : MethodId} {args : Array Value} {below : List Frame} {meth : Method} {c : Code} {H : Heap} {locs : List Loc} {cells slots : Nat} {cc : ByteArray} {pc nL : Nat} {ls : Array Slot} {rest : List Value} {G : va_G} (g0 g1 g2 g3 g4 : Nat) {cI cS : ClassId} {u : TP}  {p0 : Int32} {p1 : Int32} {p2 : Int32} {r : Int32} (S : CallFix p m c cc nL s args bw RX4) (hK : va_K G vwCl (tysW cI cS) s) (hN : NW s) (hP : va_P G vwCl (wP cI g0 g1 g2 g3 g4 u) H) (hf : fX2_findPage u p0 p1 p2 = some r) (hsz : ls.size = nL) (hst : (rest.map fun v => v.category).sum ≤ 8) (hR : rmX2_findPage.frames + 1 ≤ R.frames ∧ 8 + (5 + 11) + rmX2_findPage.locals ≤ R.locals) (hdg : decode cc pc = .ok (.invokevirtual 82, 3)) (hcs : cells + 0 ≤ R.cells ∧ slots + 0 ≤ R.slots) : va_Run p l e R s m args below meth c H locs cells slots 0 0 (F0 m pc ls (.int p2 :: .int p1 :: .int p0 :: .ref g0 :: rest)) rest (vp_Si (fun r' => r' = r) (#[.ref g0, .int p0, .int p1, .int p2] : Array Value)) (fun _ => False) :=
  va_runVN (As := [.int p0, .int p1, .int p2]) (rest := rest) S (kX2_findPage l G cI cS g0 g1 g2 g3 g4 u p0 p1 p2 r hf) ⟨va_cnB 3 S.2.2.2.2 (gdC q_69) rfl rfl rfl (hN _ nq_18) (S.2.2.2.2 _ q_56) (by decide +kernel) hR, S.2.2.2.2 _ q_168, S.2.2.2.2 _ q_169⟩ (pvR (q := (RX2, TX2, 2)) hK hN hP (ci := 2) (q0 := 0) rfl rfl) rfl rfl hsz rfl (lv_room hst) hdg hcs
theorem cc_X4_88 {p : Program} {l : Launch} {e : Env} {R : Room} {s : State} {m : MethodId} {args : Array Value} {below : List Frame} {meth : Method} {c : Code} {H : Heap} {locs : List Loc} {cells slots : Nat} {cc : ByteArray} {pc nL : Nat} {ls : Array Slot} {rest : List Value} {G : va_G} {A : Nat → Prop} (sv : Nat) (ga : Nat → Nat) {cI cS : ClassId} {u : THS}  {r : THS} (S : CallFix p m c cc nL s args bw RX4) (hK : va_K G vwCl (tysW cI cS) s) (hN : NW s) (hP : va_P G vwCl (wHS cI cS sv ga u) H) (hD : va_D A (wHS cI cS sv ga u)) (hf : fX4_saveState u = some r) (hsz : ls.size = nL) (hst : (rest.map fun v => v.category).sum ≤ 8) (hR : rmX4_saveState.frames + 1 ≤ R.frames ∧ 8 + (1 + 11) + rmX4_saveState.locals ≤ R.locals) (hdg : decode cc pc = .ok (.invokevirtual 88, 3)) (hcs : cells + 0 ≤ R.cells ∧ slots + 0 ≤ R.slots) : va_Run p l e R s m args below meth c H locs cells slots 0 0 (F0 m pc ls (.ref (ga 0) :: rest)) rest (va_Qv (fun u' => u' = r) (PoM G (tysW cI cS) (va_A (wHS cI cS sv ga u) H.size) (wHS cI cS sv ga)) (va_A (wHS cI cS sv ga u) H.size) (#[.ref (ga 0)] : Array Value)) (va_A (wHS cI cS sv ga u) H.size) :=
  va_runV (As := []) (rest := rest) S (kX4_saveState l G cI cS sv ga H.size u r hf) (cwV 0 S.2.2.2.2 (gdV q_170 q_171 q_172 q_49 q_151) rfl rfl rfl (by decide +kernel) hR) (pvM (q := (RX4, TX4, 8)) hK hN hP hD (ci := 4) (q0 := 0) rfl rfl) rfl rfl hsz rfl (lv_room hst) hdg hcs
theorem cc_X4_91 {p : Program} {l : Launch} {e : Env} {R : Room} {s : State} {m : MethodId} {args : Array Value} {below : List Frame} {meth : Method} {c : Code} {H : Heap} {locs : List Loc} {cells slots : Nat} {cc : ByteArray} {pc nL : Nat} {ls : Array Slot} {rest : List Value} {G : va_G} {A : Nat → Prop} (g0 g1 n g2 g3 n2 : Nat) {cI cS : ClassId} {u : TB × TB}  {p1 : Int32} {p2 : Int32} {r : TB × TB} (S : CallFix p m c cc nL s args bw RX4) (hK : va_K G vwCl (tysW cI cS) s) (hN : NW s) (hP : va_P G vwCl (wBB cI g0 g1 n g2 g3 n2 u) H) (hD : va_D A (wBB cI g0 g1 n g2 g3 n2 u)) (hf : fX0_takePart n n2 u p1 p2 = some r) (hsz : ls.size = nL) (hst : (rest.map fun v => v.category).sum ≤ 8) (hR : rmX0_takePart.frames + 1 ≤ R.frames ∧ 8 + (5 + 11) + rmX0_takePart.locals ≤ R.locals) (hdg : decode cc pc = .ok (.invokevirtual 91, 3)) (hcs : cells + 0 ≤ R.cells ∧ slots + 0 ≤ R.slots) : va_Run p l e R s m args below meth c H locs cells slots 0 0 (F0 m pc ls (.int p2 :: .int p1 :: .ref g2 :: .ref g0 :: rest)) rest (va_Qv (fun u' => u' = r) (PoM G (tysW cI cS) (va_A (wBB cI g0 g1 n g2 g3 n2 u) H.size) (wBB cI g0 g1 n g2 g3 n2)) (va_A (wBB cI g0 g1 n g2 g3 n2 u) H.size) (#[.ref g0, .ref g2, .int p1, .int p2] : Array Value)) (va_A (wBB cI g0 g1 n g2 g3 n2 u) H.size) :=
  va_runVN (As := [.ref g2, .int p1, .int p2]) (rest := rest) S (kX0_takePart l G cI cS g0 g1 n g2 g3 n2 H.size u p1 p2 r hf) ⟨va_cnB 3 S.2.2.2.2 (gdC q_22) rfl rfl rfl (hN _ nq_32) (S.2.2.2.2 _ q_17) (by decide +kernel) hR, S.2.2.2.2 _ q_173, S.2.2.2.2 _ q_174⟩ (pvM (q := (RX0, TX0, 2)) hK hN hP hD (ci := 0) (q0 := 0) rfl rfl) rfl rfl hsz rfl (lv_room hst) hdg hcs
theorem cc_X4_95 {p : Program} {l : Launch} {e : Env} {R : Room} {s : State} {m : MethodId} {args : Array Value} {below : List Frame} {meth : Method} {c : Code} {H : Heap} {locs : List Loc} {cells slots : Nat} {cc : ByteArray} {pc nL : Nat} {ls : Array Slot} {rest : List Value} {G : va_G} {A : Nat → Prop} (sv : Nat) (ga : Nat → Nat) {cI cS : ClassId} {u : TH}  {p0 : Int32} {r : Int32 × TH} (S : CallFix p m c cc nL s args bw RX4) (hK : va_K G vwCl (tysW cI cS) s) (hN : NW s) (hP : va_P G vwCl (wH cI sv ga u) H) (hD : va_D A (wH cI sv ga u)) (hf : fX4_insertContent u p0 = some r) (hsz : ls.size = nL) (hst : (rest.map fun v => v.category).sum ≤ 8) (hR : rmX4_insertContent.frames + 1 ≤ R.frames ∧ 8 + (3 + 11) + rmX4_insertContent.locals ≤ R.locals) (hdg : decode cc pc = .ok (.invokevirtual 95, 3)) (hcs : cells + 0 ≤ R.cells ∧ slots + 0 ≤ R.slots) : va_Run p l e R s m args below meth c H locs cells slots 0 0 (F0 m pc ls (.int p0 :: .ref (ga 0) :: rest)) rest (va_Qi (fun r' u' => (r', u') = r) (PoM G (tysW cI cS) (va_A (wH cI sv ga u) H.size) (wH cI sv ga)) (va_A (wH cI sv ga u) H.size) (#[.ref (ga 0), .int p0] : Array Value)) (va_A (wH cI sv ga u) H.size) :=
  va_runV (As := [.int p0]) (rest := rest) S (kX4_insertContent l G cI cS sv ga H.size u p0 r hf) (cwV 1 S.2.2.2.2 (gdV q_175 q_176 q_177 q_49 q_165) rfl rfl rfl (by decide +kernel) hR) (pvM (q := (RX4, TX4, 8)) hK hN hP hD (ci := 4) (q0 := 0) rfl rfl) rfl rfl hsz rfl (lv_room hst) hdg hcs
def fX4_insert (u : THS) : Option (Int32 × THS) := ((fX4_homeSize u.1.2.1.1).bind fun z1 => ((fX2_findPage u.1.1 z1 ((-1) : Int32) ((-1) : Int32)).bind fun z2 => (if z2 = ((-1) : Int32) then none else ((fX4_saveState u).bind fun z4 => ((fX0_takePart 60 60 (z4.1.2.2.1, z4.1.2.1) (0 : Int32) z4.1.2.1.1).bind fun z5 => ((fX0_empty 60 z5.2).bind fun z6 => ((fX4_insertContent (z4.1.1, z6, z5.1, z4.1.2.2.2) z2).bind fun z7 => some (z7.1, z7.2, z4.2))))))))
abbrev rmX4_insert : Room := { frames := 4, cells := 0, slots := 0, locals := 116 }
set_option maxRecDepth 100000 in
set_option maxHeartbeats 4000000 in
theorem kX4_insert (l : Launch) (G : va_G) (cI cS : ClassId) (sv : Nat) (ga : Nat → Nat) (sz : Nat) (u : THS) (r : Int32 × THS) (hf : fX4_insert u = some r) : Met l yX4_insert (.code yX4_insert cX4_insert 2 (some .int) :: bw) rmX4_insert (va_Pc [.ref (ga 0)] (PreM G (tysW cI cS) (wHS cI cS sv ga u) sz)) (va_Qi (fun r' u' => (r', u') = r) (PoM G (tysW cI cS) (va_A (wHS cI cS sv ga u) sz) (wHS cI cS sv ga)) (va_A (wHS cI cS sv ga u) sz)) 0 0 (va_A (wHS cI cS sv ga u) sz) := by
  refine enterM (own := RX4) (by decide) rfl (Nat.le_of_ble_eq_true rfl) ?_
  intro p e s m args below meth c A Q hAe hQ S hr hlocks hP hK hN hD hA hS ls hl
  rw [hAe] at hQ
  have hx := S.1; have hb := S.2.1; have hml := S.2.2.1; have hown := S.2.2.2.1; have hq := S.2.2.2.2
  have hl : lv_has ls 2 [(0, .ref (ga 0))] := hl
  have h := hf
  unfold fX4_insert at h
  refine lv_aload_n hx hb dX4_insert_0 rfl (lv_at hl 0 rfl) ?_
  refine gf_X4_12 S hK hN hP 0 rfl (v := .ref (ga 1)) rfl dX4_insert_1 ?_
  refine lv_aload_n hx hb dX4_insert_4 rfl (lv_at hl 0 rfl) ?_
  refine gf_X4_26 S hK hN hP 0 rfl (v := .ref (ga 6)) rfl dX4_insert_5 ?_
  refine gf_X4_54 S hK hN hP 6 rfl (v := .int u.1.2.1.1) rfl dX4_insert_8 ?_
  obtain ⟨z1, e_z1, h⟩ := bnd h
  refine roI (cc_X4_78 S hK hN va_P0 e_z1 hl.1 (Nat.le_of_ble_eq_true rfl) ⟨Nat.le_of_ble_eq_true rfl, Nat.le_of_ble_eq_true rfl⟩ dX4_insert_11 ⟨Nat.le_of_ble_eq_true rfl, Nat.le_of_ble_eq_true rfl⟩) ?_
  refine lv_iconst (v := (-1)) hx hb dX4_insert_14 (by decide) ?_
  refine lv_iconst (v := (-1)) hx hb dX4_insert_15 (by decide) ?_
  obtain ⟨z2, e_z2, h⟩ := bnd h
  refine roI (cc_X4_82 (ga 1) (ga 2) (ga 3) (ga 4) (ga 5) S hK hN (hP.sub [1, 2, 3, 4, 5] rfl) e_z2 hl.1 (Nat.le_of_ble_eq_true rfl) ⟨Nat.le_of_ble_eq_true rfl, Nat.le_of_ble_eq_true rfl⟩ dX4_insert_16 ⟨Nat.le_of_ble_eq_true rfl, Nat.le_of_ble_eq_true rfl⟩) ?_
  refine lv_istore_n (lv' := [(1, .int z2), (0, .ref (ga 0))]) hx hb dX4_insert_19 rfl hl (by decide) rfl (fun ls hl => ?_)
  refine lv_iload_n hx hb dX4_insert_20 rfl (lv_at hl 0 rfl) ?_
  refine lv_iconst (v := (-1)) hx hb dX4_insert_21 (by decide) ?_
  refine lv_icmp_ne (tgt := 35) hx hb dX4_insert_22 (by decide) (fun c3 => ?_) (fun c3 => ?_)
  · have h := (if_neg c3).symm.trans h
    refine lv_aload_n hx hb dX4_insert_35 rfl (lv_at hl 1 rfl) ?_
    obtain ⟨z4, e_z4, h⟩ := bnd h
    refine muv (cc_X4_88 sv ga S hK hN hP hD e_z4 hl.1 (Nat.le_of_ble_eq_true rfl) ⟨Nat.le_of_ble_eq_true rfl, Nat.le_of_ble_eq_true rfl⟩ dX4_insert_36 ⟨Nat.le_of_ble_eq_true rfl, Nat.le_of_ble_eq_true rfl⟩) hS hD (va_free hD hS hA [0, 1, 2, 3, 4, 5, 6, 7, 8, 9, 10, 11, 12, 13, 14, 15, 16, 17, 18, 19, 20, 21, 22, 23, 24, 25] rfl) (fun H locs hP hD hS => ?_)
    have hP : va_P G vwCl (wHS cI cS sv ga z4) H := hP
    have hD : va_D A (wHS cI cS sv ga z4) := hD
    refine lv_aload_n hx hb dX4_insert_39 rfl (lv_at hl 1 rfl) ?_
    refine gf_X4_30 S hK hN hP 0 rfl (v := .ref (ga 8)) rfl dX4_insert_40 ?_
    refine lv_aload_n hx hb dX4_insert_43 rfl (lv_at hl 1 rfl) ?_
    refine gf_X4_26 S hK hN hP 0 rfl (v := .ref (ga 6)) rfl dX4_insert_44 ?_
    refine lv_iconst (v := 0) hx hb dX4_insert_47 (by decide) ?_
    refine lv_aload_n hx hb dX4_insert_48 rfl (lv_at hl 1 rfl) ?_
    refine gf_X4_26 S hK hN hP 0 rfl (v := .ref (ga 6)) rfl dX4_insert_49 ?_
    refine gf_X4_54 S hK hN hP 6 rfl (v := .int z4.1.2.1.1) rfl dX4_insert_52 ?_
    obtain ⟨z5, e_z5, h⟩ := bnd h
    refine mjv (cc_X4_91 (ga 8) (ga 9) 60 (ga 6) (ga 7) 60 S hK hN (hP.sub [8, 9, 6, 7] rfl) (hD.sub [8, 9, 6, 7] (by decide) rfl) e_z5 hl.1 (Nat.le_of_ble_eq_true rfl) ⟨Nat.le_of_ble_eq_true rfl, Nat.le_of_ble_eq_true rfl⟩ dX4_insert_55 ⟨Nat.le_of_ble_eq_true rfl, Nat.le_of_ble_eq_true rfl⟩) hS hP hD hA [8, 9, 6, 7] [0, 1, 2, 3, 4, 5, 10, 11, 12, 13, 14, 15, 16, 17, 18, 19, 20, 21, 22, 23, 24, 25] rfl rfl (by decide) (by decide) [0, 1, 2, 3, 4, 5, 24, 25, 22, 23, 6, 7, 8, 9, 10, 11, 12, 13, 14, 15, 16, 17, 18, 19, 20, 21] (by decide) (wHS cI cS sv ga ((z4.1.1, z5.2, z5.1, z4.1.2.2.2), z4.2)) rfl (fun H locs hP hD hS => ?_)
    refine lv_aload_n hx hb dX4_insert_58 rfl (lv_at hl 1 rfl) ?_
    refine gf_X4_26 S hK hN hP 0 rfl (v := .ref (ga 6)) rfl dX4_insert_59 ?_
    obtain ⟨z6, e_z6, h⟩ := bnd h
    refine mjv (cc_X4_58 (ga 6) (ga 7) 60 S hK hN (hP.sub [6, 7] rfl) (hD.sub [6, 7] (by decide) rfl) e_z6 hl.1 (Nat.le_of_ble_eq_true rfl) ⟨Nat.le_of_ble_eq_true rfl, Nat.le_of_ble_eq_true rfl⟩ dX4_insert_62 ⟨Nat.le_of_ble_eq_true rfl, Nat.le_of_ble_eq_true rfl⟩) hS hP hD hA [6, 7] [0, 1, 2, 3, 4, 5, 8, 9, 10, 11, 12, 13, 14, 15, 16, 17, 18, 19, 20, 21, 22, 23, 24, 25] rfl rfl (by decide) (by decide) [0, 1, 2, 3, 4, 5, 24, 25, 6, 7, 8, 9, 10, 11, 12, 13, 14, 15, 16, 17, 18, 19, 20, 21, 22, 23] (by decide) (wHS cI cS sv ga ((z4.1.1, z6, z5.1, z4.1.2.2.2), z4.2)) rfl (fun H locs hP hD hS => ?_)
    refine lv_aload_n hx hb dX4_insert_65 rfl (lv_at hl 1 rfl) ?_
    refine lv_iload_n hx hb dX4_insert_66 rfl (lv_at hl 0 rfl) ?_
    obtain ⟨z7, e_z7, h⟩ := bnd h
    refine mji (cc_X4_95 sv ga S hK hN (hP.sub [0, 1, 2, 3, 4, 5, 6, 7, 8, 9, 10, 11, 12] rfl) (hD.sub [0, 1, 2, 3, 4, 5, 6, 7, 8, 9, 10, 11, 12] (by decide) rfl) e_z7 hl.1 (Nat.le_of_ble_eq_true rfl) ⟨Nat.le_of_ble_eq_true rfl, Nat.le_of_ble_eq_true rfl⟩ dX4_insert_67 ⟨Nat.le_of_ble_eq_true rfl, Nat.le_of_ble_eq_true rfl⟩) hS hP hD hA [0, 1, 2, 3, 4, 5, 6, 7, 8, 9, 10, 11, 12] [13, 14, 15, 16, 17, 18, 19, 20, 21, 22, 23, 24, 25] rfl rfl (by decide) (by decide) [13, 14, 15, 16, 17, 18, 19, 20, 21, 22, 23, 24, 25, 0, 1, 2, 3, 4, 5, 6, 7, 8, 9, 10, 11, 12] (by decide) (wHS cI cS sv ga (z7.2, z4.2)) rfl (fun H locs hP hD hS => ?_)
    exact retMi hQ S hr hlocks hK hN hP hD hS h dX4_insert_70
  · have h := (if_pos c3).symm.trans h
    cases h

theorem cc_X4_167 {p : Program} {l : Launch} {e : Env} {R : Room} {s : State} {m : MethodId} {args : Array Value} {below : List Frame} {meth : Method} {c : Code} {H : Heap} {locs : List Loc} {cells slots : Nat} {cc : ByteArray} {pc nL : Nat} {ls : Array Slot} {rest : List Value} {G : va_G}  {cI cS : ClassId}  {p0 : Int32} {r : Int32} (S : CallFix p m c cc nL s args bw RX4) (hK : va_K G vwCl (tysW cI cS) s) (hN : NW s) (hP : va_P G vwCl wE H) (hf : fX4_pageIn p0 = some r) (hsz : ls.size = nL) (hst : (rest.map fun v => v.category).sum ≤ 8) (hR : rmX4_pageIn.frames + 1 ≤ R.frames ∧ 8 + (1 + 11) + rmX4_pageIn.locals ≤ R.locals) (hdg : decode cc pc = .ok (.invokestatic 167, 3)) (hcs : cells + 0 ≤ R.cells ∧ slots + 0 ≤ R.slots) : va_Run p l e R s m args below meth c H locs cells slots 0 0 (F0 m pc ls (.int p0 :: rest)) rest (vp_Si (fun r' => r' = r) (#[.int p0] : Array Value)) (fun _ => False) :=
  va_runS (As := [.int p0]) (rest := rest) S (kX4_pageIn l G cI cS p0 r hf) (cwS 1 S.2.2.2.2 (gdS q_179 q_84 q_49 q_82) rfl rfl rfl (by decide +kernel) hR) (psR hK hN hP) rfl rfl hsz rfl (lv_room hst) hdg hcs
theorem cc_X4_170 {p : Program} {l : Launch} {e : Env} {R : Room} {s : State} {m : MethodId} {args : Array Value} {below : List Frame} {meth : Method} {c : Code} {H : Heap} {locs : List Loc} {cells slots : Nat} {cc : ByteArray} {pc nL : Nat} {ls : Array Slot} {rest : List Value} {G : va_G}  {cI cS : ClassId}  {p0 : Int32} {r : Int32} (S : CallFix p m c cc nL s args bw RX4) (hK : va_K G vwCl (tysW cI cS) s) (hN : NW s) (hP : va_P G vwCl wE H) (hf : fX4_slotIn p0 = some r) (hsz : ls.size = nL) (hst : (rest.map fun v => v.category).sum ≤ 8) (hR : rmX4_slotIn.frames + 1 ≤ R.frames ∧ 8 + (1 + 11) + rmX4_slotIn.locals ≤ R.locals) (hdg : decode cc pc = .ok (.invokestatic 170, 3)) (hcs : cells + 0 ≤ R.cells ∧ slots + 0 ≤ R.slots) : va_Run p l e R s m args below meth c H locs cells slots 0 0 (F0 m pc ls (.int p0 :: rest)) rest (vp_Si (fun r' => r' = r) (#[.int p0] : Array Value)) (fun _ => False) :=
  va_runS (As := [.int p0]) (rest := rest) S (kX4_slotIn l G cI cS p0 r hf) (cwS 1 S.2.2.2.2 (gdS q_180 q_85 q_49 q_83) rfl rfl rfl (by decide +kernel) hR) (psR hK hN hP) rfl rfl hsz rfl (lv_room hst) hdg hcs
def fX4_writeHead (u : TH) (p0 : Int32) (p1 : Int32) : Option (TH) := ((fX0_empty 63 u.2.2.2.1).bind fun z1 => ((fX0_add 63 z1 p0).bind fun z2 => ((fX4_pageIn p1).bind fun z3 => ((fX0_add 63 z2 z3).bind fun z4 => ((fX4_slotIn p1).bind fun z5 => ((fX0_add 63 z4 z5).bind fun z6 => some (u.1, u.2.1, u.2.2.1, z6, u.2.2.2.2)))))))
abbrev rmX4_writeHead : Room := { frames := 1, cells := 0, slots := 0, locals := 21 }
set_option maxRecDepth 100000 in
set_option maxHeartbeats 4000000 in
theorem kX4_writeHead (l : Launch) (G : va_G) (cI cS : ClassId) (sv : Nat) (ga : Nat → Nat) (sz : Nat) (u : TH) (p0 : Int32) (p1 : Int32) (r : TH) (hf : fX4_writeHead u p0 p1 = some r) : Met l yX4_writeHead (.code yX4_writeHead cX4_writeHead 3 none :: bw) rmX4_writeHead (va_Pc [.ref (ga 0), .int p0, .int p1] (PreM G (tysW cI cS) (wH cI sv ga u) sz)) (va_Qv (fun u' => u' = r) (PoM G (tysW cI cS) (va_A (wH cI sv ga u) sz) (wH cI sv ga)) (va_A (wH cI sv ga u) sz)) 0 0 (va_A (wH cI sv ga u) sz) := by
  refine enterM (own := RX4) (by decide) rfl (Nat.le_of_ble_eq_true rfl) ?_
  intro p e s m args below meth c A Q hAe hQ S hr hlocks hP hK hN hD hA hS ls hl
  rw [hAe] at hQ
  have hx := S.1; have hb := S.2.1; have hml := S.2.2.1; have hown := S.2.2.2.1; have hq := S.2.2.2.2
  have hl : lv_has ls 3 [(0, .ref (ga 0)), (1, .int p0), (2, .int p1)] := hl
  have h := hf
  unfold fX4_writeHead at h
  refine lv_aload_n hx hb dX4_writeHead_0 rfl (lv_at hl 0 rfl) ?_
  refine gf_X4_33 S hK hN hP 0 rfl (v := .ref (ga 10)) rfl dX4_writeHead_1 ?_
  obtain ⟨z1, e_z1, h⟩ := bnd h
  refine mjv (cc_X4_58 (ga 10) (ga 11) 63 S hK hN (hP.sub [10, 11] rfl) (hD.sub [10, 11] (by decide) rfl) e_z1 hl.1 (Nat.le_of_ble_eq_true rfl) ⟨Nat.le_of_ble_eq_true rfl, Nat.le_of_ble_eq_true rfl⟩ dX4_writeHead_4 ⟨Nat.le_of_ble_eq_true rfl, Nat.le_of_ble_eq_true rfl⟩) hS hP hD hA [10, 11] [0, 1, 2, 3, 4, 5, 6, 7, 8, 9, 12] rfl rfl (by decide) (by decide) [0, 1, 2, 3, 4, 5, 6, 7, 8, 9, 11, 12, 10] (by decide) (wH cI sv ga (u.1, u.2.1, u.2.2.1, z1, u.2.2.2.2)) rfl (fun H locs hP hD hS => ?_)
  refine lv_aload_n hx hb dX4_writeHead_7 rfl (lv_at hl 0 rfl) ?_
  refine gf_X4_33 S hK hN hP 0 rfl (v := .ref (ga 10)) rfl dX4_writeHead_8 ?_
  refine lv_iload_n hx hb dX4_writeHead_11 rfl (lv_at hl 1 rfl) ?_
  obtain ⟨z2, e_z2, h⟩ := bnd h
  refine mjv (cc_X4_75 (ga 10) (ga 11) 63 S hK hN (hP.sub [10, 11] rfl) (hD.sub [10, 11] (by decide) rfl) e_z2 hl.1 (Nat.le_of_ble_eq_true rfl) ⟨Nat.le_of_ble_eq_true rfl, Nat.le_of_ble_eq_true rfl⟩ dX4_writeHead_12 ⟨Nat.le_of_ble_eq_true rfl, Nat.le_of_ble_eq_true rfl⟩) hS hP hD hA [10, 11] [0, 1, 2, 3, 4, 5, 6, 7, 8, 9, 12] rfl rfl (by decide) (by decide) [0, 1, 2, 3, 4, 5, 6, 7, 8, 9, 11, 12, 10] (by decide) (wH cI sv ga (u.1, u.2.1, u.2.2.1, z2, u.2.2.2.2)) rfl (fun H locs hP hD hS => ?_)
  refine lv_aload_n hx hb dX4_writeHead_15 rfl (lv_at hl 0 rfl) ?_
  refine gf_X4_33 S hK hN hP 0 rfl (v := .ref (ga 10)) rfl dX4_writeHead_16 ?_
  refine lv_iload_n hx hb dX4_writeHead_19 rfl (lv_at hl 2 rfl) ?_
  obtain ⟨z3, e_z3, h⟩ := bnd h
  refine roI (cc_X4_167 S hK hN va_P0 e_z3 hl.1 (Nat.le_of_ble_eq_true rfl) ⟨Nat.le_of_ble_eq_true rfl, Nat.le_of_ble_eq_true rfl⟩ dX4_writeHead_20 ⟨Nat.le_of_ble_eq_true rfl, Nat.le_of_ble_eq_true rfl⟩) ?_
  obtain ⟨z4, e_z4, h⟩ := bnd h
  refine mjv (cc_X4_75 (ga 10) (ga 11) 63 S hK hN (hP.sub [10, 11] rfl) (hD.sub [10, 11] (by decide) rfl) e_z4 hl.1 (Nat.le_of_ble_eq_true rfl) ⟨Nat.le_of_ble_eq_true rfl, Nat.le_of_ble_eq_true rfl⟩ dX4_writeHead_23 ⟨Nat.le_of_ble_eq_true rfl, Nat.le_of_ble_eq_true rfl⟩) hS hP hD hA [10, 11] [0, 1, 2, 3, 4, 5, 6, 7, 8, 9, 12] rfl rfl (by decide) (by decide) [0, 1, 2, 3, 4, 5, 6, 7, 8, 9, 11, 12, 10] (by decide) (wH cI sv ga (u.1, u.2.1, u.2.2.1, z4, u.2.2.2.2)) rfl (fun H locs hP hD hS => ?_)
  refine lv_aload_n hx hb dX4_writeHead_26 rfl (lv_at hl 0 rfl) ?_
  refine gf_X4_33 S hK hN hP 0 rfl (v := .ref (ga 10)) rfl dX4_writeHead_27 ?_
  refine lv_iload_n hx hb dX4_writeHead_30 rfl (lv_at hl 2 rfl) ?_
  obtain ⟨z5, e_z5, h⟩ := bnd h
  refine roI (cc_X4_170 S hK hN va_P0 e_z5 hl.1 (Nat.le_of_ble_eq_true rfl) ⟨Nat.le_of_ble_eq_true rfl, Nat.le_of_ble_eq_true rfl⟩ dX4_writeHead_31 ⟨Nat.le_of_ble_eq_true rfl, Nat.le_of_ble_eq_true rfl⟩) ?_
  obtain ⟨z6, e_z6, h⟩ := bnd h
  refine mjv (cc_X4_75 (ga 10) (ga 11) 63 S hK hN (hP.sub [10, 11] rfl) (hD.sub [10, 11] (by decide) rfl) e_z6 hl.1 (Nat.le_of_ble_eq_true rfl) ⟨Nat.le_of_ble_eq_true rfl, Nat.le_of_ble_eq_true rfl⟩ dX4_writeHead_34 ⟨Nat.le_of_ble_eq_true rfl, Nat.le_of_ble_eq_true rfl⟩) hS hP hD hA [10, 11] [0, 1, 2, 3, 4, 5, 6, 7, 8, 9, 12] rfl rfl (by decide) (by decide) [0, 1, 2, 3, 4, 5, 6, 7, 8, 9, 11, 12, 10] (by decide) (wH cI sv ga (u.1, u.2.1, u.2.2.1, z6, u.2.2.2.2)) rfl (fun H locs hP hD hS => ?_)
  exact retMv hQ S hr hlocks hK hN hP hD hS h dX4_writeHead_37

theorem cc_X4_278 {p : Program} {l : Launch} {e : Env} {R : Room} {s : State} {m : MethodId} {args : Array Value} {below : List Frame} {meth : Method} {c : Code} {H : Heap} {locs : List Loc} {cells slots : Nat} {cc : ByteArray} {pc nL : Nat} {ls : Array Slot} {rest : List Value} {G : va_G} {A : Nat → Prop} (sv : Nat) (ga : Nat → Nat) {cI cS : ClassId} {u : TH}  {p0 : Int32} {p1 : Int32} {r : TH} (S : CallFix p m c cc nL s args bw RX4) (hK : va_K G vwCl (tysW cI cS) s) (hN : NW s) (hP : va_P G vwCl (wH cI sv ga u) H) (hD : va_D A (wH cI sv ga u)) (hf : fX4_writeHead u p0 p1 = some r) (hsz : ls.size = nL) (hst : (rest.map fun v => v.category).sum ≤ 8) (hR : rmX4_writeHead.frames + 1 ≤ R.frames ∧ 8 + (3 + 11) + rmX4_writeHead.locals ≤ R.locals) (hdg : decode cc pc = .ok (.invokevirtual 278, 3)) (hcs : cells + 0 ≤ R.cells ∧ slots + 0 ≤ R.slots) : va_Run p l e R s m args below meth c H locs cells slots 0 0 (F0 m pc ls (.int p1 :: .int p0 :: .ref (ga 0) :: rest)) rest (va_Qv (fun u' => u' = r) (PoM G (tysW cI cS) (va_A (wH cI sv ga u) H.size) (wH cI sv ga)) (va_A (wH cI sv ga u) H.size) (#[.ref (ga 0), .int p0, .int p1] : Array Value)) (va_A (wH cI sv ga u) H.size) :=
  va_runV (As := [.int p0, .int p1]) (rest := rest) S (kX4_writeHead l G cI cS sv ga H.size u p0 p1 r hf) (cwV 2 S.2.2.2.2 (gdV q_218 q_219 q_220 q_49 q_217) rfl rfl rfl (by decide +kernel) hR) (pvM (q := (RX4, TX4, 8)) hK hN hP hD (ci := 4) (q0 := 0) rfl rfl) rfl rfl hsz rfl (lv_room hst) hdg hcs
theorem cc_X4_304 {p : Program} {l : Launch} {e : Env} {R : Room} {s : State} {m : MethodId} {args : Array Value} {below : List Frame} {meth : Method} {c : Code} {H : Heap} {locs : List Loc} {cells slots : Nat} {cc : ByteArray} {pc nL : Nat} {ls : Array Slot} {rest : List Value} {G : va_G} {A : Nat → Prop} (g0 g1 g2 g3 g4 : Nat) {cI cS : ClassId} {u : TP}  {p0 : Int32} {r : TP} (S : CallFix p m c cc nL s args bw RX4) (hK : va_K G vwCl (tysW cI cS) s) (hN : NW s) (hP : va_P G vwCl (wP cI g0 g1 g2 g3 g4 u) H) (hD : va_D A (wP cI g0 g1 g2 g3 g4 u)) (hf : fX2_removeRecord u p0 = some r) (hsz : ls.size = nL) (hst : (rest.map fun v => v.category).sum ≤ 8) (hR : rmX2_removeRecord.frames + 1 ≤ R.frames ∧ 8 + (4 + 11) + rmX2_removeRecord.locals ≤ R.locals) (hdg : decode cc pc = .ok (.invokevirtual 304, 3)) (hcs : cells + 0 ≤ R.cells ∧ slots + 0 ≤ R.slots) : va_Run p l e R s m args below meth c H locs cells slots 0 0 (F0 m pc ls (.int p0 :: .ref g0 :: rest)) rest (va_Qv (fun u' => u' = r) (PoM G (tysW cI cS) (va_A (wP cI g0 g1 g2 g3 g4 u) H.size) (wP cI g0 g1 g2 g3 g4)) (va_A (wP cI g0 g1 g2 g3 g4 u) H.size) (#[.ref g0, .int p0] : Array Value)) (va_A (wP cI g0 g1 g2 g3 g4 u) H.size) :=
  va_runVN (As := [.int p0]) (rest := rest) S (kX2_removeRecord l G cI cS g0 g1 g2 g3 g4 H.size u p0 r hf) ⟨va_cnB 1 S.2.2.2.2 (gdC q_89) rfl rfl rfl (hN _ nq_43) (S.2.2.2.2 _ q_56) (by decide +kernel) hR, S.2.2.2.2 _ q_214, S.2.2.2.2 _ q_215⟩ (pvM (q := (RX2, TX2, 2)) hK hN hP hD (ci := 2) (q0 := 0) rfl rfl) rfl rfl hsz rfl (lv_room hst) hdg hcs
theorem cc_X4_307 {p : Program} {l : Launch} {e : Env} {R : Room} {s : State} {m : MethodId} {args : Array Value} {below : List Frame} {meth : Method} {c : Code} {H : Heap} {locs : List Loc} {cells slots : Nat} {cc : ByteArray} {pc nL : Nat} {ls : Array Slot} {rest : List Value} {G : va_G} {A : Nat → Prop} (g0 g1 : Nat) {cI cS : ClassId} {u : TS}  {p0 : Int32} {p1 : Int32} {p2 : Int32} {p3 : Int32} {r : TS} (S : CallFix p m c cc nL s args bw RX4) (hK : va_K G vwCl (tysW cI cS) s) (hN : NW s) (hP : va_P G vwCl (wS cI g0 g1 u) H) (hD : va_D A (wS cI g0 g1 u)) (hf : fX3_setRecordByte u p0 p1 p2 p3 = some r) (hsz : ls.size = nL) (hst : (rest.map fun v => v.category).sum ≤ 8) (hR : rmX3_setRecordByte.frames + 1 ≤ R.frames ∧ 8 + (5 + 11) + rmX3_setRecordByte.locals ≤ R.locals) (hdg : decode cc pc = .ok (.invokevirtual 307, 3)) (hcs : cells + 0 ≤ R.cells ∧ slots + 0 ≤ R.slots) : va_Run p l e R s m args below meth c H locs cells slots 0 0 (F0 m pc ls (.int p3 :: .int p2 :: .int p1 :: .int p0 :: .ref g0 :: rest)) rest (va_Qv (fun u' => u' = r) (PoM G (tysW cI cS) (va_A (wS cI g0 g1 u) H.size) (wS cI g0 g1)) (va_A (wS cI g0 g1 u) H.size) (#[.ref g0, .int p0, .int p1, .int p2, .int p3] : Array Value)) (va_A (wS cI g0 g1 u) H.size) :=
  va_runVN (As := [.int p0, .int p1, .int p2, .int p3]) (rest := rest) S (kX3_setRecordByte l G cI cS g0 g1 H.size u p0 p1 p2 p3 r hf) ⟨va_cnB 4 S.2.2.2.2 (gdC q_102) rfl rfl rfl (hN _ nq_44) (S.2.2.2.2 _ q_35) (by decide +kernel) hR, S.2.2.2.2 _ q_222, S.2.2.2.2 _ q_223⟩ (pvM (q := (RX3, TX3, 5)) hK hN hP hD (ci := 3) (q0 := 0) rfl rfl) rfl rfl hsz rfl (lv_room hst) hdg hcs
def fX4_leaveNote (u : TH) (p0 : Int32) (p1 : Int32) (p2 : Int32) : Option (TH) := (if p1 = p0 then ((fX4_writeHead u (2 : Int32) p2).bind fun z11 => ((fX2_putRecord 63 (z11.1, z11.2.2.2.1) p0).bind fun z12 => some (z12.1, z11.2.1, z11.2.2.1, z12.2, z11.2.2.2.2))) else ((fX2_removeRecord u.1 p1).bind fun z2 => ((fX4_pageIn p0).bind fun z3 => ((fX4_slotIn p0).bind fun z4 => ((fX4_pageIn p2).bind fun z5 => ((fX3_setRecordByte z2.1 z3 z4 (1 : Int32) z5).bind fun z6 => ((fX4_pageIn p0).bind fun z7 => ((fX4_slotIn p0).bind fun z8 => ((fX4_slotIn p2).bind fun z9 => ((fX3_setRecordByte z6 z7 z8 (2 : Int32) z9).bind fun z10 => some ((z10, z2.2), u.2)))))))))))
abbrev rmX4_leaveNote : Room := { frames := 3, cells := 0, slots := 0, locals := 94 }
set_option maxRecDepth 100000 in
set_option maxHeartbeats 4000000 in
theorem kX4_leaveNote (l : Launch) (G : va_G) (cI cS : ClassId) (sv : Nat) (ga : Nat → Nat) (sz : Nat) (u : TH) (p0 : Int32) (p1 : Int32) (p2 : Int32) (r : TH) (hf : fX4_leaveNote u p0 p1 p2 = some r) : Met l yX4_leaveNote (.code yX4_leaveNote cX4_leaveNote 4 none :: bw) rmX4_leaveNote (va_Pc [.ref (ga 0), .int p0, .int p1, .int p2] (PreM G (tysW cI cS) (wH cI sv ga u) sz)) (va_Qv (fun u' => u' = r) (PoM G (tysW cI cS) (va_A (wH cI sv ga u) sz) (wH cI sv ga)) (va_A (wH cI sv ga u) sz)) 0 0 (va_A (wH cI sv ga u) sz) := by
  refine enterM (own := RX4) (by decide) rfl (Nat.le_of_ble_eq_true rfl) ?_
  intro p e s m args below meth c A Q hAe hQ S hr hlocks hP hK hN hD hA hS ls hl
  rw [hAe] at hQ
  have hx := S.1; have hb := S.2.1; have hml := S.2.2.1; have hown := S.2.2.2.1; have hq := S.2.2.2.2
  have hl : lv_has ls 4 [(0, .ref (ga 0)), (1, .int p0), (2, .int p1), (3, .int p2)] := hl
  have h := hf
  unfold fX4_leaveNote at h
  refine lv_iload_n hx hb dX4_leaveNote_0 rfl (lv_at hl 2 rfl) ?_
  refine lv_iload_n hx hb dX4_leaveNote_1 rfl (lv_at hl 1 rfl) ?_
  refine lv_icmp_ne (tgt := 24) hx hb dX4_leaveNote_2 (by decide) (fun c1 => ?_) (fun c1 => ?_)
  · have h := (if_neg c1).symm.trans h
    refine lv_aload_n hx hb dX4_leaveNote_24 rfl (lv_at hl 0 rfl) ?_
    refine gf_X4_12 S hK hN hP 0 rfl (v := .ref (ga 1)) rfl dX4_leaveNote_25 ?_
    refine lv_iload_n hx hb dX4_leaveNote_28 rfl (lv_at hl 2 rfl) ?_
    obtain ⟨z2, e_z2, h⟩ := bnd h
    refine mjv (cc_X4_304 (ga 1) (ga 2) (ga 3) (ga 4) (ga 5) S hK hN (hP.sub [1, 2, 3, 4, 5] rfl) (hD.sub [1, 2, 3, 4, 5] (by decide) rfl) e_z2 hl.1 (Nat.le_of_ble_eq_true rfl) ⟨Nat.le_of_ble_eq_true rfl, Nat.le_of_ble_eq_true rfl⟩ dX4_leaveNote_29 ⟨Nat.le_of_ble_eq_true rfl, Nat.le_of_ble_eq_true rfl⟩) hS hP hD hA [1, 2, 3, 4, 5] [0, 6, 7, 8, 9, 10, 11, 12] rfl rfl (by decide) (by decide) [0, 8, 9, 10, 11, 12, 1, 2, 3, 4, 5, 6, 7] (by decide) (wH cI sv ga (z2, u.2)) rfl (fun H locs hP hD hS => ?_)
    refine lv_aload_n hx hb dX4_leaveNote_32 rfl (lv_at hl 0 rfl) ?_
    refine gf_X4_20 S hK hN hP 0 rfl (v := .ref (ga 2)) rfl dX4_leaveNote_33 ?_
    refine lv_iload_n hx hb dX4_leaveNote_36 rfl (lv_at hl 1 rfl) ?_
    obtain ⟨z3, e_z3, h⟩ := bnd h
    refine roI (cc_X4_167 S hK hN va_P0 e_z3 hl.1 (Nat.le_of_ble_eq_true rfl) ⟨Nat.le_of_ble_eq_true rfl, Nat.le_of_ble_eq_true rfl⟩ dX4_leaveNote_37 ⟨Nat.le_of_ble_eq_true rfl, Nat.le_of_ble_eq_true rfl⟩) ?_
    refine lv_iload_n hx hb dX4_leaveNote_40 rfl (lv_at hl 1 rfl) ?_
    obtain ⟨z4, e_z4, h⟩ := bnd h
    refine roI (cc_X4_170 S hK hN va_P0 e_z4 hl.1 (Nat.le_of_ble_eq_true rfl) ⟨Nat.le_of_ble_eq_true rfl, Nat.le_of_ble_eq_true rfl⟩ dX4_leaveNote_41 ⟨Nat.le_of_ble_eq_true rfl, Nat.le_of_ble_eq_true rfl⟩) ?_
    refine lv_iconst (v := 1) hx hb dX4_leaveNote_44 (by decide) ?_
    refine lv_iload_n hx hb dX4_leaveNote_45 rfl (lv_at hl 3 rfl) ?_
    obtain ⟨z5, e_z5, h⟩ := bnd h
    refine roI (cc_X4_167 S hK hN va_P0 e_z5 hl.1 (Nat.le_of_ble_eq_true rfl) ⟨Nat.le_of_ble_eq_true rfl, Nat.le_of_ble_eq_true rfl⟩ dX4_leaveNote_46 ⟨Nat.le_of_ble_eq_true rfl, Nat.le_of_ble_eq_true rfl⟩) ?_
    obtain ⟨z6, e_z6, h⟩ := bnd h
    refine mjv (cc_X4_307 (ga 2) (ga 3) S hK hN (hP.sub [2, 3] rfl) (hD.sub [2, 3] (by decide) rfl) e_z6 hl.1 (Nat.le_of_ble_eq_true rfl) ⟨Nat.le_of_ble_eq_true rfl, Nat.le_of_ble_eq_true rfl⟩ dX4_leaveNote_49 ⟨Nat.le_of_ble_eq_true rfl, Nat.le_of_ble_eq_true rfl⟩) hS hP hD hA [2, 3] [0, 1, 4, 5, 6, 7, 8, 9, 10, 11, 12] rfl rfl (by decide) (by decide) [0, 1, 11, 12, 2, 3, 4, 5, 6, 7, 8, 9, 10] (by decide) (wH cI sv ga ((z6, z2.2), u.2)) rfl (fun H locs hP hD hS => ?_)
    refine lv_aload_n hx hb dX4_leaveNote_52 rfl (lv_at hl 0 rfl) ?_
    refine gf_X4_20 S hK hN hP 0 rfl (v := .ref (ga 2)) rfl dX4_leaveNote_53 ?_
    refine lv_iload_n hx hb dX4_leaveNote_56 rfl (lv_at hl 1 rfl) ?_
    obtain ⟨z7, e_z7, h⟩ := bnd h
    refine roI (cc_X4_167 S hK hN va_P0 e_z7 hl.1 (Nat.le_of_ble_eq_true rfl) ⟨Nat.le_of_ble_eq_true rfl, Nat.le_of_ble_eq_true rfl⟩ dX4_leaveNote_57 ⟨Nat.le_of_ble_eq_true rfl, Nat.le_of_ble_eq_true rfl⟩) ?_
    refine lv_iload_n hx hb dX4_leaveNote_60 rfl (lv_at hl 1 rfl) ?_
    obtain ⟨z8, e_z8, h⟩ := bnd h
    refine roI (cc_X4_170 S hK hN va_P0 e_z8 hl.1 (Nat.le_of_ble_eq_true rfl) ⟨Nat.le_of_ble_eq_true rfl, Nat.le_of_ble_eq_true rfl⟩ dX4_leaveNote_61 ⟨Nat.le_of_ble_eq_true rfl, Nat.le_of_ble_eq_true rfl⟩) ?_
    refine lv_iconst (v := 2) hx hb dX4_leaveNote_64 (by decide) ?_
    refine lv_iload_n hx hb dX4_leaveNote_65 rfl (lv_at hl 3 rfl) ?_
    obtain ⟨z9, e_z9, h⟩ := bnd h
    refine roI (cc_X4_170 S hK hN va_P0 e_z9 hl.1 (Nat.le_of_ble_eq_true rfl) ⟨Nat.le_of_ble_eq_true rfl, Nat.le_of_ble_eq_true rfl⟩ dX4_leaveNote_66 ⟨Nat.le_of_ble_eq_true rfl, Nat.le_of_ble_eq_true rfl⟩) ?_
    obtain ⟨z10, e_z10, h⟩ := bnd h
    refine mjv (cc_X4_307 (ga 2) (ga 3) S hK hN (hP.sub [2, 3] rfl) (hD.sub [2, 3] (by decide) rfl) e_z10 hl.1 (Nat.le_of_ble_eq_true rfl) ⟨Nat.le_of_ble_eq_true rfl, Nat.le_of_ble_eq_true rfl⟩ dX4_leaveNote_69 ⟨Nat.le_of_ble_eq_true rfl, Nat.le_of_ble_eq_true rfl⟩) hS hP hD hA [2, 3] [0, 1, 4, 5, 6, 7, 8, 9, 10, 11, 12] rfl rfl (by decide) (by decide) [0, 1, 11, 12, 2, 3, 4, 5, 6, 7, 8, 9, 10] (by decide) (wH cI sv ga ((z10, z2.2), u.2)) rfl (fun H locs hP hD hS => ?_)
    exact retMv hQ S hr hlocks hK hN hP hD hS h dX4_leaveNote_72
  · have h := (if_pos c1).symm.trans h
    refine lv_aload_n hx hb dX4_leaveNote_5 rfl (lv_at hl 0 rfl) ?_
    refine lv_iconst (v := 2) hx hb dX4_leaveNote_6 (by decide) ?_
    refine lv_iload_n hx hb dX4_leaveNote_7 rfl (lv_at hl 3 rfl) ?_
    obtain ⟨z11, e_z11, h⟩ := bnd h
    refine muv (cc_X4_278 sv ga S hK hN hP hD e_z11 hl.1 (Nat.le_of_ble_eq_true rfl) ⟨Nat.le_of_ble_eq_true rfl, Nat.le_of_ble_eq_true rfl⟩ dX4_leaveNote_8 ⟨Nat.le_of_ble_eq_true rfl, Nat.le_of_ble_eq_true rfl⟩) hS hD (va_free hD hS hA [0, 1, 2, 3, 4, 5, 6, 7, 8, 9, 10, 11, 12] rfl) (fun H locs hP hD hS => ?_)
    have hP : va_P G vwCl (wH cI sv ga z11) H := hP
    have hD : va_D A (wH cI sv ga z11) := hD
    refine lv_aload_n hx hb dX4_leaveNote_11 rfl (lv_at hl 0 rfl) ?_
    refine gf_X4_12 S hK hN hP 0 rfl (v := .ref (ga 1)) rfl dX4_leaveNote_12 ?_
    refine lv_iload_n hx hb dX4_leaveNote_15 rfl (lv_at hl 1 rfl) ?_
    refine lv_aload_n hx hb dX4_leaveNote_16 rfl (lv_at hl 0 rfl) ?_
    refine gf_X4_33 S hK hN hP 0 rfl (v := .ref (ga 10)) rfl dX4_leaveNote_17 ?_
    obtain ⟨z12, e_z12, h⟩ := bnd h
    refine mjv (cc_X4_287 (ga 1) (ga 2) (ga 3) (ga 4) (ga 5) (ga 10) (ga 11) 63 S hK hN (hP.sub [1, 2, 3, 4, 5, 10, 11] rfl) (hD.sub [1, 2, 3, 4, 5, 10, 11] (by decide) rfl) e_z12 hl.1 (Nat.le_of_ble_eq_true rfl) ⟨Nat.le_of_ble_eq_true rfl, Nat.le_of_ble_eq_true rfl⟩ dX4_leaveNote_20 ⟨Nat.le_of_ble_eq_true rfl, Nat.le_of_ble_eq_true rfl⟩) hS hP hD hA [1, 2, 3, 4, 5, 10, 11] [0, 6, 7, 8, 9, 12] rfl rfl (by decide) (by decide) [0, 6, 7, 8, 9, 10, 1, 2, 3, 4, 11, 12, 5] (by decide) (wH cI sv ga (z12.1, z11.2.1, z11.2.2.1, z12.2, z11.2.2.2.2)) rfl (fun H locs hP hD hS => ?_)
    exact retMv hQ S hr hlocks hK hN hP hD hS h dX4_leaveNote_23

theorem cc_X4_146 {p : Program} {l : Launch} {e : Env} {R : Room} {s : State} {m : MethodId} {args : Array Value} {below : List Frame} {meth : Method} {c : Code} {H : Heap} {locs : List Loc} {cells slots : Nat} {cc : ByteArray} {pc nL : Nat} {ls : Array Slot} {rest : List Value} {G : va_G} (g0 g1 : Nat) {cI cS : ClassId} {u : TS}  {p0 : Int32} {r : Int32} (S : CallFix p m c cc nL s args bw RX4) (hK : va_K G vwCl (tysW cI cS) s) (hN : NW s) (hP : va_P G vwCl (wS cI g0 g1 u) H) (hf : fX3_slotCount u p0 = some r) (hsz : ls.size = nL) (hst : (rest.map fun v => v.category).sum ≤ 8) (hR : rmX3_slotCount.frames + 1 ≤ R.frames ∧ 8 + (3 + 11) + rmX3_slotCount.locals ≤ R.locals) (hdg : decode cc pc = .ok (.invokevirtual 146, 3)) (hcs : cells + 0 ≤ R.cells ∧ slots + 0 ≤ R.slots) : va_Run p l e R s m args below meth c H locs cells slots 0 0 (F0 m pc ls (.int p0 :: .ref g0 :: rest)) rest (vp_Si (fun r' => r' = r) (#[.ref g0, .int p0] : Array Value)) (fun _ => False) :=
  va_runVN (As := [.int p0]) (rest := rest) S (kX3_slotCount l G cI cS g0 g1 u p0 r hf) ⟨va_cnB 1 S.2.2.2.2 (gdC q_42) rfl rfl rfl (hN _ nq_15) (S.2.2.2.2 _ q_35) (by decide +kernel) hR, S.2.2.2.2 _ q_46, S.2.2.2.2 _ q_47⟩ (pvR (q := (RX3, TX3, 5)) hK hN hP (ci := 3) (q0 := 0) rfl rfl) rfl rfl hsz rfl (lv_room hst) hdg hcs
theorem cc_X4_173 {p : Program} {l : Launch} {e : Env} {R : Room} {s : State} {m : MethodId} {args : Array Value} {below : List Frame} {meth : Method} {c : Code} {H : Heap} {locs : List Loc} {cells slots : Nat} {cc : ByteArray} {pc nL : Nat} {ls : Array Slot} {rest : List Value} {G : va_G} (g0 g1 : Nat) {cI cS : ClassId} {u : TS}  {p0 : Int32} {p1 : Int32} {r : Int32} (S : CallFix p m c cc nL s args bw RX4) (hK : va_K G vwCl (tysW cI cS) s) (hN : NW s) (hP : va_P G vwCl (wS cI g0 g1 u) H) (hf : fX3_sizeOf u p0 p1 = some r) (hsz : ls.size = nL) (hst : (rest.map fun v => v.category).sum ≤ 8) (hR : rmX3_sizeOf.frames + 1 ≤ R.frames ∧ 8 + (4 + 11) + rmX3_sizeOf.locals ≤ R.locals) (hdg : decode cc pc = .ok (.invokevirtual 173, 3)) (hcs : cells + 0 ≤ R.cells ∧ slots + 0 ≤ R.slots) : va_Run p l e R s m args below meth c H locs cells slots 0 0 (F0 m pc ls (.int p1 :: .int p0 :: .ref g0 :: rest)) rest (vp_Si (fun r' => r' = r) (#[.ref g0, .int p0, .int p1] : Array Value)) (fun _ => False) :=
  va_runVN (As := [.int p0, .int p1]) (rest := rest) S (kX3_sizeOf l G cI cS g0 g1 u p0 p1 r hf) ⟨va_cnB 2 S.2.2.2.2 (gdC q_44) rfl rfl rfl (hN _ nq_16) (S.2.2.2.2 _ q_35) (by decide +kernel) hR, S.2.2.2.2 _ q_50, S.2.2.2.2 _ q_51⟩ (pvR (q := (RX3, TX3, 5)) hK hN hP (ci := 3) (q0 := 0) rfl rfl) rfl rfl hsz rfl (lv_room hst) hdg hcs
theorem cc_X4_176 {p : Program} {l : Launch} {e : Env} {R : Room} {s : State} {m : MethodId} {args : Array Value} {below : List Frame} {meth : Method} {c : Code} {H : Heap} {locs : List Loc} {cells slots : Nat} {cc : ByteArray} {pc nL : Nat} {ls : Array Slot} {rest : List Value} {G : va_G} (g0 g1 : Nat) {cI cS : ClassId} {u : TS}  {p0 : Int32} {p1 : Int32} {p2 : Int32} {r : Int32} (S : CallFix p m c cc nL s args bw RX4) (hK : va_K G vwCl (tysW cI cS) s) (hN : NW s) (hP : va_P G vwCl (wS cI g0 g1 u) H) (hf : fX3_recordByte u p0 p1 p2 = some r) (hsz : ls.size = nL) (hst : (rest.map fun v => v.category).sum ≤ 8) (hR : rmX3_recordByte.frames + 1 ≤ R.frames ∧ 8 + (4 + 11) + rmX3_recordByte.locals ≤ R.locals) (hdg : decode cc pc = .ok (.invokevirtual 176, 3)) (hcs : cells + 0 ≤ R.cells ∧ slots + 0 ≤ R.slots) : va_Run p l e R s m args below meth c H locs cells slots 0 0 (F0 m pc ls (.int p2 :: .int p1 :: .int p0 :: .ref g0 :: rest)) rest (vp_Si (fun r' => r' = r) (#[.ref g0, .int p0, .int p1, .int p2] : Array Value)) (fun _ => False) :=
  va_runVN (As := [.int p0, .int p1, .int p2]) (rest := rest) S (kX3_recordByte l G cI cS g0 g1 u p0 p1 p2 r hf) ⟨va_cnB 3 S.2.2.2.2 (gdC q_99) rfl rfl rfl (hN _ nq_17) (S.2.2.2.2 _ q_35) (by decide +kernel) hR, S.2.2.2.2 _ q_181, S.2.2.2.2 _ q_182⟩ (pvR (q := (RX3, TX3, 5)) hK hN hP (ci := 3) (q0 := 0) rfl rfl) rfl rfl hsz rfl (lv_room hst) hdg hcs
theorem gf_X4_143 {p : Program} {l : Launch} {e : Env} {R : Room} {s : State} {m : MethodId} {args : Array Value} {below : List Frame} {meth : Method} {c : Code} {H : Heap} {locs : List Loc} {cells slots : Nat} {cc : ByteArray} {pc nL : Nat} {ls : Array Slot} {rest : List Value} {G : va_G} {Q : State → Prop} {tys : List (ClassId × FieldType)} {ws : va_W} {a : Nat} (S : CallFix p m c cc nL s args bw RX4) (hK : va_K G vwCl tys s) (hN : NW s) (hP : va_P G vwCl ws H) (q0 : Nat) {fs : List Value} (he : ws[q0]? = some (a, .inr (3, fs))) {v : Value} (hv : fs[1]? = some v) (hdg : decode cc pc = .ok (.getfield 143, 3)) (kk : W p l e R s m args below meth c H locs cells slots Q (F0 m (pc + 3) ls (v :: rest))) : W p l e R s m args below meth c H locs cells slots Q (F0 m pc ls (.ref a :: rest)) :=
  va_getN (C := RX3) (T := TX3) (N := 5) S.1 S.2.1 S.2.2.2.2 bi_U3 S.2.2.2.1 hK hP q0 he rfl 1 (by decide) (va_Nw.use rfl (hN _ nq_3)) (fun _ h9 => h9) hv hdg kk
def fX4_kind (u : TH) (p0 : Int32) : Option (Int32) := (if 0 ≤ p0 then ((fX4_pageIn p0).bind fun z2 => ((fX4_slotIn p0).bind fun z3 => (if u.1.1.1.1 ≤ z2 then some (0 : Int32) else ((fX3_slotCount u.1.1 z2).bind fun z5 => (if z5 ≤ z3 then some (0 : Int32) else ((fX3_sizeOf u.1.1 z2 z3).bind fun z7 => (if z7 = 0 then some (0 : Int32) else ((fX3_recordByte u.1.1 z2 z3 (0 : Int32)).bind fun z9 => (if z9 = (2 : Int32) then some z9 else (if z9 = (3 : Int32) then some z9 else some (1 : Int32))))))))))) else some (0 : Int32))
abbrev rmX4_kind : Room := { frames := 2, cells := 0, slots := 0, locals := 46 }
set_option maxRecDepth 100000 in
set_option maxHeartbeats 4000000 in
theorem kX4_kind (l : Launch) (G : va_G) (cI cS : ClassId) (sv : Nat) (ga : Nat → Nat) (u : TH) (p0 : Int32) (r : Int32) (hf : fX4_kind u p0 = some r) : Met l yX4_kind (.code yX4_kind cX4_kind 5 (some .int) :: bw) rmX4_kind (va_Pc [.ref (ga 0), .int p0] (PreR G (tysW cI cS) (wH cI sv ga u))) (vp_Si (fun r' => r' = r)) 0 0 (fun _ => False) := by
  refine enterR (own := RX4) (by decide) rfl rfl (Nat.le_of_ble_eq_true rfl) ?_
  intro p e s m args below meth c Q hQ S hr hlocks hP hK hN ls hl
  have hx := S.1; have hb := S.2.1; have hml := S.2.2.1; have hown := S.2.2.2.1; have hq := S.2.2.2.2
  have hl : lv_has ls 5 [(0, .ref (ga 0)), (1, .int p0)] := hl
  have h := hf
  unfold fX4_kind at h
  refine lv_iload_n hx hb dX4_kind_0 rfl (lv_at hl 1 rfl) ?_
  refine lv_if_ge (tgt := 6) hx hb dX4_kind_1 (by decide) (fun c1 => ?_) (fun c1 => ?_)
  · have h := (if_pos c1).symm.trans h
    refine lv_iload_n hx hb dX4_kind_6 rfl (lv_at hl 1 rfl) ?_
    obtain ⟨z2, e_z2, h⟩ := bnd h
    refine roI (cc_X4_167 S hK hN va_P0 e_z2 hl.1 (Nat.le_of_ble_eq_true rfl) ⟨Nat.le_of_ble_eq_true rfl, Nat.le_of_ble_eq_true rfl⟩ dX4_kind_7 ⟨Nat.le_of_ble_eq_true rfl, Nat.le_of_ble_eq_true rfl⟩) ?_
    refine lv_istore_n (lv' := [(2, .int z2), (0, .ref (ga 0)), (1, .int p0)]) hx hb dX4_kind_10 rfl hl (by decide) rfl (fun ls hl => ?_)
    refine lv_iload_n hx hb dX4_kind_11 rfl (lv_at hl 2 rfl) ?_
    obtain ⟨z3, e_z3, h⟩ := bnd h
    refine roI (cc_X4_170 S hK hN va_P0 e_z3 hl.1 (Nat.le_of_ble_eq_true rfl) ⟨Nat.le_of_ble_eq_true rfl, Nat.le_of_ble_eq_true rfl⟩ dX4_kind_12 ⟨Nat.le_of_ble_eq_true rfl, Nat.le_of_ble_eq_true rfl⟩) ?_
    refine lv_istore_n (lv' := [(3, .int z3), (2, .int z2), (0, .ref (ga 0)), (1, .int p0)]) hx hb dX4_kind_15 rfl hl (by decide) rfl (fun ls hl => ?_)
    refine lv_iload_n hx hb dX4_kind_16 rfl (lv_at hl 1 rfl) ?_
    refine lv_aload_n hx hb dX4_kind_17 rfl (lv_at hl 2 rfl) ?_
    refine gf_X4_20 S hK hN hP 0 rfl (v := .ref (ga 2)) rfl dX4_kind_18 ?_
    refine gf_X4_143 S hK hN hP 2 rfl (v := .int u.1.1.1.1) rfl dX4_kind_21 ?_
    refine lv_icmp_ge (tgt := 51) hx hb dX4_kind_24 (by decide) (fun c4 => ?_) (fun c4 => ?_)
    · have h := (if_pos c4).symm.trans h
      refine lv_iconst (v := 0) hx hb dX4_kind_51 (by decide) ?_
      exact retR hQ S hr hlocks h dX4_kind_52
    · have h := (if_neg c4).symm.trans h
      refine lv_iload_n hx hb dX4_kind_27 rfl (lv_at hl 0 rfl) ?_
      refine lv_aload_n hx hb dX4_kind_28 rfl (lv_at hl 2 rfl) ?_
      refine gf_X4_20 S hK hN hP 0 rfl (v := .ref (ga 2)) rfl dX4_kind_29 ?_
      refine lv_iload_n hx hb dX4_kind_32 rfl (lv_at hl 1 rfl) ?_
      obtain ⟨z5, e_z5, h⟩ := bnd h
      refine roI (cc_X4_146 (ga 2) (ga 3) S hK hN (hP.sub [2, 3] rfl) e_z5 hl.1 (Nat.le_of_ble_eq_true rfl) ⟨Nat.le_of_ble_eq_true rfl, Nat.le_of_ble_eq_true rfl⟩ dX4_kind_33 ⟨Nat.le_of_ble_eq_true rfl, Nat.le_of_ble_eq_true rfl⟩) ?_
      refine lv_icmp_ge (tgt := 51) hx hb dX4_kind_36 (by decide) (fun c6 => ?_) (fun c6 => ?_)
      · have h := (if_pos c6).symm.trans h
        refine lv_iconst (v := 0) hx hb dX4_kind_51 (by decide) ?_
        exact retR hQ S hr hlocks h dX4_kind_52
      · have h := (if_neg c6).symm.trans h
        refine lv_aload_n hx hb dX4_kind_39 rfl (lv_at hl 2 rfl) ?_
        refine gf_X4_20 S hK hN hP 0 rfl (v := .ref (ga 2)) rfl dX4_kind_40 ?_
        refine lv_iload_n hx hb dX4_kind_43 rfl (lv_at hl 1 rfl) ?_
        refine lv_iload_n hx hb dX4_kind_44 rfl (lv_at hl 0 rfl) ?_
        obtain ⟨z7, e_z7, h⟩ := bnd h
        refine roI (cc_X4_173 (ga 2) (ga 3) S hK hN (hP.sub [2, 3] rfl) e_z7 hl.1 (Nat.le_of_ble_eq_true rfl) ⟨Nat.le_of_ble_eq_true rfl, Nat.le_of_ble_eq_true rfl⟩ dX4_kind_45 ⟨Nat.le_of_ble_eq_true rfl, Nat.le_of_ble_eq_true rfl⟩) ?_
        refine lv_if_ne (tgt := 53) hx hb dX4_kind_48 (by decide) (fun c8 => ?_) (fun c8 => ?_)
        · have h := (if_neg c8).symm.trans h
          refine lv_aload_n hx hb dX4_kind_53 rfl (lv_at hl 2 rfl) ?_
          refine gf_X4_20 S hK hN hP 0 rfl (v := .ref (ga 2)) rfl dX4_kind_54 ?_
          refine lv_iload_n hx hb dX4_kind_57 rfl (lv_at hl 1 rfl) ?_
          refine lv_iload_n hx hb dX4_kind_58 rfl (lv_at hl 0 rfl) ?_
          refine lv_iconst (v := 0) hx hb dX4_kind_59 (by decide) ?_
          obtain ⟨z9, e_z9, h⟩ := bnd h
          refine roI (cc_X4_176 (ga 2) (ga 3) S hK hN (hP.sub [2, 3] rfl) e_z9 hl.1 (Nat.le_of_ble_eq_true rfl) ⟨Nat.le_of_ble_eq_true rfl, Nat.le_of_ble_eq_true rfl⟩ dX4_kind_60 ⟨Nat.le_of_ble_eq_true rfl, Nat.le_of_ble_eq_true rfl⟩) ?_
          refine lv_istore (lv' := [(4, .int z9), (3, .int z3), (2, .int z2), (0, .ref (ga 0)), (1, .int p0)]) hx hb dX4_kind_63 hl (by decide) rfl (fun ls hl => ?_)
          refine lv_iload hx hb dX4_kind_65 (lv_at hl 0 rfl) ?_
          refine lv_iconst (v := 2) hx hb dX4_kind_67 (by decide) ?_
          refine lv_icmp_eq (tgt := 77) hx hb dX4_kind_68 (by decide) (fun c10 => ?_) (fun c10 => ?_)
          · have h := (if_pos c10).symm.trans h
            refine lv_iload hx hb dX4_kind_77 (lv_at hl 0 rfl) ?_
            refine lv_goto (tgt := 83) hx hb dX4_kind_79 (by decide) ?_
            exact retR hQ S hr hlocks h dX4_kind_83
          · have h := (if_neg c10).symm.trans h
            refine lv_iload hx hb dX4_kind_71 (lv_at hl 0 rfl) ?_
            refine lv_iconst (v := 3) hx hb dX4_kind_73 (by decide) ?_
            refine lv_icmp_ne (tgt := 82) hx hb dX4_kind_74 (by decide) (fun c11 => ?_) (fun c11 => ?_)
            · have h := (if_neg c11).symm.trans h
              refine lv_iconst (v := 1) hx hb dX4_kind_82 (by decide) ?_
              exact retR hQ S hr hlocks h dX4_kind_83
            · have h := (if_pos c11).symm.trans h
              refine lv_iload hx hb dX4_kind_77 (lv_at hl 0 rfl) ?_
              refine lv_goto (tgt := 83) hx hb dX4_kind_79 (by decide) ?_
              exact retR hQ S hr hlocks h dX4_kind_83
        · have h := (if_pos c8).symm.trans h
          refine lv_iconst (v := 0) hx hb dX4_kind_51 (by decide) ?_
          exact retR hQ S hr hlocks h dX4_kind_52
  · have h := (if_neg c1).symm.trans h
    refine lv_iconst (v := 0) hx hb dX4_kind_4 (by decide) ?_
    exact retR hQ S hr hlocks h dX4_kind_5

def fX4_targetAt (u : TH) (p0 : Int32) : Option (Int32) := ((fX4_pageIn p0).bind fun z1 => ((fX4_slotIn p0).bind fun z2 => ((fX3_recordByte u.1.1 z1 z2 (1 : Int32)).bind fun z3 => ((fX3_recordByte u.1.1 z1 z2 (2 : Int32)).bind fun z4 => ((fX4_placeAt z3 z4).bind fun z5 => some z5)))))
abbrev rmX4_targetAt : Room := { frames := 2, cells := 0, slots := 0, locals := 46 }
set_option maxRecDepth 100000 in
set_option maxHeartbeats 4000000 in
theorem kX4_targetAt (l : Launch) (G : va_G) (cI cS : ClassId) (sv : Nat) (ga : Nat → Nat) (u : TH) (p0 : Int32) (r : Int32) (hf : fX4_targetAt u p0 = some r) : Met l yX4_targetAt (.code yX4_targetAt cX4_targetAt 4 (some .int) :: bw) rmX4_targetAt (va_Pc [.ref (ga 0), .int p0] (PreR G (tysW cI cS) (wH cI sv ga u))) (vp_Si (fun r' => r' = r)) 0 0 (fun _ => False) := by
  refine enterR (own := RX4) (by decide) rfl rfl (Nat.le_of_ble_eq_true rfl) ?_
  intro p e s m args below meth c Q hQ S hr hlocks hP hK hN ls hl
  have hx := S.1; have hb := S.2.1; have hml := S.2.2.1; have hown := S.2.2.2.1; have hq := S.2.2.2.2
  have hl : lv_has ls 4 [(0, .ref (ga 0)), (1, .int p0)] := hl
  have h := hf
  unfold fX4_targetAt at h
  refine lv_iload_n hx hb dX4_targetAt_0 rfl (lv_at hl 1 rfl) ?_
  obtain ⟨z1, e_z1, h⟩ := bnd h
  refine roI (cc_X4_167 S hK hN va_P0 e_z1 hl.1 (Nat.le_of_ble_eq_true rfl) ⟨Nat.le_of_ble_eq_true rfl, Nat.le_of_ble_eq_true rfl⟩ dX4_targetAt_1 ⟨Nat.le_of_ble_eq_true rfl, Nat.le_of_ble_eq_true rfl⟩) ?_
  refine lv_istore_n (lv' := [(2, .int z1), (0, .ref (ga 0)), (1, .int p0)]) hx hb dX4_targetAt_4 rfl hl (by decide) rfl (fun ls hl => ?_)
  refine lv_iload_n hx hb dX4_targetAt_5 rfl (lv_at hl 2 rfl) ?_
  obtain ⟨z2, e_z2, h⟩ := bnd h
  refine roI (cc_X4_170 S hK hN va_P0 e_z2 hl.1 (Nat.le_of_ble_eq_true rfl) ⟨Nat.le_of_ble_eq_true rfl, Nat.le_of_ble_eq_true rfl⟩ dX4_targetAt_6 ⟨Nat.le_of_ble_eq_true rfl, Nat.le_of_ble_eq_true rfl⟩) ?_
  refine lv_istore_n (lv' := [(3, .int z2), (2, .int z1), (0, .ref (ga 0)), (1, .int p0)]) hx hb dX4_targetAt_9 rfl hl (by decide) rfl (fun ls hl => ?_)
  refine lv_aload_n hx hb dX4_targetAt_10 rfl (lv_at hl 2 rfl) ?_
  refine gf_X4_20 S hK hN hP 0 rfl (v := .ref (ga 2)) rfl dX4_targetAt_11 ?_
  refine lv_iload_n hx hb dX4_targetAt_14 rfl (lv_at hl 1 rfl) ?_
  refine lv_iload_n hx hb dX4_targetAt_15 rfl (lv_at hl 0 rfl) ?_
  refine lv_iconst (v := 1) hx hb dX4_targetAt_16 (by decide) ?_
  obtain ⟨z3, e_z3, h⟩ := bnd h
  refine roI (cc_X4_176 (ga 2) (ga 3) S hK hN (hP.sub [2, 3] rfl) e_z3 hl.1 (Nat.le_of_ble_eq_true rfl) ⟨Nat.le_of_ble_eq_true rfl, Nat.le_of_ble_eq_true rfl⟩ dX4_targetAt_17 ⟨Nat.le_of_ble_eq_true rfl, Nat.le_of_ble_eq_true rfl⟩) ?_
  refine lv_aload_n hx hb dX4_targetAt_20 rfl (lv_at hl 2 rfl) ?_
  refine gf_X4_20 S hK hN hP 0 rfl (v := .ref (ga 2)) rfl dX4_targetAt_21 ?_
  refine lv_iload_n hx hb dX4_targetAt_24 rfl (lv_at hl 1 rfl) ?_
  refine lv_iload_n hx hb dX4_targetAt_25 rfl (lv_at hl 0 rfl) ?_
  refine lv_iconst (v := 2) hx hb dX4_targetAt_26 (by decide) ?_
  obtain ⟨z4, e_z4, h⟩ := bnd h
  refine roI (cc_X4_176 (ga 2) (ga 3) S hK hN (hP.sub [2, 3] rfl) e_z4 hl.1 (Nat.le_of_ble_eq_true rfl) ⟨Nat.le_of_ble_eq_true rfl, Nat.le_of_ble_eq_true rfl⟩ dX4_targetAt_27 ⟨Nat.le_of_ble_eq_true rfl, Nat.le_of_ble_eq_true rfl⟩) ?_
  obtain ⟨z5, e_z5, h⟩ := bnd h
  refine roI (cc_X4_149 S hK hN va_P0 e_z5 hl.1 (Nat.le_of_ble_eq_true rfl) ⟨Nat.le_of_ble_eq_true rfl, Nat.le_of_ble_eq_true rfl⟩ dX4_targetAt_30 ⟨Nat.le_of_ble_eq_true rfl, Nat.le_of_ble_eq_true rfl⟩) ?_
  exact retR hQ S hr hlocks h dX4_targetAt_33

theorem cc_X4_132 {p : Program} {l : Launch} {e : Env} {R : Room} {s : State} {m : MethodId} {args : Array Value} {below : List Frame} {meth : Method} {c : Code} {H : Heap} {locs : List Loc} {cells slots : Nat} {cc : ByteArray} {pc nL : Nat} {ls : Array Slot} {rest : List Value} {G : va_G} (sv : Nat) (ga : Nat → Nat) {cI cS : ClassId} {u : TH}  {p0 : Int32} {r : Int32} (S : CallFix p m c cc nL s args bw RX4) (hK : va_K G vwCl (tysW cI cS) s) (hN : NW s) (hP : va_P G vwCl (wH cI sv ga u) H) (hf : fX4_kind u p0 = some r) (hsz : ls.size = nL) (hst : (rest.map fun v => v.category).sum ≤ 8) (hR : rmX4_kind.frames + 1 ≤ R.frames ∧ 8 + (5 + 11) + rmX4_kind.locals ≤ R.locals) (hdg : decode cc pc = .ok (.invokevirtual 132, 3)) (hcs : cells + 0 ≤ R.cells ∧ slots + 0 ≤ R.slots) : va_Run p l e R s m args below meth c H locs cells slots 0 0 (F0 m pc ls (.int p0 :: .ref (ga 0) :: rest)) rest (vp_Si (fun r' => r' = r) (#[.ref (ga 0), .int p0] : Array Value)) (fun _ => False) :=
  va_runV (As := [.int p0]) (rest := rest) S (kX4_kind l G cI cS sv ga u p0 r hf) (cwV 1 S.2.2.2.2 (gdV q_184 q_185 q_186 q_49 q_183) rfl rfl rfl (by decide +kernel) hR) (pvR (q := (RX4, TX4, 8)) hK hN hP (ci := 4) (q0 := 0) rfl rfl) rfl rfl hsz rfl (lv_room hst) hdg hcs
theorem cc_X4_155 {p : Program} {l : Launch} {e : Env} {R : Room} {s : State} {m : MethodId} {args : Array Value} {below : List Frame} {meth : Method} {c : Code} {H : Heap} {locs : List Loc} {cells slots : Nat} {cc : ByteArray} {pc nL : Nat} {ls : Array Slot} {rest : List Value} {G : va_G} (sv : Nat) (ga : Nat → Nat) {cI cS : ClassId} {u : TH}  {p0 : Int32} {r : Int32} (S : CallFix p m c cc nL s args bw RX4) (hK : va_K G vwCl (tysW cI cS) s) (hN : NW s) (hP : va_P G vwCl (wH cI sv ga u) H) (hf : fX4_targetAt u p0 = some r) (hsz : ls.size = nL) (hst : (rest.map fun v => v.category).sum ≤ 8) (hR : rmX4_targetAt.frames + 1 ≤ R.frames ∧ 8 + (4 + 11) + rmX4_targetAt.locals ≤ R.locals) (hdg : decode cc pc = .ok (.invokevirtual 155, 3)) (hcs : cells + 0 ≤ R.cells ∧ slots + 0 ≤ R.slots) : va_Run p l e R s m args below meth c H locs cells slots 0 0 (F0 m pc ls (.int p0 :: .ref (ga 0) :: rest)) rest (vp_Si (fun r' => r' = r) (#[.ref (ga 0), .int p0] : Array Value)) (fun _ => False) :=
  va_runV (As := [.int p0]) (rest := rest) S (kX4_targetAt l G cI cS sv ga u p0 r hf) (cwV 1 S.2.2.2.2 (gdV q_200 q_201 q_202 q_49 q_199) rfl rfl rfl (by decide +kernel) hR) (pvR (q := (RX4, TX4, 8)) hK hN hP (ci := 4) (q0 := 0) rfl rfl) rfl rfl hsz rfl (lv_room hst) hdg hcs
def fX4_presentPlace (u : TH) (p0 : Int32) : Option (Int32) := ((fX4_kind u p0).bind fun z1 => (if z1 = (2 : Int32) then ((fX4_targetAt u p0).bind fun z3 => some z3) else some p0))
abbrev rmX4_presentPlace : Room := { frames := 3, cells := 0, slots := 0, locals := 70 }
set_option maxRecDepth 100000 in
set_option maxHeartbeats 4000000 in
theorem kX4_presentPlace (l : Launch) (G : va_G) (cI cS : ClassId) (sv : Nat) (ga : Nat → Nat) (u : TH) (p0 : Int32) (r : Int32) (hf : fX4_presentPlace u p0 = some r) : Met l yX4_presentPlace (.code yX4_presentPlace cX4_presentPlace 2 (some .int) :: bw) rmX4_presentPlace (va_Pc [.ref (ga 0), .int p0] (PreR G (tysW cI cS) (wH cI sv ga u))) (vp_Si (fun r' => r' = r)) 0 0 (fun _ => False) := by
  refine enterR (own := RX4) (by decide) rfl rfl (Nat.le_of_ble_eq_true rfl) ?_
  intro p e s m args below meth c Q hQ S hr hlocks hP hK hN ls hl
  have hx := S.1; have hb := S.2.1; have hml := S.2.2.1; have hown := S.2.2.2.1; have hq := S.2.2.2.2
  have hl : lv_has ls 2 [(0, .ref (ga 0)), (1, .int p0)] := hl
  have h := hf
  unfold fX4_presentPlace at h
  refine lv_aload_n hx hb dX4_presentPlace_0 rfl (lv_at hl 0 rfl) ?_
  refine lv_iload_n hx hb dX4_presentPlace_1 rfl (lv_at hl 1 rfl) ?_
  obtain ⟨z1, e_z1, h⟩ := bnd h
  refine roI (cc_X4_132 sv ga S hK hN hP e_z1 hl.1 (Nat.le_of_ble_eq_true rfl) ⟨Nat.le_of_ble_eq_true rfl, Nat.le_of_ble_eq_true rfl⟩ dX4_presentPlace_2 ⟨Nat.le_of_ble_eq_true rfl, Nat.le_of_ble_eq_true rfl⟩) ?_
  refine lv_iconst (v := 2) hx hb dX4_presentPlace_5 (by decide) ?_
  refine lv_icmp_ne (tgt := 17) hx hb dX4_presentPlace_6 (by decide) (fun c2 => ?_) (fun c2 => ?_)
  · have h := (if_neg c2).symm.trans h
    refine lv_iload_n hx hb dX4_presentPlace_17 rfl (lv_at hl 1 rfl) ?_
    exact retR hQ S hr hlocks h dX4_presentPlace_18
  · have h := (if_pos c2).symm.trans h
    refine lv_aload_n hx hb dX4_presentPlace_9 rfl (lv_at hl 0 rfl) ?_
    refine lv_iload_n hx hb dX4_presentPlace_10 rfl (lv_at hl 1 rfl) ?_
    obtain ⟨z3, e_z3, h⟩ := bnd h
    refine roI (cc_X4_155 sv ga S hK hN hP e_z3 hl.1 (Nat.le_of_ble_eq_true rfl) ⟨Nat.le_of_ble_eq_true rfl, Nat.le_of_ble_eq_true rfl⟩ dX4_presentPlace_11 ⟨Nat.le_of_ble_eq_true rfl, Nat.le_of_ble_eq_true rfl⟩) ?_
    refine lv_goto (tgt := 18) hx hb dX4_presentPlace_14 (by decide) ?_
    exact retR hQ S hr hlocks h dX4_presentPlace_18

theorem gf_X4_182 {p : Program} {l : Launch} {e : Env} {R : Room} {s : State} {m : MethodId} {args : Array Value} {below : List Frame} {meth : Method} {c : Code} {H : Heap} {locs : List Loc} {cells slots : Nat} {cc : ByteArray} {pc nL : Nat} {ls : Array Slot} {rest : List Value} {G : va_G} {Q : State → Prop} {tys : List (ClassId × FieldType)} {ws : va_W} {a : Nat} (S : CallFix p m c cc nL s args bw RX4) (hK : va_K G vwCl tys s) (hN : NW s) (hP : va_P G vwCl ws H) (q0 : Nat) {fs : List Value} (he : ws[q0]? = some (a, .inr (3, fs))) {v : Value} (hv : fs[3]? = some v) (hdg : decode cc pc = .ok (.getfield 182, 3)) (kk : W p l e R s m args below meth c H locs cells slots Q (F0 m (pc + 3) ls (v :: rest))) : W p l e R s m args below meth c H locs cells slots Q (F0 m pc ls (.ref a :: rest)) :=
  va_getN (C := RX3) (T := TX3) (N := 5) S.1 S.2.1 S.2.2.2.2 bi_U3 S.2.2.2.1 hK hP q0 he rfl 3 (by decide) (va_Nw.use rfl (hN _ nq_5)) (fun _ h9 => h9) hv hdg kk
theorem pf_X4_182 {p : Program} {l : Launch} {e : Env} {R : Room} {s : State} {m : MethodId} {args : Array Value} {below : List Frame} {meth : Method} {c : Code} {H : Heap} {locs : List Loc} {cells slots : Nat} {cc : ByteArray} {pc nL : Nat} {ls : Array Slot} {rest : List Value} {G : va_G} {Q : State → Prop} {tys : List (ClassId × FieldType)} {ws : va_W} {a : Nat} {A : Nat → Prop} {H0 : Heap} {x : Int32} (S : CallFix p m c cc nL s args bw RX4) (hK : va_K G vwCl tys s) (hN : NW s) (hP : va_P G vwCl ws H) (hD : va_D A ws) (hS : va_S A H0 H locs) (q0 : Nat) {fs : List Value} (he : ws[q0]? = some (a, .inr (3, fs))) (hl : 3 < fs.length) (hdg : decode cc pc = .ok (.putfield 182, 3)) (kk : ∀ (H1 : Heap) (locs1 : List Loc), va_P G vwCl (ws.set q0 (a, .inr (3, fs.set 3 (.int x)))) H1 → va_D A (ws.set q0 (a, .inr (3, fs.set 3 (.int x)))) → va_S A H0 H1 locs1 → W p l e R s m args below meth c H1 locs1 cells slots Q (F0 m (pc + 3) ls rest)) : W p l e R s m args below meth c H locs cells slots Q (F0 m pc ls (.int x :: .ref a :: rest)) :=
  va_putN (ty := .int) (v := .int x) (C := RX3) (T := TX3) (N := 5) S.1 S.2.1 S.2.2.2.2 bi_U3 tyX3 tyX3_ok nmX3 S.2.2.2.1 hK hP hD hS q0 he rfl 3 (by decide) (va_Nw.use rfl (hN _ nq_5)) (fun _ h9 => h9) rfl rfl rfl rfl hl hdg kk
def fX4_storeAtHome_j26 (u : TH) (x1 : Int32) : Option (TH) := ((fX4_writeHomeRecord u).bind fun z1 => ((fX2_putRecord 63 (z1.1, z1.2.2.2.1) x1).bind fun z2 => some (z2.1, z1.2.1, z1.2.2.1, z2.2, z1.2.2.2.2)))
def fX4_storeAtHome (u : TH) (p0 : Int32) (p1 : Int32) : Option (TH) := (if p1 = p0 then fX4_storeAtHome_j26 u p0 else ((fX2_removeRecord u.1 p1).bind fun z4 => fX4_storeAtHome_j26 ((((z4.1.1.1, z4.1.1.2.1, (z4.1.1.2.2.1 + (1 : Int32)), z4.1.1.2.2.2), z4.1.2), z4.2), u.2) p0))
abbrev rmX4_storeAtHome : Room := { frames := 3, cells := 0, slots := 0, locals := 94 }
set_option maxRecDepth 100000 in
set_option maxHeartbeats 4000000 in
theorem kX4_storeAtHome (l : Launch) (G : va_G) (cI cS : ClassId) (sv : Nat) (ga : Nat → Nat) (sz : Nat) (u : TH) (p0 : Int32) (p1 : Int32) (r : TH) (hf : fX4_storeAtHome u p0 p1 = some r) : Met l yX4_storeAtHome (.code yX4_storeAtHome cX4_storeAtHome 3 none :: bw) rmX4_storeAtHome (va_Pc [.ref (ga 0), .int p0, .int p1] (PreM G (tysW cI cS) (wH cI sv ga u) sz)) (va_Qv (fun u' => u' = r) (PoM G (tysW cI cS) (va_A (wH cI sv ga u) sz) (wH cI sv ga)) (va_A (wH cI sv ga u) sz)) 0 0 (va_A (wH cI sv ga u) sz) := by
  refine enterM (own := RX4) (by decide) rfl (Nat.le_of_ble_eq_true rfl) ?_
  intro p e s m args below meth c A Q hAe hQ S hr hlocks hP hK hN hD hA hS ls hl
  rw [hAe] at hQ
  have hx := S.1; have hb := S.2.1; have hml := S.2.2.1; have hown := S.2.2.2.1; have hq := S.2.2.2.2
  have hl : lv_has ls 3 [(0, .ref (ga 0)), (1, .int p0), (2, .int p1)] := hl
  have h := hf
  unfold fX4_storeAtHome at h
  have J26 : ∀ (u : TH) (x1 : Int32) , fX4_storeAtHome_j26 u x1 = some r → ∀ (H : Heap) (locs : List Loc), va_P G vwCl (wH cI sv ga u) H → va_D A (wH cI sv ga u) → va_S A s.heap H locs → ∀ ls : Array Slot, lv_has ls 3 [(0, .ref (ga 0)), (1, .int x1)] → W p l e rmX4_storeAtHome s m args below meth c H locs 0 0 Q (F0 m 26 ls []) := by
    intro u x1 h
    unfold fX4_storeAtHome_j26 at h
    intro H locs hP hD hS ls hl
    refine lv_aload_n hx hb dX4_storeAtHome_26 rfl (lv_at hl 0 rfl) ?_
    obtain ⟨z1, e_z1, h⟩ := bnd h
    refine muv (cc_X4_284 sv ga S hK hN hP hD e_z1 hl.1 (Nat.le_of_ble_eq_true rfl) ⟨Nat.le_of_ble_eq_true rfl, Nat.le_of_ble_eq_true rfl⟩ dX4_storeAtHome_27 ⟨Nat.le_of_ble_eq_true rfl, Nat.le_of_ble_eq_true rfl⟩) hS hD (va_free hD hS hA [0, 1, 2, 3, 4, 5, 6, 7, 8, 9, 10, 11, 12] rfl) (fun H locs hP hD hS => ?_)
    have hP : va_P G vwCl (wH cI sv ga z1) H := hP
    have hD : va_D A (wH cI sv ga z1) := hD
    refine lv_aload_n hx hb dX4_storeAtHome_30 rfl (lv_at hl 0 rfl) ?_
    refine gf_X4_12 S hK hN hP 0 rfl (v := .ref (ga 1)) rfl dX4_storeAtHome_31 ?_
    refine lv_iload_n hx hb dX4_storeAtHome_34 rfl (lv_at hl 1 rfl) ?_
    refine lv_aload_n hx hb dX4_storeAtHome_35 rfl (lv_at hl 0 rfl) ?_
    refine gf_X4_33 S hK hN hP 0 rfl (v := .ref (ga 10)) rfl dX4_storeAtHome_36 ?_
    obtain ⟨z2, e_z2, h⟩ := bnd h
    refine mjv (cc_X4_287 (ga 1) (ga 2) (ga 3) (ga 4) (ga 5) (ga 10) (ga 11) 63 S hK hN (hP.sub [1, 2, 3, 4, 5, 10, 11] rfl) (hD.sub [1, 2, 3, 4, 5, 10, 11] (by decide) rfl) e_z2 hl.1 (Nat.le_of_ble_eq_true rfl) ⟨Nat.le_of_ble_eq_true rfl, Nat.le_of_ble_eq_true rfl⟩ dX4_storeAtHome_39 ⟨Nat.le_of_ble_eq_true rfl, Nat.le_of_ble_eq_true rfl⟩) hS hP hD hA [1, 2, 3, 4, 5, 10, 11] [0, 6, 7, 8, 9, 12] rfl rfl (by decide) (by decide) [0, 6, 7, 8, 9, 10, 1, 2, 3, 4, 11, 12, 5] (by decide) (wH cI sv ga (z2.1, z1.2.1, z1.2.2.1, z2.2, z1.2.2.2.2)) rfl (fun H locs hP hD hS => ?_)
    exact retMv hQ S hr hlocks hK hN hP hD hS h dX4_storeAtHome_42
  refine lv_iload_n hx hb dX4_storeAtHome_0 rfl (lv_at hl 2 rfl) ?_
  refine lv_iload_n hx hb dX4_storeAtHome_1 rfl (lv_at hl 1 rfl) ?_
  refine lv_icmp_eq (tgt := 26) hx hb dX4_storeAtHome_2 (by decide) (fun c3 => ?_) (fun c3 => ?_)
  · have h := (if_pos c3).symm.trans h
    exact J26 u p0 h _ _ hP hD hS _ (lv_sub hl [0, 1] rfl)
  · have h := (if_neg c3).symm.trans h
    refine lv_aload_n hx hb dX4_storeAtHome_5 rfl (lv_at hl 0 rfl) ?_
    refine gf_X4_12 S hK hN hP 0 rfl (v := .ref (ga 1)) rfl dX4_storeAtHome_6 ?_
    refine lv_iload_n hx hb dX4_storeAtHome_9 rfl (lv_at hl 2 rfl) ?_
    obtain ⟨z4, e_z4, h⟩ := bnd h
    refine mjv (cc_X4_304 (ga 1) (ga 2) (ga 3) (ga 4) (ga 5) S hK hN (hP.sub [1, 2, 3, 4, 5] rfl) (hD.sub [1, 2, 3, 4, 5] (by decide) rfl) e_z4 hl.1 (Nat.le_of_ble_eq_true rfl) ⟨Nat.le_of_ble_eq_true rfl, Nat.le_of_ble_eq_true rfl⟩ dX4_storeAtHome_10 ⟨Nat.le_of_ble_eq_true rfl, Nat.le_of_ble_eq_true rfl⟩) hS hP hD hA [1, 2, 3, 4, 5] [0, 6, 7, 8, 9, 10, 11, 12] rfl rfl (by decide) (by decide) [0, 8, 9, 10, 11, 12, 1, 2, 3, 4, 5, 6, 7] (by decide) (wH cI sv ga (z4, u.2)) rfl (fun H locs hP hD hS => ?_)
    refine lv_aload_n hx hb dX4_storeAtHome_13 rfl (lv_at hl 0 rfl) ?_
    refine gf_X4_20 S hK hN hP 0 rfl (v := .ref (ga 2)) rfl dX4_storeAtHome_14 ?_
    refine lv_dup hx hb dX4_storeAtHome_17 rfl ?_
    refine gf_X4_182 S hK hN hP 2 rfl (v := .int z4.1.1.2.2.1) rfl dX4_storeAtHome_18 ?_
    refine lv_iconst (v := 1) hx hb dX4_storeAtHome_21 (by decide) ?_
    refine lv_iadd hx hb dX4_storeAtHome_22 ?_
    refine pf_X4_182 S hK hN hP hD hS 2 rfl (Nat.le_of_ble_eq_true rfl) dX4_storeAtHome_23 (fun H locs hP hD hS => ?_)
    have hP : va_P G vwCl (wH cI sv ga ((((z4.1.1.1, z4.1.1.2.1, (z4.1.1.2.2.1 + (1 : Int32)), z4.1.1.2.2.2), z4.1.2), z4.2), u.2)) H := hP
    have hD : va_D A (wH cI sv ga ((((z4.1.1.1, z4.1.1.2.1, (z4.1.1.2.2.1 + (1 : Int32)), z4.1.1.2.2.2), z4.1.2), z4.2), u.2)) := hD
    exact J26 ((((z4.1.1.1, z4.1.1.2.1, (z4.1.1.2.2.1 + (1 : Int32)), z4.1.1.2.2.2), z4.1.2), z4.2), u.2) p0 h _ _ hP hD hS _ (lv_sub hl [0, 1] rfl)

def fX4_writeMovedRecord (u : TH) (p0 : Int32) : Option (TH) := ((fX4_writeHead u (3 : Int32) p0).bind fun z1 => ((fX0_addAll 63 60 (z1.2.2.2.1, z1.2.2.1)).bind fun z2 => some (z1.1, z1.2.1, z2.2, z2.1, z1.2.2.2.2)))
abbrev rmX4_writeMovedRecord : Room := { frames := 2, cells := 0, slots := 0, locals := 43 }
set_option maxRecDepth 100000 in
set_option maxHeartbeats 4000000 in
theorem kX4_writeMovedRecord (l : Launch) (G : va_G) (cI cS : ClassId) (sv : Nat) (ga : Nat → Nat) (sz : Nat) (u : TH) (p0 : Int32) (r : TH) (hf : fX4_writeMovedRecord u p0 = some r) : Met l yX4_writeMovedRecord (.code yX4_writeMovedRecord cX4_writeMovedRecord 2 none :: bw) rmX4_writeMovedRecord (va_Pc [.ref (ga 0), .int p0] (PreM G (tysW cI cS) (wH cI sv ga u) sz)) (va_Qv (fun u' => u' = r) (PoM G (tysW cI cS) (va_A (wH cI sv ga u) sz) (wH cI sv ga)) (va_A (wH cI sv ga u) sz)) 0 0 (va_A (wH cI sv ga u) sz) := by
  refine enterM (own := RX4) (by decide) rfl (Nat.le_of_ble_eq_true rfl) ?_
  intro p e s m args below meth c A Q hAe hQ S hr hlocks hP hK hN hD hA hS ls hl
  rw [hAe] at hQ
  have hx := S.1; have hb := S.2.1; have hml := S.2.2.1; have hown := S.2.2.2.1; have hq := S.2.2.2.2
  have hl : lv_has ls 2 [(0, .ref (ga 0)), (1, .int p0)] := hl
  have h := hf
  unfold fX4_writeMovedRecord at h
  refine lv_aload_n hx hb dX4_writeMovedRecord_0 rfl (lv_at hl 0 rfl) ?_
  refine lv_iconst (v := 3) hx hb dX4_writeMovedRecord_1 (by decide) ?_
  refine lv_iload_n hx hb dX4_writeMovedRecord_2 rfl (lv_at hl 1 rfl) ?_
  obtain ⟨z1, e_z1, h⟩ := bnd h
  refine muv (cc_X4_278 sv ga S hK hN hP hD e_z1 hl.1 (Nat.le_of_ble_eq_true rfl) ⟨Nat.le_of_ble_eq_true rfl, Nat.le_of_ble_eq_true rfl⟩ dX4_writeMovedRecord_3 ⟨Nat.le_of_ble_eq_true rfl, Nat.le_of_ble_eq_true rfl⟩) hS hD (va_free hD hS hA [0, 1, 2, 3, 4, 5, 6, 7, 8, 9, 10, 11, 12] rfl) (fun H locs hP hD hS => ?_)
  have hP : va_P G vwCl (wH cI sv ga z1) H := hP
  have hD : va_D A (wH cI sv ga z1) := hD
  refine lv_aload_n hx hb dX4_writeMovedRecord_6 rfl (lv_at hl 0 rfl) ?_
  refine gf_X4_33 S hK hN hP 0 rfl (v := .ref (ga 10)) rfl dX4_writeMovedRecord_7 ?_
  refine lv_aload_n hx hb dX4_writeMovedRecord_10 rfl (lv_at hl 0 rfl) ?_
  refine gf_X4_30 S hK hN hP 0 rfl (v := .ref (ga 8)) rfl dX4_writeMovedRecord_11 ?_
  obtain ⟨z2, e_z2, h⟩ := bnd h
  refine mjv (cc_X4_274 (ga 10) (ga 11) 63 (ga 8) (ga 9) 60 S hK hN (hP.sub [10, 11, 8, 9] rfl) (hD.sub [10, 11, 8, 9] (by decide) rfl) e_z2 hl.1 (Nat.le_of_ble_eq_true rfl) ⟨Nat.le_of_ble_eq_true rfl, Nat.le_of_ble_eq_true rfl⟩ dX4_writeMovedRecord_14 ⟨Nat.le_of_ble_eq_true rfl, Nat.le_of_ble_eq_true rfl⟩) hS hP hD hA [10, 11, 8, 9] [0, 1, 2, 3, 4, 5, 6, 7, 12] rfl rfl (by decide) (by decide) [0, 1, 2, 3, 4, 5, 6, 7, 11, 12, 9, 10, 8] (by decide) (wH cI sv ga (z1.1, z1.2.1, z2.2, z2.1, z1.2.2.2.2)) rfl (fun H locs hP hD hS => ?_)
  exact retMv hQ S hr hlocks hK hN hP hD hS h dX4_writeMovedRecord_17

theorem cc_X4_110 {p : Program} {l : Launch} {e : Env} {R : Room} {s : State} {m : MethodId} {args : Array Value} {below : List Frame} {meth : Method} {c : Code} {H : Heap} {locs : List Loc} {cells slots : Nat} {cc : ByteArray} {pc nL : Nat} {ls : Array Slot} {rest : List Value} {G : va_G} (sv : Nat) (ga : Nat → Nat) {cI cS : ClassId} {u : TH}  {p0 : Int32} {r : Int32} (S : CallFix p m c cc nL s args bw RX4) (hK : va_K G vwCl (tysW cI cS) s) (hN : NW s) (hP : va_P G vwCl (wH cI sv ga u) H) (hf : fX4_presentPlace u p0 = some r) (hsz : ls.size = nL) (hst : (rest.map fun v => v.category).sum ≤ 8) (hR : rmX4_presentPlace.frames + 1 ≤ R.frames ∧ 8 + (2 + 11) + rmX4_presentPlace.locals ≤ R.locals) (hdg : decode cc pc = .ok (.invokevirtual 110, 3)) (hcs : cells + 0 ≤ R.cells ∧ slots + 0 ≤ R.slots) : va_Run p l e R s m args below meth c H locs cells slots 0 0 (F0 m pc ls (.int p0 :: .ref (ga 0) :: rest)) rest (vp_Si (fun r' => r' = r) (#[.ref (ga 0), .int p0] : Array Value)) (fun _ => False) :=
  va_runV (As := [.int p0]) (rest := rest) S (kX4_presentPlace l G cI cS sv ga u p0 r hf) (cwV 1 S.2.2.2.2 (gdV q_208 q_209 q_210 q_49 q_203) rfl rfl rfl (by decide +kernel) hR) (pvR (q := (RX4, TX4, 8)) hK hN hP (ci := 4) (q0 := 0) rfl rfl) rfl rfl hsz rfl (lv_room hst) hdg hcs
theorem cc_X4_294 {p : Program} {l : Launch} {e : Env} {R : Room} {s : State} {m : MethodId} {args : Array Value} {below : List Frame} {meth : Method} {c : Code} {H : Heap} {locs : List Loc} {cells slots : Nat} {cc : ByteArray} {pc nL : Nat} {ls : Array Slot} {rest : List Value} {G : va_G} {A : Nat → Prop} (sv : Nat) (ga : Nat → Nat) {cI cS : ClassId} {u : TH}  {p0 : Int32} {p1 : Int32} {r : TH} (S : CallFix p m c cc nL s args bw RX4) (hK : va_K G vwCl (tysW cI cS) s) (hN : NW s) (hP : va_P G vwCl (wH cI sv ga u) H) (hD : va_D A (wH cI sv ga u)) (hf : fX4_storeAtHome u p0 p1 = some r) (hsz : ls.size = nL) (hst : (rest.map fun v => v.category).sum ≤ 8) (hR : rmX4_storeAtHome.frames + 1 ≤ R.frames ∧ 8 + (3 + 11) + rmX4_storeAtHome.locals ≤ R.locals) (hdg : decode cc pc = .ok (.invokevirtual 294, 3)) (hcs : cells + 0 ≤ R.cells ∧ slots + 0 ≤ R.slots) : va_Run p l e R s m args below meth c H locs cells slots 0 0 (F0 m pc ls (.int p1 :: .int p0 :: .ref (ga 0) :: rest)) rest (va_Qv (fun u' => u' = r) (PoM G (tysW cI cS) (va_A (wH cI sv ga u) H.size) (wH cI sv ga)) (va_A (wH cI sv ga u) H.size) (#[.ref (ga 0), .int p0, .int p1] : Array Value)) (va_A (wH cI sv ga u) H.size) :=
  va_runV (As := [.int p0, .int p1]) (rest := rest) S (kX4_storeAtHome l G cI cS sv ga H.size u p0 p1 r hf) (cwV 2 S.2.2.2.2 (gdV q_225 q_226 q_227 q_49 q_216) rfl rfl rfl (by decide +kernel) hR) (pvM (q := (RX4, TX4, 8)) hK hN hP hD (ci := 4) (q0 := 0) rfl rfl) rfl rfl hsz rfl (lv_room hst) hdg hcs
theorem cc_X4_297 {p : Program} {l : Launch} {e : Env} {R : Room} {s : State} {m : MethodId} {args : Array Value} {below : List Frame} {meth : Method} {c : Code} {H : Heap} {locs : List Loc} {cells slots : Nat} {cc : ByteArray} {pc nL : Nat} {ls : Array Slot} {rest : List Value} {G : va_G} {A : Nat → Prop} (sv : Nat) (ga : Nat → Nat) {cI cS : ClassId} {u : TH}  {p0 : Int32} {r : TH} (S : CallFix p m c cc nL s args bw RX4) (hK : va_K G vwCl (tysW cI cS) s) (hN : NW s) (hP : va_P G vwCl (wH cI sv ga u) H) (hD : va_D A (wH cI sv ga u)) (hf : fX4_writeMovedRecord u p0 = some r) (hsz : ls.size = nL) (hst : (rest.map fun v => v.category).sum ≤ 8) (hR : rmX4_writeMovedRecord.frames + 1 ≤ R.frames ∧ 8 + (2 + 11) + rmX4_writeMovedRecord.locals ≤ R.locals) (hdg : decode cc pc = .ok (.invokevirtual 297, 3)) (hcs : cells + 0 ≤ R.cells ∧ slots + 0 ≤ R.slots) : va_Run p l e R s m args below meth c H locs cells slots 0 0 (F0 m pc ls (.int p0 :: .ref (ga 0) :: rest)) rest (va_Qv (fun u' => u' = r) (PoM G (tysW cI cS) (va_A (wH cI sv ga u) H.size) (wH cI sv ga)) (va_A (wH cI sv ga u) H.size) (#[.ref (ga 0), .int p0] : Array Value)) (va_A (wH cI sv ga u) H.size) :=
  va_runV (As := [.int p0]) (rest := rest) S (kX4_writeMovedRecord l G cI cS sv ga H.size u p0 r hf) (cwV 1 S.2.2.2.2 (gdV q_228 q_229 q_230 q_49 q_221) rfl rfl rfl (by decide +kernel) hR) (pvM (q := (RX4, TX4, 8)) hK hN hP hD (ci := 4) (q0 := 0) rfl rfl) rfl rfl hsz rfl (lv_room hst) hdg hcs
theorem cc_X4_300 {p : Program} {l : Launch} {e : Env} {R : Room} {s : State} {m : MethodId} {args : Array Value} {below : List Frame} {meth : Method} {c : Code} {H : Heap} {locs : List Loc} {cells slots : Nat} {cc : ByteArray} {pc nL : Nat} {ls : Array Slot} {rest : List Value} {G : va_G} {A : Nat → Prop} (sv : Nat) (ga : Nat → Nat) {cI cS : ClassId} {u : TH}  {p0 : Int32} {p1 : Int32} {p2 : Int32} {r : TH} (S : CallFix p m c cc nL s args bw RX4) (hK : va_K G vwCl (tysW cI cS) s) (hN : NW s) (hP : va_P G vwCl (wH cI sv ga u) H) (hD : va_D A (wH cI sv ga u)) (hf : fX4_leaveNote u p0 p1 p2 = some r) (hsz : ls.size = nL) (hst : (rest.map fun v => v.category).sum ≤ 8) (hR : rmX4_leaveNote.frames + 1 ≤ R.frames ∧ 8 + (4 + 11) + rmX4_leaveNote.locals ≤ R.locals) (hdg : decode cc pc = .ok (.invokevirtual 300, 3)) (hcs : cells + 0 ≤ R.cells ∧ slots + 0 ≤ R.slots) : va_Run p l e R s m args below meth c H locs cells slots 0 0 (F0 m pc ls (.int p2 :: .int p1 :: .int p0 :: .ref (ga 0) :: rest)) rest (va_Qv (fun u' => u' = r) (PoM G (tysW cI cS) (va_A (wH cI sv ga u) H.size) (wH cI sv ga)) (va_A (wH cI sv ga u) H.size) (#[.ref (ga 0), .int p0, .int p1, .int p2] : Array Value)) (va_A (wH cI sv ga u) H.size) :=
  va_runV (As := [.int p0, .int p1, .int p2]) (rest := rest) S (kX4_leaveNote l G cI cS sv ga H.size u p0 p1 p2 r hf) (cwV 3 S.2.2.2.2 (gdV q_231 q_232 q_233 q_49 q_224) rfl rfl rfl (by decide +kernel) hR) (pvM (q := (RX4, TX4, 8)) hK hN hP hD (ci := 4) (q0 := 0) rfl rfl) rfl rfl hsz rfl (lv_room hst) hdg hcs
theorem gf_X4_179 {p : Program} {l : Launch} {e : Env} {R : Room} {s : State} {m : MethodId} {args : Array Value} {below : List Frame} {meth : Method} {c : Code} {H : Heap} {locs : List Loc} {cells slots : Nat} {cc : ByteArray} {pc nL : Nat} {ls : Array Slot} {rest : List Value} {G : va_G} {Q : State → Prop} {tys : List (ClassId × FieldType)} {ws : va_W} {a : Nat} (S : CallFix p m c cc nL s args bw RX4) (hK : va_K G vwCl tys s) (hN : NW s) (hP : va_P G vwCl ws H) (q0 : Nat) {fs : List Value} (he : ws[q0]? = some (a, .inr (3, fs))) {v : Value} (hv : fs[2]? = some v) (hdg : decode cc pc = .ok (.getfield 179, 3)) (kk : W p l e R s m args below meth c H locs cells slots Q (F0 m (pc + 3) ls (v :: rest))) : W p l e R s m args below meth c H locs cells slots Q (F0 m pc ls (.ref a :: rest)) :=
  va_getN (C := RX3) (T := TX3) (N := 5) S.1 S.2.1 S.2.2.2.2 bi_U3 S.2.2.2.1 hK hP q0 he rfl 2 (by decide) (va_Nw.use rfl (hN _ nq_4)) (fun _ h9 => h9) hv hdg kk
theorem pf_X4_179 {p : Program} {l : Launch} {e : Env} {R : Room} {s : State} {m : MethodId} {args : Array Value} {below : List Frame} {meth : Method} {c : Code} {H : Heap} {locs : List Loc} {cells slots : Nat} {cc : ByteArray} {pc nL : Nat} {ls : Array Slot} {rest : List Value} {G : va_G} {Q : State → Prop} {tys : List (ClassId × FieldType)} {ws : va_W} {a : Nat} {A : Nat → Prop} {H0 : Heap} {x : Int32} (S : CallFix p m c cc nL s args bw RX4) (hK : va_K G vwCl tys s) (hN : NW s) (hP : va_P G vwCl ws H) (hD : va_D A ws) (hS : va_S A H0 H locs) (q0 : Nat) {fs : List Value} (he : ws[q0]? = some (a, .inr (3, fs))) (hl : 2 < fs.length) (hdg : decode cc pc = .ok (.putfield 179, 3)) (kk : ∀ (H1 : Heap) (locs1 : List Loc), va_P G vwCl (ws.set q0 (a, .inr (3, fs.set 2 (.int x)))) H1 → va_D A (ws.set q0 (a, .inr (3, fs.set 2 (.int x)))) → va_S A H0 H1 locs1 → W p l e R s m args below meth c H1 locs1 cells slots Q (F0 m (pc + 3) ls rest)) : W p l e R s m args below meth c H locs cells slots Q (F0 m pc ls (.int x :: .ref a :: rest)) :=
  va_putN (ty := .int) (v := .int x) (C := RX3) (T := TX3) (N := 5) S.1 S.2.1 S.2.2.2.2 bi_U3 tyX3 tyX3_ok nmX3 S.2.2.2.1 hK hP hD hS q0 he rfl 2 (by decide) (va_Nw.use rfl (hN _ nq_4)) (fun _ h9 => h9) rfl rfl rfl rfl hl hdg kk
def fX4_changeRow (u : TH) (p0 : Int32) (p1 : Int32) : Option (TH) := ((fX4_presentPlace u p0).bind fun z1 => (if p1 = (1 : Int32) then ((fX4_storeAtHome u p0 z1).bind fun z14 => some z14) else ((fX4_writeMovedRecord u p0).bind fun z3 => (if p1 = (2 : Int32) then ((fX2_putRecord 63 (z3.1, z3.2.2.2.1) z1).bind fun z13 => some (z13.1, z3.2.1, z3.2.2.1, z13.2, z3.2.2.2.2)) else ((fX4_pageIn p0).bind fun z5 => ((fX4_pageIn z1).bind fun z6 => ((fX2_findPage z3.1 z3.2.2.2.1.1 z5 z6).bind fun z7 => ((fX2_openIfNew z3.1 z7).bind fun z8 => ((fX2_slotToUse z8 z7).bind fun z9 => ((fX4_placeAt z7 z9).bind fun z10 => ((fX2_putRecord 63 (z8, z3.2.2.2.1) z10).bind fun z11 => ((fX4_leaveNote (z11.1, z3.2.1, z3.2.2.1, z11.2, z3.2.2.2.2) p0 z1 z10).bind fun z12 => some ((((z12.1.1.1.1, (z12.1.1.1.2.1 + (1 : Int32)), z12.1.1.1.2.2), z12.1.1.2), z12.1.2), z12.2)))))))))))))
abbrev rmX4_changeRow : Room := { frames := 4, cells := 0, slots := 0, locals := 117 }
set_option maxRecDepth 100000 in
set_option maxHeartbeats 4000000 in
theorem kX4_changeRow (l : Launch) (G : va_G) (cI cS : ClassId) (sv : Nat) (ga : Nat → Nat) (sz : Nat) (u : TH) (p0 : Int32) (p1 : Int32) (r : TH) (hf : fX4_changeRow u p0 p1 = some r) : Met l yX4_changeRow (.code yX4_changeRow cX4_changeRow 6 none :: bw) rmX4_changeRow (va_Pc [.ref (ga 0), .int p0, .int p1] (PreM G (tysW cI cS) (wH cI sv ga u) sz)) (va_Qv (fun u' => u' = r) (PoM G (tysW cI cS) (va_A (wH cI sv ga u) sz) (wH cI sv ga)) (va_A (wH cI sv ga u) sz)) 0 0 (va_A (wH cI sv ga u) sz) := by
  refine enterM (own := RX4) (by decide) rfl (Nat.le_of_ble_eq_true rfl) ?_
  intro p e s m args below meth c A Q hAe hQ S hr hlocks hP hK hN hD hA hS ls hl
  rw [hAe] at hQ
  have hx := S.1; have hb := S.2.1; have hml := S.2.2.1; have hown := S.2.2.2.1; have hq := S.2.2.2.2
  have hl : lv_has ls 6 [(0, .ref (ga 0)), (1, .int p0), (2, .int p1)] := hl
  have h := hf
  unfold fX4_changeRow at h
  refine lv_aload_n hx hb dX4_changeRow_0 rfl (lv_at hl 0 rfl) ?_
  refine lv_iload_n hx hb dX4_changeRow_1 rfl (lv_at hl 1 rfl) ?_
  obtain ⟨z1, e_z1, h⟩ := bnd h
  refine roI (cc_X4_110 sv ga S hK hN hP e_z1 hl.1 (Nat.le_of_ble_eq_true rfl) ⟨Nat.le_of_ble_eq_true rfl, Nat.le_of_ble_eq_true rfl⟩ dX4_changeRow_2 ⟨Nat.le_of_ble_eq_true rfl, Nat.le_of_ble_eq_true rfl⟩) ?_
  refine lv_istore_n (lv' := [(3, .int z1), (0, .ref (ga 0)), (1, .int p0), (2, .int p1)]) hx hb dX4_changeRow_5 rfl hl (by decide) rfl (fun ls hl => ?_)
  refine lv_iload_n hx hb dX4_changeRow_6 rfl (lv_at hl 3 rfl) ?_
  refine lv_iconst (v := 1) hx hb dX4_changeRow_7 (by decide) ?_
  refine lv_icmp_ne (tgt := 18) hx hb dX4_changeRow_8 (by decide) (fun c2 => ?_) (fun c2 => ?_)
  · have h := (if_neg c2).symm.trans h
    refine lv_aload_n hx hb dX4_changeRow_18 rfl (lv_at hl 1 rfl) ?_
    refine lv_iload_n hx hb dX4_changeRow_19 rfl (lv_at hl 2 rfl) ?_
    obtain ⟨z3, e_z3, h⟩ := bnd h
    refine muv (cc_X4_297 sv ga S hK hN hP hD e_z3 hl.1 (Nat.le_of_ble_eq_true rfl) ⟨Nat.le_of_ble_eq_true rfl, Nat.le_of_ble_eq_true rfl⟩ dX4_changeRow_20 ⟨Nat.le_of_ble_eq_true rfl, Nat.le_of_ble_eq_true rfl⟩) hS hD (va_free hD hS hA [0, 1, 2, 3, 4, 5, 6, 7, 8, 9, 10, 11, 12] rfl) (fun H locs hP hD hS => ?_)
    have hP : va_P G vwCl (wH cI sv ga z3) H := hP
    have hD : va_D A (wH cI sv ga z3) := hD
    refine lv_iload_n hx hb dX4_changeRow_23 rfl (lv_at hl 3 rfl) ?_
    refine lv_iconst (v := 2) hx hb dX4_changeRow_24 (by decide) ?_
    refine lv_icmp_ne (tgt := 41) hx hb dX4_changeRow_25 (by decide) (fun c4 => ?_) (fun c4 => ?_)
    · have h := (if_neg c4).symm.trans h
      refine lv_aload_n hx hb dX4_changeRow_41 rfl (lv_at hl 1 rfl) ?_
      refine gf_X4_12 S hK hN hP 0 rfl (v := .ref (ga 1)) rfl dX4_changeRow_42 ?_
      refine lv_aload_n hx hb dX4_changeRow_45 rfl (lv_at hl 1 rfl) ?_
      refine gf_X4_33 S hK hN hP 0 rfl (v := .ref (ga 10)) rfl dX4_changeRow_46 ?_
      refine gf_X4_54 S hK hN hP 10 rfl (v := .int z3.2.2.2.1.1) rfl dX4_changeRow_49 ?_
      refine lv_iload_n hx hb dX4_changeRow_52 rfl (lv_at hl 2 rfl) ?_
      obtain ⟨z5, e_z5, h⟩ := bnd h
      refine roI (cc_X4_167 S hK hN va_P0 e_z5 hl.1 (Nat.le_of_ble_eq_true rfl) ⟨Nat.le_of_ble_eq_true rfl, Nat.le_of_ble_eq_true rfl⟩ dX4_changeRow_53 ⟨Nat.le_of_ble_eq_true rfl, Nat.le_of_ble_eq_true rfl⟩) ?_
      refine lv_iload_n hx hb dX4_changeRow_56 rfl (lv_at hl 0 rfl) ?_
      obtain ⟨z6, e_z6, h⟩ := bnd h
      refine roI (cc_X4_167 S hK hN va_P0 e_z6 hl.1 (Nat.le_of_ble_eq_true rfl) ⟨Nat.le_of_ble_eq_true rfl, Nat.le_of_ble_eq_true rfl⟩ dX4_changeRow_57 ⟨Nat.le_of_ble_eq_true rfl, Nat.le_of_ble_eq_true rfl⟩) ?_
      obtain ⟨z7, e_z7, h⟩ := bnd h
      refine roI (cc_X4_82 (ga 1) (ga 2) (ga 3) (ga 4) (ga 5) S hK hN (hP.sub [1, 2, 3, 4, 5] rfl) e_z7 hl.1 (Nat.le_of_ble_eq_true rfl) ⟨Nat.le_of_ble_eq_true rfl, Nat.le_of_ble_eq_true rfl⟩ dX4_changeRow_60 ⟨Nat.le_of_ble_eq_true rfl, Nat.le_of_ble_eq_true rfl⟩) ?_
      refine lv_istore (lv' := [(4, .int z7), (3, .int z1), (0, .ref (ga 0)), (1, .int p0), (2, .int p1)]) hx hb dX4_changeRow_63 hl (by decide) rfl (fun ls hl => ?_)
      refine lv_aload_n hx hb dX4_changeRow_65 rfl (lv_at hl 2 rfl) ?_
      refine gf_X4_12 S hK hN hP 0 rfl (v := .ref (ga 1)) rfl dX4_changeRow_66 ?_
      refine lv_iload hx hb dX4_changeRow_69 (lv_at hl 0 rfl) ?_
      obtain ⟨z8, e_z8, h⟩ := bnd h
      refine mjv (cc_X4_281 (ga 1) (ga 2) (ga 3) (ga 4) (ga 5) S hK hN (hP.sub [1, 2, 3, 4, 5] rfl) (hD.sub [1, 2, 3, 4, 5] (by decide) rfl) e_z8 hl.1 (Nat.le_of_ble_eq_true rfl) ⟨Nat.le_of_ble_eq_true rfl, Nat.le_of_ble_eq_true rfl⟩ dX4_changeRow_71 ⟨Nat.le_of_ble_eq_true rfl, Nat.le_of_ble_eq_true rfl⟩) hS hP hD hA [1, 2, 3, 4, 5] [0, 6, 7, 8, 9, 10, 11, 12] rfl rfl (by decide) (by decide) [0, 8, 9, 10, 11, 12, 1, 2, 3, 4, 5, 6, 7] (by decide) (wH cI sv ga (z8, z3.2)) rfl (fun H locs hP hD hS => ?_)
      refine lv_iload hx hb dX4_changeRow_74 (lv_at hl 0 rfl) ?_
      refine lv_aload_n hx hb dX4_changeRow_76 rfl (lv_at hl 2 rfl) ?_
      refine gf_X4_12 S hK hN hP 0 rfl (v := .ref (ga 1)) rfl dX4_changeRow_77 ?_
      refine lv_iload hx hb dX4_changeRow_80 (lv_at hl 0 rfl) ?_
      obtain ⟨z9, e_z9, h⟩ := bnd h
      refine roI (cc_X4_194 (ga 1) (ga 2) (ga 3) (ga 4) (ga 5) S hK hN (hP.sub [1, 2, 3, 4, 5] rfl) e_z9 hl.1 (Nat.le_of_ble_eq_true rfl) ⟨Nat.le_of_ble_eq_true rfl, Nat.le_of_ble_eq_true rfl⟩ dX4_changeRow_82 ⟨Nat.le_of_ble_eq_true rfl, Nat.le_of_ble_eq_true rfl⟩) ?_
      obtain ⟨z10, e_z10, h⟩ := bnd h
      refine roI (cc_X4_149 S hK hN va_P0 e_z10 hl.1 (Nat.le_of_ble_eq_true rfl) ⟨Nat.le_of_ble_eq_true rfl, Nat.le_of_ble_eq_true rfl⟩ dX4_changeRow_85 ⟨Nat.le_of_ble_eq_true rfl, Nat.le_of_ble_eq_true rfl⟩) ?_
      refine lv_istore (lv' := [(5, .int z10), (4, .int z7), (3, .int z1), (0, .ref (ga 0)), (1, .int p0), (2, .int p1)]) hx hb dX4_changeRow_88 hl (by decide) rfl (fun ls hl => ?_)
      refine lv_aload_n hx hb dX4_changeRow_90 rfl (lv_at hl 3 rfl) ?_
      refine gf_X4_12 S hK hN hP 0 rfl (v := .ref (ga 1)) rfl dX4_changeRow_91 ?_
      refine lv_iload hx hb dX4_changeRow_94 (lv_at hl 0 rfl) ?_
      refine lv_aload_n hx hb dX4_changeRow_96 rfl (lv_at hl 3 rfl) ?_
      refine gf_X4_33 S hK hN hP 0 rfl (v := .ref (ga 10)) rfl dX4_changeRow_97 ?_
      obtain ⟨z11, e_z11, h⟩ := bnd h
      refine mjv (cc_X4_287 (ga 1) (ga 2) (ga 3) (ga 4) (ga 5) (ga 10) (ga 11) 63 S hK hN (hP.sub [1, 2, 3, 4, 5, 10, 11] rfl) (hD.sub [1, 2, 3, 4, 5, 10, 11] (by decide) rfl) e_z11 hl.1 (Nat.le_of_ble_eq_true rfl) ⟨Nat.le_of_ble_eq_true rfl, Nat.le_of_ble_eq_true rfl⟩ dX4_changeRow_100 ⟨Nat.le_of_ble_eq_true rfl, Nat.le_of_ble_eq_true rfl⟩) hS hP hD hA [1, 2, 3, 4, 5, 10, 11] [0, 6, 7, 8, 9, 12] rfl rfl (by decide) (by decide) [0, 6, 7, 8, 9, 10, 1, 2, 3, 4, 11, 12, 5] (by decide) (wH cI sv ga (z11.1, z3.2.1, z3.2.2.1, z11.2, z3.2.2.2.2)) rfl (fun H locs hP hD hS => ?_)
      refine lv_aload_n hx hb dX4_changeRow_103 rfl (lv_at hl 3 rfl) ?_
      refine lv_iload_n hx hb dX4_changeRow_104 rfl (lv_at hl 4 rfl) ?_
      refine lv_iload_n hx hb dX4_changeRow_105 rfl (lv_at hl 2 rfl) ?_
      refine lv_iload hx hb dX4_changeRow_106 (lv_at hl 0 rfl) ?_
      obtain ⟨z12, e_z12, h⟩ := bnd h
      refine muv (cc_X4_300 sv ga S hK hN hP hD e_z12 hl.1 (Nat.le_of_ble_eq_true rfl) ⟨Nat.le_of_ble_eq_true rfl, Nat.le_of_ble_eq_true rfl⟩ dX4_changeRow_108 ⟨Nat.le_of_ble_eq_true rfl, Nat.le_of_ble_eq_true rfl⟩) hS hD (va_free hD hS hA [0, 1, 2, 3, 4, 5, 6, 7, 8, 9, 10, 11, 12] rfl) (fun H locs hP hD hS => ?_)
      have hP : va_P G vwCl (wH cI sv ga z12) H := hP
      have hD : va_D A (wH cI sv ga z12) := hD
      refine lv_aload_n hx hb dX4_changeRow_111 rfl (lv_at hl 3 rfl) ?_
      refine gf_X4_20 S hK hN hP 0 rfl (v := .ref (ga 2)) rfl dX4_changeRow_112 ?_
      refine lv_dup hx hb dX4_changeRow_115 rfl ?_
      refine gf_X4_179 S hK hN hP 2 rfl (v := .int z12.1.1.1.2.1) rfl dX4_changeRow_116 ?_
      refine lv_iconst (v := 1) hx hb dX4_changeRow_119 (by decide) ?_
      refine lv_iadd hx hb dX4_changeRow_120 ?_
      refine pf_X4_179 S hK hN hP hD hS 2 rfl (Nat.le_of_ble_eq_true rfl) dX4_changeRow_121 (fun H locs hP hD hS => ?_)
      have hP : va_P G vwCl (wH cI sv ga ((((z12.1.1.1.1, (z12.1.1.1.2.1 + (1 : Int32)), z12.1.1.1.2.2), z12.1.1.2), z12.1.2), z12.2)) H := hP
      have hD : va_D A (wH cI sv ga ((((z12.1.1.1.1, (z12.1.1.1.2.1 + (1 : Int32)), z12.1.1.1.2.2), z12.1.1.2), z12.1.2), z12.2)) := hD
      exact retMv hQ S hr hlocks hK hN hP hD hS h dX4_changeRow_124
    · have h := (if_pos c4).symm.trans h
      refine lv_aload_n hx hb dX4_changeRow_28 rfl (lv_at hl 1 rfl) ?_
      refine gf_X4_12 S hK hN hP 0 rfl (v := .ref (ga 1)) rfl dX4_changeRow_29 ?_
      refine lv_iload_n hx hb dX4_changeRow_32 rfl (lv_at hl 0 rfl) ?_
      refine lv_aload_n hx hb dX4_changeRow_33 rfl (lv_at hl 1 rfl) ?_
      refine gf_X4_33 S hK hN hP 0 rfl (v := .ref (ga 10)) rfl dX4_changeRow_34 ?_
      obtain ⟨z13, e_z13, h⟩ := bnd h
      refine mjv (cc_X4_287 (ga 1) (ga 2) (ga 3) (ga 4) (ga 5) (ga 10) (ga 11) 63 S hK hN (hP.sub [1, 2, 3, 4, 5, 10, 11] rfl) (hD.sub [1, 2, 3, 4, 5, 10, 11] (by decide) rfl) e_z13 hl.1 (Nat.le_of_ble_eq_true rfl) ⟨Nat.le_of_ble_eq_true rfl, Nat.le_of_ble_eq_true rfl⟩ dX4_changeRow_37 ⟨Nat.le_of_ble_eq_true rfl, Nat.le_of_ble_eq_true rfl⟩) hS hP hD hA [1, 2, 3, 4, 5, 10, 11] [0, 6, 7, 8, 9, 12] rfl rfl (by decide) (by decide) [0, 6, 7, 8, 9, 10, 1, 2, 3, 4, 11, 12, 5] (by decide) (wH cI sv ga (z13.1, z3.2.1, z3.2.2.1, z13.2, z3.2.2.2.2)) rfl (fun H locs hP hD hS => ?_)
      exact retMv hQ S hr hlocks hK hN hP hD hS h dX4_changeRow_40
  · have h := (if_pos c2).symm.trans h
    refine lv_aload_n hx hb dX4_changeRow_11 rfl (lv_at hl 1 rfl) ?_
    refine lv_iload_n hx hb dX4_changeRow_12 rfl (lv_at hl 2 rfl) ?_
    refine lv_iload_n hx hb dX4_changeRow_13 rfl (lv_at hl 0 rfl) ?_
    obtain ⟨z14, e_z14, h⟩ := bnd h
    refine muv (cc_X4_294 sv ga S hK hN hP hD e_z14 hl.1 (Nat.le_of_ble_eq_true rfl) ⟨Nat.le_of_ble_eq_true rfl, Nat.le_of_ble_eq_true rfl⟩ dX4_changeRow_14 ⟨Nat.le_of_ble_eq_true rfl, Nat.le_of_ble_eq_true rfl⟩) hS hD (va_free hD hS hA [0, 1, 2, 3, 4, 5, 6, 7, 8, 9, 10, 11, 12] rfl) (fun H locs hP hD hS => ?_)
    have hP : va_P G vwCl (wH cI sv ga z14) H := hP
    have hD : va_D A (wH cI sv ga z14) := hD
    exact retMv hQ S hr hlocks hK hN hP hD hS h dX4_changeRow_17

def fX4_isRow (u : TH) (p0 : Int32) : Option (Int32) := ((fX4_kind u p0).bind fun z1 => (if z1 = (1 : Int32) then some (1 : Int32) else (if z1 = (2 : Int32) then some (1 : Int32) else some (0 : Int32))))
abbrev rmX4_isRow : Room := { frames := 3, cells := 0, slots := 0, locals := 70 }
set_option maxRecDepth 100000 in
set_option maxHeartbeats 4000000 in
theorem kX4_isRow (l : Launch) (G : va_G) (cI cS : ClassId) (sv : Nat) (ga : Nat → Nat) (u : TH) (p0 : Int32) (r : Int32) (hf : fX4_isRow u p0 = some r) : Met l yX4_isRow (.code yX4_isRow cX4_isRow 3 (some .boolean) :: bw) rmX4_isRow (va_Pc [.ref (ga 0), .int p0] (PreR G (tysW cI cS) (wH cI sv ga u))) (vp_Si (fun r' => r' = r)) 0 0 (fun _ => False) := by
  refine enterR (own := RX4) (by decide) rfl rfl (Nat.le_of_ble_eq_true rfl) ?_
  intro p e s m args below meth c Q hQ S hr hlocks hP hK hN ls hl
  have hx := S.1; have hb := S.2.1; have hml := S.2.2.1; have hown := S.2.2.2.1; have hq := S.2.2.2.2
  have hl : lv_has ls 3 [(0, .ref (ga 0)), (1, .int p0)] := hl
  have h := hf
  unfold fX4_isRow at h
  refine lv_aload_n hx hb dX4_isRow_0 rfl (lv_at hl 0 rfl) ?_
  refine lv_iload_n hx hb dX4_isRow_1 rfl (lv_at hl 1 rfl) ?_
  obtain ⟨z1, e_z1, h⟩ := bnd h
  refine roI (cc_X4_132 sv ga S hK hN hP e_z1 hl.1 (Nat.le_of_ble_eq_true rfl) ⟨Nat.le_of_ble_eq_true rfl, Nat.le_of_ble_eq_true rfl⟩ dX4_isRow_2 ⟨Nat.le_of_ble_eq_true rfl, Nat.le_of_ble_eq_true rfl⟩) ?_
  refine lv_istore_n (lv' := [(2, .int z1), (0, .ref (ga 0)), (1, .int p0)]) hx hb dX4_isRow_5 rfl hl (by decide) rfl (fun ls hl => ?_)
  refine lv_iload_n hx hb dX4_isRow_6 rfl (lv_at hl 0 rfl) ?_
  refine lv_iconst (v := 1) hx hb dX4_isRow_7 (by decide) ?_
  refine lv_icmp_eq (tgt := 16) hx hb dX4_isRow_8 (by decide) (fun c2 => ?_) (fun c2 => ?_)
  · have h := (if_pos c2).symm.trans h
    refine lv_iconst (v := 1) hx hb dX4_isRow_16 (by decide) ?_
    refine lv_goto (tgt := 21) hx hb dX4_isRow_17 (by decide) ?_
    exact retRz hQ S hr hlocks rfl h dX4_isRow_21
  · have h := (if_neg c2).symm.trans h
    refine lv_iload_n hx hb dX4_isRow_11 rfl (lv_at hl 0 rfl) ?_
    refine lv_iconst (v := 2) hx hb dX4_isRow_12 (by decide) ?_
    refine lv_icmp_ne (tgt := 20) hx hb dX4_isRow_13 (by decide) (fun c3 => ?_) (fun c3 => ?_)
    · have h := (if_neg c3).symm.trans h
      refine lv_iconst (v := 0) hx hb dX4_isRow_20 (by decide) ?_
      exact retRz hQ S hr hlocks rfl h dX4_isRow_21
    · have h := (if_pos c3).symm.trans h
      refine lv_iconst (v := 1) hx hb dX4_isRow_16 (by decide) ?_
      refine lv_goto (tgt := 21) hx hb dX4_isRow_17 (by decide) ?_
      exact retRz hQ S hr hlocks rfl h dX4_isRow_21

theorem cc_X4_259 {p : Program} {l : Launch} {e : Env} {R : Room} {s : State} {m : MethodId} {args : Array Value} {below : List Frame} {meth : Method} {c : Code} {H : Heap} {locs : List Loc} {cells slots : Nat} {cc : ByteArray} {pc nL : Nat} {ls : Array Slot} {rest : List Value} {G : va_G} (sv : Nat) (ga : Nat → Nat) {cI cS : ClassId} {u : TH}  {p0 : Int32} {r : Int32} (S : CallFix p m c cc nL s args bw RX4) (hK : va_K G vwCl (tysW cI cS) s) (hN : NW s) (hP : va_P G vwCl (wH cI sv ga u) H) (hf : fX4_isRow u p0 = some r) (hsz : ls.size = nL) (hst : (rest.map fun v => v.category).sum ≤ 8) (hR : rmX4_isRow.frames + 1 ≤ R.frames ∧ 8 + (3 + 11) + rmX4_isRow.locals ≤ R.locals) (hdg : decode cc pc = .ok (.invokevirtual 259, 3)) (hcs : cells + 0 ≤ R.cells ∧ slots + 0 ≤ R.slots) : va_Run p l e R s m args below meth c H locs cells slots 0 0 (F0 m pc ls (.int p0 :: .ref (ga 0) :: rest)) rest (vp_Si (fun r' => r' = r) (#[.ref (ga 0), .int p0] : Array Value)) (fun _ => False) :=
  va_runV (As := [.int p0]) (rest := rest) S (kX4_isRow l G cI cS sv ga u p0 r hf) (cwV 1 S.2.2.2.2 (gdV q_190 q_191 q_192 q_49 q_187) rfl rfl rfl (by decide +kernel) hR) (pvR (q := (RX4, TX4, 8)) hK hN hP (ci := 4) (q0 := 0) rfl rfl) rfl rfl hsz rfl (lv_room hst) hdg hcs
def fX4_requireRow (u : TH) (p0 : Int32) : Option (Unit) := ((fX4_isRow u p0).bind fun z1 => (if z1 = 0 then none else some ()))
abbrev rmX4_requireRow : Room := { frames := 4, cells := 0, slots := 0, locals := 92 }
set_option maxRecDepth 100000 in
set_option maxHeartbeats 4000000 in
theorem kX4_requireRow (l : Launch) (G : va_G) (cI cS : ClassId) (sv : Nat) (ga : Nat → Nat) (u : TH) (p0 : Int32) (r : Unit) (hf : fX4_requireRow u p0 = some r) : Met l yX4_requireRow (.code yX4_requireRow cX4_requireRow 2 none :: bw) rmX4_requireRow (va_Pc [.ref (ga 0), .int p0] (PreR G (tysW cI cS) (wH cI sv ga u))) vw_Sv 0 0 (fun _ => False) := by
  refine enterG (own := RX4) (by decide) rfl (Nat.le_of_ble_eq_true rfl) ?_
  intro p e s m args below meth c Q hQ S hr hlocks hP hK hN ls hl
  have hx := S.1; have hb := S.2.1; have hml := S.2.2.1; have hown := S.2.2.2.1; have hq := S.2.2.2.2
  have hl : lv_has ls 2 [(0, .ref (ga 0)), (1, .int p0)] := hl
  have h := hf
  unfold fX4_requireRow at h
  refine lv_aload_n hx hb dX4_requireRow_0 rfl (lv_at hl 0 rfl) ?_
  refine lv_iload_n hx hb dX4_requireRow_1 rfl (lv_at hl 1 rfl) ?_
  obtain ⟨z1, e_z1, h⟩ := bnd h
  refine roI (cc_X4_259 sv ga S hK hN hP e_z1 hl.1 (Nat.le_of_ble_eq_true rfl) ⟨Nat.le_of_ble_eq_true rfl, Nat.le_of_ble_eq_true rfl⟩ dX4_requireRow_2 ⟨Nat.le_of_ble_eq_true rfl, Nat.le_of_ble_eq_true rfl⟩) ?_
  refine lv_if_ne (tgt := 19) hx hb dX4_requireRow_5 (by decide) (fun c2 => ?_) (fun c2 => ?_)
  · have h := (if_neg c2).symm.trans h
    exact retRv hQ S hr hlocks dX4_requireRow_19
  · have h := (if_pos c2).symm.trans h
    cases h

def fX4_sizeAt (u : TH) (p0 : Int32) : Option (Int32) := ((fX4_pageIn p0).bind fun z1 => ((fX4_slotIn p0).bind fun z2 => ((fX3_sizeOf u.1.1 z1 z2).bind fun z3 => some z3)))
abbrev rmX4_sizeAt : Room := { frames := 1, cells := 0, slots := 0, locals := 23 }
set_option maxRecDepth 100000 in
set_option maxHeartbeats 4000000 in
theorem kX4_sizeAt (l : Launch) (G : va_G) (cI cS : ClassId) (sv : Nat) (ga : Nat → Nat) (u : TH) (p0 : Int32) (r : Int32) (hf : fX4_sizeAt u p0 = some r) : Met l yX4_sizeAt (.code yX4_sizeAt cX4_sizeAt 2 (some .int) :: bw) rmX4_sizeAt (va_Pc [.ref (ga 0), .int p0] (PreR G (tysW cI cS) (wH cI sv ga u))) (vp_Si (fun r' => r' = r)) 0 0 (fun _ => False) := by
  refine enterR (own := RX4) (by decide) rfl rfl (Nat.le_of_ble_eq_true rfl) ?_
  intro p e s m args below meth c Q hQ S hr hlocks hP hK hN ls hl
  have hx := S.1; have hb := S.2.1; have hml := S.2.2.1; have hown := S.2.2.2.1; have hq := S.2.2.2.2
  have hl : lv_has ls 2 [(0, .ref (ga 0)), (1, .int p0)] := hl
  have h := hf
  unfold fX4_sizeAt at h
  refine lv_aload_n hx hb dX4_sizeAt_0 rfl (lv_at hl 0 rfl) ?_
  refine gf_X4_20 S hK hN hP 0 rfl (v := .ref (ga 2)) rfl dX4_sizeAt_1 ?_
  refine lv_iload_n hx hb dX4_sizeAt_4 rfl (lv_at hl 1 rfl) ?_
  obtain ⟨z1, e_z1, h⟩ := bnd h
  refine roI (cc_X4_167 S hK hN va_P0 e_z1 hl.1 (Nat.le_of_ble_eq_true rfl) ⟨Nat.le_of_ble_eq_true rfl, Nat.le_of_ble_eq_true rfl⟩ dX4_sizeAt_5 ⟨Nat.le_of_ble_eq_true rfl, Nat.le_of_ble_eq_true rfl⟩) ?_
  refine lv_iload_n hx hb dX4_sizeAt_8 rfl (lv_at hl 1 rfl) ?_
  obtain ⟨z2, e_z2, h⟩ := bnd h
  refine roI (cc_X4_170 S hK hN va_P0 e_z2 hl.1 (Nat.le_of_ble_eq_true rfl) ⟨Nat.le_of_ble_eq_true rfl, Nat.le_of_ble_eq_true rfl⟩ dX4_sizeAt_9 ⟨Nat.le_of_ble_eq_true rfl, Nat.le_of_ble_eq_true rfl⟩) ?_
  obtain ⟨z3, e_z3, h⟩ := bnd h
  refine roI (cc_X4_173 (ga 2) (ga 3) S hK hN (hP.sub [2, 3] rfl) e_z3 hl.1 (Nat.le_of_ble_eq_true rfl) ⟨Nat.le_of_ble_eq_true rfl, Nat.le_of_ble_eq_true rfl⟩ dX4_sizeAt_12 ⟨Nat.le_of_ble_eq_true rfl, Nat.le_of_ble_eq_true rfl⟩) ?_
  exact retR hQ S hr hlocks h dX4_sizeAt_15

theorem cc_X4_161 {p : Program} {l : Launch} {e : Env} {R : Room} {s : State} {m : MethodId} {args : Array Value} {below : List Frame} {meth : Method} {c : Code} {H : Heap} {locs : List Loc} {cells slots : Nat} {cc : ByteArray} {pc nL : Nat} {ls : Array Slot} {rest : List Value} {G : va_G} (g0 g1 g2 g3 g4 : Nat) {cI cS : ClassId} {u : TP}  {p0 : Int32} {r : Int32} (S : CallFix p m c cc nL s args bw RX4) (hK : va_K G vwCl (tysW cI cS) s) (hN : NW s) (hP : va_P G vwCl (wP cI g0 g1 g2 g3 g4 u) H) (hf : fX2_freeBytes u p0 = some r) (hsz : ls.size = nL) (hst : (rest.map fun v => v.category).sum ≤ 8) (hR : rmX2_freeBytes.frames + 1 ≤ R.frames ∧ 8 + (5 + 11) + rmX2_freeBytes.locals ≤ R.locals) (hdg : decode cc pc = .ok (.invokevirtual 161, 3)) (hcs : cells + 0 ≤ R.cells ∧ slots + 0 ≤ R.slots) : va_Run p l e R s m args below meth c H locs cells slots 0 0 (F0 m pc ls (.int p0 :: .ref g0 :: rest)) rest (vp_Si (fun r' => r' = r) (#[.ref g0, .int p0] : Array Value)) (fun _ => False) :=
  va_runVN (As := [.int p0]) (rest := rest) S (kX2_freeBytes l G cI cS g0 g1 g2 g3 g4 u p0 r hf) ⟨va_cnB 1 S.2.2.2.2 (gdC q_45) rfl rfl rfl (hN _ nq_24) (S.2.2.2.2 _ q_56) (by decide +kernel) hR, S.2.2.2.2 _ q_54, S.2.2.2.2 _ q_55⟩ (pvR (q := (RX2, TX2, 2)) hK hN hP (ci := 2) (q0 := 0) rfl rfl) rfl rfl hsz rfl (lv_room hst) hdg hcs
theorem cc_X4_271 {p : Program} {l : Launch} {e : Env} {R : Room} {s : State} {m : MethodId} {args : Array Value} {below : List Frame} {meth : Method} {c : Code} {H : Heap} {locs : List Loc} {cells slots : Nat} {cc : ByteArray} {pc nL : Nat} {ls : Array Slot} {rest : List Value} {G : va_G} (sv : Nat) (ga : Nat → Nat) {cI cS : ClassId} {u : TH}  {p0 : Int32} {r : Int32} (S : CallFix p m c cc nL s args bw RX4) (hK : va_K G vwCl (tysW cI cS) s) (hN : NW s) (hP : va_P G vwCl (wH cI sv ga u) H) (hf : fX4_sizeAt u p0 = some r) (hsz : ls.size = nL) (hst : (rest.map fun v => v.category).sum ≤ 8) (hR : rmX4_sizeAt.frames + 1 ≤ R.frames ∧ 8 + (2 + 11) + rmX4_sizeAt.locals ≤ R.locals) (hdg : decode cc pc = .ok (.invokevirtual 271, 3)) (hcs : cells + 0 ≤ R.cells ∧ slots + 0 ≤ R.slots) : va_Run p l e R s m args below meth c H locs cells slots 0 0 (F0 m pc ls (.int p0 :: .ref (ga 0) :: rest)) rest (vp_Si (fun r' => r' = r) (#[.ref (ga 0), .int p0] : Array Value)) (fun _ => False) :=
  va_runV (As := [.int p0]) (rest := rest) S (kX4_sizeAt l G cI cS sv ga u p0 r hf) (cwV 1 S.2.2.2.2 (gdV q_195 q_196 q_197 q_49 q_194) rfl rfl rfl (by decide +kernel) hR) (pvR (q := (RX4, TX4, 8)) hK hN hP (ci := 4) (q0 := 0) rfl rfl) rfl rfl hsz rfl (lv_room hst) hdg hcs
def fX4_roomToReplace (u : TH) (p0 : Int32) : Option (Int32) := ((fX4_pageIn p0).bind fun z1 => ((fX2_freeBytes u.1 z1).bind fun z2 => ((fX4_sizeAt u p0).bind fun z3 => some (z2 + z3))))
abbrev rmX4_roomToReplace : Room := { frames := 2, cells := 0, slots := 0, locals := 47 }
set_option maxRecDepth 100000 in
set_option maxHeartbeats 4000000 in
theorem kX4_roomToReplace (l : Launch) (G : va_G) (cI cS : ClassId) (sv : Nat) (ga : Nat → Nat) (u : TH) (p0 : Int32) (r : Int32) (hf : fX4_roomToReplace u p0 = some r) : Met l yX4_roomToReplace (.code yX4_roomToReplace cX4_roomToReplace 2 (some .int) :: bw) rmX4_roomToReplace (va_Pc [.ref (ga 0), .int p0] (PreR G (tysW cI cS) (wH cI sv ga u))) (vp_Si (fun r' => r' = r)) 0 0 (fun _ => False) := by
  refine enterR (own := RX4) (by decide) rfl rfl (Nat.le_of_ble_eq_true rfl) ?_
  intro p e s m args below meth c Q hQ S hr hlocks hP hK hN ls hl
  have hx := S.1; have hb := S.2.1; have hml := S.2.2.1; have hown := S.2.2.2.1; have hq := S.2.2.2.2
  have hl : lv_has ls 2 [(0, .ref (ga 0)), (1, .int p0)] := hl
  have h := hf
  unfold fX4_roomToReplace at h
  refine lv_aload_n hx hb dX4_roomToReplace_0 rfl (lv_at hl 0 rfl) ?_
  refine gf_X4_12 S hK hN hP 0 rfl (v := .ref (ga 1)) rfl dX4_roomToReplace_1 ?_
  refine lv_iload_n hx hb dX4_roomToReplace_4 rfl (lv_at hl 1 rfl) ?_
  obtain ⟨z1, e_z1, h⟩ := bnd h
  refine roI (cc_X4_167 S hK hN va_P0 e_z1 hl.1 (Nat.le_of_ble_eq_true rfl) ⟨Nat.le_of_ble_eq_true rfl, Nat.le_of_ble_eq_true rfl⟩ dX4_roomToReplace_5 ⟨Nat.le_of_ble_eq_true rfl, Nat.le_of_ble_eq_true rfl⟩) ?_
  obtain ⟨z2, e_z2, h⟩ := bnd h
  refine roI (cc_X4_161 (ga 1) (ga 2) (ga 3) (ga 4) (ga 5) S hK hN (hP.sub [1, 2, 3, 4, 5] rfl) e_z2 hl.1 (Nat.le_of_ble_eq_true rfl) ⟨Nat.le_of_ble_eq_true rfl, Nat.le_of_ble_eq_true rfl⟩ dX4_roomToReplace_8 ⟨Nat.le_of_ble_eq_true rfl, Nat.le_of_ble_eq_true rfl⟩) ?_
  refine lv_aload_n hx hb dX4_roomToReplace_11 rfl (lv_at hl 0 rfl) ?_
  refine lv_iload_n hx hb dX4_roomToReplace_12 rfl (lv_at hl 1 rfl) ?_
  obtain ⟨z3, e_z3, h⟩ := bnd h
  refine roI (cc_X4_271 sv ga S hK hN hP e_z3 hl.1 (Nat.le_of_ble_eq_true rfl) ⟨Nat.le_of_ble_eq_true rfl, Nat.le_of_ble_eq_true rfl⟩ dX4_roomToReplace_13 ⟨Nat.le_of_ble_eq_true rfl, Nat.le_of_ble_eq_true rfl⟩) ?_
  refine lv_iadd hx hb dX4_roomToReplace_16 ?_
  exact retR hQ S hr hlocks h dX4_roomToReplace_17

theorem cc_X4_197 {p : Program} {l : Launch} {e : Env} {R : Room} {s : State} {m : MethodId} {args : Array Value} {below : List Frame} {meth : Method} {c : Code} {H : Heap} {locs : List Loc} {cells slots : Nat} {cc : ByteArray} {pc nL : Nat} {ls : Array Slot} {rest : List Value} {G : va_G} (sv : Nat) (ga : Nat → Nat) {cI cS : ClassId} {u : TH}  {p0 : Int32} {r : Int32} (S : CallFix p m c cc nL s args bw RX4) (hK : va_K G vwCl (tysW cI cS) s) (hN : NW s) (hP : va_P G vwCl (wH cI sv ga u) H) (hf : fX4_roomToReplace u p0 = some r) (hsz : ls.size = nL) (hst : (rest.map fun v => v.category).sum ≤ 8) (hR : rmX4_roomToReplace.frames + 1 ≤ R.frames ∧ 8 + (2 + 11) + rmX4_roomToReplace.locals ≤ R.locals) (hdg : decode cc pc = .ok (.invokevirtual 197, 3)) (hcs : cells + 0 ≤ R.cells ∧ slots + 0 ≤ R.slots) : va_Run p l e R s m args below meth c H locs cells slots 0 0 (F0 m pc ls (.int p0 :: .ref (ga 0) :: rest)) rest (vp_Si (fun r' => r' = r) (#[.ref (ga 0), .int p0] : Array Value)) (fun _ => False) :=
  va_runV (As := [.int p0]) (rest := rest) S (kX4_roomToReplace l G cI cS sv ga u p0 r hf) (cwV 1 S.2.2.2.2 (gdV q_205 q_206 q_207 q_49 q_198) rfl rfl rfl (by decide +kernel) hR) (pvR (q := (RX4, TX4, 8)) hK hN hP (ci := 4) (q0 := 0) rfl rfl) rfl rfl hsz rfl (lv_room hst) hdg hcs
theorem cc_X4_291 {p : Program} {l : Launch} {e : Env} {R : Room} {s : State} {m : MethodId} {args : Array Value} {below : List Frame} {meth : Method} {c : Code} {H : Heap} {locs : List Loc} {cells slots : Nat} {cc : ByteArray} {pc nL : Nat} {ls : Array Slot} {rest : List Value} {G : va_G}  {cI cS : ClassId}  {p0 : Int32} {r : Int32} (S : CallFix p m c cc nL s args bw RX4) (hK : va_K G vwCl (tysW cI cS) s) (hN : NW s) (hP : va_P G vwCl wE H) (hf : fX4_movedSize p0 = some r) (hsz : ls.size = nL) (hst : (rest.map fun v => v.category).sum ≤ 8) (hR : rmX4_movedSize.frames + 1 ≤ R.frames ∧ 8 + (1 + 11) + rmX4_movedSize.locals ≤ R.locals) (hdg : decode cc pc = .ok (.invokestatic 291, 3)) (hcs : cells + 0 ≤ R.cells ∧ slots + 0 ≤ R.slots) : va_Run p l e R s m args below meth c H locs cells slots 0 0 (F0 m pc ls (.int p0 :: rest)) rest (vp_Si (fun r' => r' = r) (#[.int p0] : Array Value)) (fun _ => False) :=
  va_runS (As := [.int p0]) (rest := rest) S (kX4_movedSize l G cI cS p0 r hf) (cwS 1 S.2.2.2.2 (gdS q_211 q_212 q_49 q_204) rfl rfl rfl (by decide +kernel) hR) (psR hK hN hP) rfl rfl hsz rfl (lv_room hst) hdg hcs
def fX4_wayToChange_j43 (u : TH) (x1 : Int32) (x3 : Int32) (x4 : Int32) : Option (Int32) := ((fX4_pageIn x1).bind fun z1 => ((fX4_pageIn x3).bind fun z2 => ((fX2_findPage u.1 x4 z1 z2).bind fun z3 => (if z3 = ((-1) : Int32) then some ((-1) : Int32) else some (3 : Int32)))))
def fX4_wayToChange (u : TH) (p0 : Int32) (p1 : Int32) : Option (Int32) := ((fX4_homeSize p1).bind fun z5 => ((fX4_roomToReplace u p0).bind fun z6 => (if z6 < z5 then ((fX4_presentPlace u p0).bind fun z8 => ((fX4_movedSize p1).bind fun z9 => (if z8 = p0 then fX4_wayToChange_j43 u p0 z8 z9 else ((fX4_roomToReplace u z8).bind fun z11 => (if z11 < z9 then fX4_wayToChange_j43 u p0 z8 z9 else some (2 : Int32)))))) else some (1 : Int32))))
abbrev rmX4_wayToChange : Room := { frames := 4, cells := 0, slots := 0, locals := 94 }
set_option maxRecDepth 100000 in
set_option maxHeartbeats 4000000 in
theorem kX4_wayToChange (l : Launch) (G : va_G) (cI cS : ClassId) (sv : Nat) (ga : Nat → Nat) (u : TH) (p0 : Int32) (p1 : Int32) (r : Int32) (hf : fX4_wayToChange u p0 p1 = some r) : Met l yX4_wayToChange (.code yX4_wayToChange cX4_wayToChange 5 (some .int) :: bw) rmX4_wayToChange (va_Pc [.ref (ga 0), .int p0, .int p1] (PreR G (tysW cI cS) (wH cI sv ga u))) (vp_Si (fun r' => r' = r)) 0 0 (fun _ => False) := by
  refine enterR (own := RX4) (by decide) rfl rfl (Nat.le_of_ble_eq_true rfl) ?_
  intro p e s m args below meth c Q hQ S hr hlocks hP hK hN ls hl
  have hx := S.1; have hb := S.2.1; have hml := S.2.2.1; have hown := S.2.2.2.1; have hq := S.2.2.2.2
  have hl : lv_has ls 5 [(0, .ref (ga 0)), (1, .int p0), (2, .int p1)] := hl
  have h := hf
  unfold fX4_wayToChange at h
  have J43 : ∀ (x1 : Int32) (x3 : Int32) (x4 : Int32) , fX4_wayToChange_j43 u x1 x3 x4 = some r → ∀ ls : Array Slot, lv_has ls 5 [(0, .ref (ga 0)), (1, .int x1), (3, .int x3), (4, .int x4)] → W p l e rmX4_wayToChange s m args below meth c s.heap [] 0 0 Q (F0 m 43 ls []) := by
    intro x1 x3 x4 h
    unfold fX4_wayToChange_j43 at h
    intro ls hl
    refine lv_aload_n hx hb dX4_wayToChange_43 rfl (lv_at hl 0 rfl) ?_
    refine gf_X4_12 S hK hN hP 0 rfl (v := .ref (ga 1)) rfl dX4_wayToChange_44 ?_
    refine lv_iload hx hb dX4_wayToChange_47 (lv_at hl 3 rfl) ?_
    refine lv_iload_n hx hb dX4_wayToChange_49 rfl (lv_at hl 1 rfl) ?_
    obtain ⟨z1, e_z1, h⟩ := bnd h
    refine roI (cc_X4_167 S hK hN va_P0 e_z1 hl.1 (Nat.le_of_ble_eq_true rfl) ⟨Nat.le_of_ble_eq_true rfl, Nat.le_of_ble_eq_true rfl⟩ dX4_wayToChange_50 ⟨Nat.le_of_ble_eq_true rfl, Nat.le_of_ble_eq_true rfl⟩) ?_
    refine lv_iload_n hx hb dX4_wayToChange_53 rfl (lv_at hl 2 rfl) ?_
    obtain ⟨z2, e_z2, h⟩ := bnd h
    refine roI (cc_X4_167 S hK hN va_P0 e_z2 hl.1 (Nat.le_of_ble_eq_true rfl) ⟨Nat.le_of_ble_eq_true rfl, Nat.le_of_ble_eq_true rfl⟩ dX4_wayToChange_54 ⟨Nat.le_of_ble_eq_true rfl, Nat.le_of_ble_eq_true rfl⟩) ?_
    obtain ⟨z3, e_z3, h⟩ := bnd h
    refine roI (cc_X4_82 (ga 1) (ga 2) (ga 3) (ga 4) (ga 5) S hK hN (hP.sub [1, 2, 3, 4, 5] rfl) e_z3 hl.1 (Nat.le_of_ble_eq_true rfl) ⟨Nat.le_of_ble_eq_true rfl, Nat.le_of_ble_eq_true rfl⟩ dX4_wayToChange_57 ⟨Nat.le_of_ble_eq_true rfl, Nat.le_of_ble_eq_true rfl⟩) ?_
    refine lv_iconst (v := (-1)) hx hb dX4_wayToChange_60 (by decide) ?_
    refine lv_icmp_ne (tgt := 68) hx hb dX4_wayToChange_61 (by decide) (fun c4 => ?_) (fun c4 => ?_)
    · have h := (if_neg c4).symm.trans h
      refine lv_iconst (v := 3) hx hb dX4_wayToChange_68 (by decide) ?_
      exact retR hQ S hr hlocks h dX4_wayToChange_69
    · have h := (if_pos c4).symm.trans h
      refine lv_iconst (v := (-1)) hx hb dX4_wayToChange_64 (by decide) ?_
      refine lv_goto (tgt := 69) hx hb dX4_wayToChange_65 (by decide) ?_
      exact retR hQ S hr hlocks h dX4_wayToChange_69
  refine lv_iload_n hx hb dX4_wayToChange_0 rfl (lv_at hl 2 rfl) ?_
  obtain ⟨z5, e_z5, h⟩ := bnd h
  refine roI (cc_X4_78 S hK hN va_P0 e_z5 hl.1 (Nat.le_of_ble_eq_true rfl) ⟨Nat.le_of_ble_eq_true rfl, Nat.le_of_ble_eq_true rfl⟩ dX4_wayToChange_1 ⟨Nat.le_of_ble_eq_true rfl, Nat.le_of_ble_eq_true rfl⟩) ?_
  refine lv_aload_n hx hb dX4_wayToChange_4 rfl (lv_at hl 0 rfl) ?_
  refine lv_iload_n hx hb dX4_wayToChange_5 rfl (lv_at hl 1 rfl) ?_
  obtain ⟨z6, e_z6, h⟩ := bnd h
  refine roI (cc_X4_197 sv ga S hK hN hP e_z6 hl.1 (Nat.le_of_ble_eq_true rfl) ⟨Nat.le_of_ble_eq_true rfl, Nat.le_of_ble_eq_true rfl⟩ dX4_wayToChange_6 ⟨Nat.le_of_ble_eq_true rfl, Nat.le_of_ble_eq_true rfl⟩) ?_
  refine lv_icmp_gt (tgt := 14) hx hb dX4_wayToChange_9 (by decide) (fun c7 => ?_) (fun c7 => ?_)
  · have h := (if_pos c7).symm.trans h
    refine lv_aload_n hx hb dX4_wayToChange_14 rfl (lv_at hl 0 rfl) ?_
    refine lv_iload_n hx hb dX4_wayToChange_15 rfl (lv_at hl 1 rfl) ?_
    obtain ⟨z8, e_z8, h⟩ := bnd h
    refine roI (cc_X4_110 sv ga S hK hN hP e_z8 hl.1 (Nat.le_of_ble_eq_true rfl) ⟨Nat.le_of_ble_eq_true rfl, Nat.le_of_ble_eq_true rfl⟩ dX4_wayToChange_16 ⟨Nat.le_of_ble_eq_true rfl, Nat.le_of_ble_eq_true rfl⟩) ?_
    refine lv_istore_n (lv' := [(3, .int z8), (0, .ref (ga 0)), (1, .int p0), (2, .int p1)]) hx hb dX4_wayToChange_19 rfl hl (by decide) rfl (fun ls hl => ?_)
    refine lv_iload_n hx hb dX4_wayToChange_20 rfl (lv_at hl 3 rfl) ?_
    obtain ⟨z9, e_z9, h⟩ := bnd h
    refine roI (cc_X4_291 S hK hN va_P0 e_z9 hl.1 (Nat.le_of_ble_eq_true rfl) ⟨Nat.le_of_ble_eq_true rfl, Nat.le_of_ble_eq_true rfl⟩ dX4_wayToChange_21 ⟨Nat.le_of_ble_eq_true rfl, Nat.le_of_ble_eq_true rfl⟩) ?_
    refine lv_istore (lv' := [(4, .int z9), (3, .int z8), (0, .ref (ga 0)), (1, .int p0), (2, .int p1)]) hx hb dX4_wayToChange_24 hl (by decide) rfl (fun ls hl => ?_)
    refine lv_iload_n hx hb dX4_wayToChange_26 rfl (lv_at hl 1 rfl) ?_
    refine lv_iload_n hx hb dX4_wayToChange_27 rfl (lv_at hl 3 rfl) ?_
    refine lv_icmp_eq (tgt := 43) hx hb dX4_wayToChange_28 (by decide) (fun c10 => ?_) (fun c10 => ?_)
    · have h := (if_pos c10).symm.trans h
      exact J43 p0 z8 z9 h _ (lv_sub hl [2, 3, 1, 0] rfl)
    · have h := (if_neg c10).symm.trans h
      refine lv_iload hx hb dX4_wayToChange_31 (lv_at hl 0 rfl) ?_
      refine lv_aload_n hx hb dX4_wayToChange_33 rfl (lv_at hl 2 rfl) ?_
      refine lv_iload_n hx hb dX4_wayToChange_34 rfl (lv_at hl 1 rfl) ?_
      obtain ⟨z11, e_z11, h⟩ := bnd h
      refine roI (cc_X4_197 sv ga S hK hN hP e_z11 hl.1 (Nat.le_of_ble_eq_true rfl) ⟨Nat.le_of_ble_eq_true rfl, Nat.le_of_ble_eq_true rfl⟩ dX4_wayToChange_35 ⟨Nat.le_of_ble_eq_true rfl, Nat.le_of_ble_eq_true rfl⟩) ?_
      refine lv_icmp_gt (tgt := 43) hx hb dX4_wayToChange_38 (by decide) (fun c12 => ?_) (fun c12 => ?_)
      · have h := (if_pos c12).symm.trans h
        exact J43 p0 z8 z9 h _ (lv_sub hl [2, 3, 1, 0] rfl)
      · have h := (if_neg c12).symm.trans h
        refine lv_iconst (v := 2) hx hb dX4_wayToChange_41 (by decide) ?_
        exact retR hQ S hr hlocks h dX4_wayToChange_42
  · have h := (if_neg c7).symm.trans h
    refine lv_iconst (v := 1) hx hb dX4_wayToChange_12 (by decide) ?_
    exact retR hQ S hr hlocks h dX4_wayToChange_13

theorem cc_X4_101 {p : Program} {l : Launch} {e : Env} {R : Room} {s : State} {m : MethodId} {args : Array Value} {below : List Frame} {meth : Method} {c : Code} {H : Heap} {locs : List Loc} {cells slots : Nat} {cc : ByteArray} {pc nL : Nat} {ls : Array Slot} {rest : List Value} {G : va_G} (sv : Nat) (ga : Nat → Nat) {cI cS : ClassId} {u : TH}  {p0 : Int32} {p1 : Int32} {r : Int32} (S : CallFix p m c cc nL s args bw RX4) (hK : va_K G vwCl (tysW cI cS) s) (hN : NW s) (hP : va_P G vwCl (wH cI sv ga u) H) (hf : fX4_wayToChange u p0 p1 = some r) (hsz : ls.size = nL) (hst : (rest.map fun v => v.category).sum ≤ 8) (hR : rmX4_wayToChange.frames + 1 ≤ R.frames ∧ 8 + (5 + 11) + rmX4_wayToChange.locals ≤ R.locals) (hdg : decode cc pc = .ok (.invokevirtual 101, 3)) (hcs : cells + 0 ≤ R.cells ∧ slots + 0 ≤ R.slots) : va_Run p l e R s m args below meth c H locs cells slots 0 0 (F0 m pc ls (.int p1 :: .int p0 :: .ref (ga 0) :: rest)) rest (vp_Si (fun r' => r' = r) (#[.ref (ga 0), .int p0, .int p1] : Array Value)) (fun _ => False) :=
  va_runV (As := [.int p0, .int p1]) (rest := rest) S (kX4_wayToChange l G cI cS sv ga u p0 p1 r hf) (cwV 2 S.2.2.2.2 (gdV q_238 q_239 q_240 q_49 q_213) rfl rfl rfl (by decide +kernel) hR) (pvR (q := (RX4, TX4, 8)) hK hN hP (ci := 4) (q0 := 0) rfl rfl) rfl rfl hsz rfl (lv_room hst) hdg hcs
theorem cc_X4_106 {p : Program} {l : Launch} {e : Env} {R : Room} {s : State} {m : MethodId} {args : Array Value} {below : List Frame} {meth : Method} {c : Code} {H : Heap} {locs : List Loc} {cells slots : Nat} {cc : ByteArray} {pc nL : Nat} {ls : Array Slot} {rest : List Value} {G : va_G} {A : Nat → Prop} (sv : Nat) (ga : Nat → Nat) {cI cS : ClassId} {u : TH}  {p0 : Int32} {p1 : Int32} {r : TH} (S : CallFix p m c cc nL s args bw RX4) (hK : va_K G vwCl (tysW cI cS) s) (hN : NW s) (hP : va_P G vwCl (wH cI sv ga u) H) (hD : va_D A (wH cI sv ga u)) (hf : fX4_changeRow u p0 p1 = some r) (hsz : ls.size = nL) (hst : (rest.map fun v => v.category).sum ≤ 8) (hR : rmX4_changeRow.frames + 1 ≤ R.frames ∧ 8 + (6 + 11) + rmX4_changeRow.locals ≤ R.locals) (hdg : decode cc pc = .ok (.invokevirtual 106, 3)) (hcs : cells + 0 ≤ R.cells ∧ slots + 0 ≤ R.slots) : va_Run p l e R s m args below meth c H locs cells slots 0 0 (F0 m pc ls (.int p1 :: .int p0 :: .ref (ga 0) :: rest)) rest (va_Qv (fun u' => u' = r) (PoM G (tysW cI cS) (va_A (wH cI sv ga u) H.size) (wH cI sv ga)) (va_A (wH cI sv ga u) H.size) (#[.ref (ga 0), .int p0, .int p1] : Array Value)) (va_A (wH cI sv ga u) H.size) :=
  va_runV (As := [.int p0, .int p1]) (rest := rest) S (kX4_changeRow l G cI cS sv ga H.size u p0 p1 r hf) (cwV 2 S.2.2.2.2 (gdV q_241 q_242 q_243 q_49 q_234) rfl rfl rfl (by decide +kernel) hR) (pvM (q := (RX4, TX4, 8)) hK hN hP hD (ci := 4) (q0 := 0) rfl rfl) rfl rfl hsz rfl (lv_room hst) hdg hcs
theorem cc_X4_98 {p : Program} {l : Launch} {e : Env} {R : Room} {s : State} {m : MethodId} {args : Array Value} {below : List Frame} {meth : Method} {c : Code} {H : Heap} {locs : List Loc} {cells slots : Nat} {cc : ByteArray} {pc nL : Nat} {ls : Array Slot} {rest : List Value} {G : va_G} (sv : Nat) (ga : Nat → Nat) {cI cS : ClassId} {u : TH}  {p0 : Int32} {r : Unit} (S : CallFix p m c cc nL s args bw RX4) (hK : va_K G vwCl (tysW cI cS) s) (hN : NW s) (hP : va_P G vwCl (wH cI sv ga u) H) (hf : fX4_requireRow u p0 = some r) (hsz : ls.size = nL) (hst : (rest.map fun v => v.category).sum ≤ 8) (hR : rmX4_requireRow.frames + 1 ≤ R.frames ∧ 8 + (2 + 11) + rmX4_requireRow.locals ≤ R.locals) (hdg : decode cc pc = .ok (.invokevirtual 98, 3)) (hcs : cells + 0 ≤ R.cells ∧ slots + 0 ≤ R.slots) : va_Run p l e R s m args below meth c H locs cells slots 0 0 (F0 m pc ls (.int p0 :: .ref (ga 0) :: rest)) rest (vw_Sv (#[.ref (ga 0), .int p0] : Array Value)) (fun _ => False) :=
  va_runV (As := [.int p0]) (rest := rest) S (kX4_requireRow l G cI cS sv ga u p0 r hf) (cwV 1 S.2.2.2.2 (gdV q_235 q_236 q_237 q_49 q_193) rfl rfl rfl (by decide +kernel) hR) (pvR (q := (RX4, TX4, 8)) hK hN hP (ci := 4) (q0 := 0) rfl rfl) rfl rfl hsz rfl (lv_room hst) hdg hcs
def fX4_update (u : THS) (p0 : Int32) : Option (Int32 × THS) := ((fX4_requireRow u.1 p0).bind fun z1 => ((fX4_wayToChange u.1 p0 u.1.2.1.1).bind fun z2 => (if z2 = ((-1) : Int32) then none else ((fX4_saveState u).bind fun z4 => ((fX0_takePart 60 60 (z4.1.2.2.1, z4.1.2.1) (0 : Int32) z4.1.2.1.1).bind fun z5 => ((fX0_empty 60 z5.2).bind fun z6 => ((fX4_changeRow (z4.1.1, z6, z5.1, z4.1.2.2.2) p0 z2).bind fun z7 => some (z2, z7, z4.2))))))))
abbrev rmX4_update : Room := { frames := 5, cells := 0, slots := 0, locals := 142 }
set_option maxRecDepth 100000 in
set_option maxHeartbeats 4000000 in
theorem kX4_update (l : Launch) (G : va_G) (cI cS : ClassId) (sv : Nat) (ga : Nat → Nat) (sz : Nat) (u : THS) (p0 : Int32) (r : Int32 × THS) (hf : fX4_update u p0 = some r) : Met l yX4_update (.code yX4_update cX4_update 3 (some .int) :: bw) rmX4_update (va_Pc [.ref (ga 0), .int p0] (PreM G (tysW cI cS) (wHS cI cS sv ga u) sz)) (va_Qi (fun r' u' => (r', u') = r) (PoM G (tysW cI cS) (va_A (wHS cI cS sv ga u) sz) (wHS cI cS sv ga)) (va_A (wHS cI cS sv ga u) sz)) 0 0 (va_A (wHS cI cS sv ga u) sz) := by
  refine enterM (own := RX4) (by decide) rfl (Nat.le_of_ble_eq_true rfl) ?_
  intro p e s m args below meth c A Q hAe hQ S hr hlocks hP hK hN hD hA hS ls hl
  rw [hAe] at hQ
  have hx := S.1; have hb := S.2.1; have hml := S.2.2.1; have hown := S.2.2.2.1; have hq := S.2.2.2.2
  have hl : lv_has ls 3 [(0, .ref (ga 0)), (1, .int p0)] := hl
  have h := hf
  unfold fX4_update at h
  refine lv_aload_n hx hb dX4_update_0 rfl (lv_at hl 0 rfl) ?_
  refine lv_iload_n hx hb dX4_update_1 rfl (lv_at hl 1 rfl) ?_
  obtain ⟨z1, e_z1, h⟩ := bnd h
  refine roV (cc_X4_98 sv ga S hK hN (hP.sub [0, 1, 2, 3, 4, 5, 6, 7, 8, 9, 10, 11, 12] rfl) e_z1 hl.1 (Nat.le_of_ble_eq_true rfl) ⟨Nat.le_of_ble_eq_true rfl, Nat.le_of_ble_eq_true rfl⟩ dX4_update_2 ⟨Nat.le_of_ble_eq_true rfl, Nat.le_of_ble_eq_true rfl⟩) ?_
  refine lv_aload_n hx hb dX4_update_5 rfl (lv_at hl 0 rfl) ?_
  refine lv_iload_n hx hb dX4_update_6 rfl (lv_at hl 1 rfl) ?_
  refine lv_aload_n hx hb dX4_update_7 rfl (lv_at hl 0 rfl) ?_
  refine gf_X4_26 S hK hN hP 0 rfl (v := .ref (ga 6)) rfl dX4_update_8 ?_
  refine gf_X4_54 S hK hN hP 6 rfl (v := .int u.1.2.1.1) rfl dX4_update_11 ?_
  obtain ⟨z2, e_z2, h⟩ := bnd h
  refine roI (cc_X4_101 sv ga S hK hN (hP.sub [0, 1, 2, 3, 4, 5, 6, 7, 8, 9, 10, 11, 12] rfl) e_z2 hl.1 (Nat.le_of_ble_eq_true rfl) ⟨Nat.le_of_ble_eq_true rfl, Nat.le_of_ble_eq_true rfl⟩ dX4_update_14 ⟨Nat.le_of_ble_eq_true rfl, Nat.le_of_ble_eq_true rfl⟩) ?_
  refine lv_istore_n (lv' := [(2, .int z2), (0, .ref (ga 0)), (1, .int p0)]) hx hb dX4_update_17 rfl hl (by decide) rfl (fun ls hl => ?_)
  refine lv_iload_n hx hb dX4_update_18 rfl (lv_at hl 0 rfl) ?_
  refine lv_iconst (v := (-1)) hx hb dX4_update_19 (by decide) ?_
  refine lv_icmp_ne (tgt := 33) hx hb dX4_update_20 (by decide) (fun c3 => ?_) (fun c3 => ?_)
  · have h := (if_neg c3).symm.trans h
    refine lv_aload_n hx hb dX4_update_33 rfl (lv_at hl 1 rfl) ?_
    obtain ⟨z4, e_z4, h⟩ := bnd h
    refine muv (cc_X4_88 sv ga S hK hN hP hD e_z4 hl.1 (Nat.le_of_ble_eq_true rfl) ⟨Nat.le_of_ble_eq_true rfl, Nat.le_of_ble_eq_true rfl⟩ dX4_update_34 ⟨Nat.le_of_ble_eq_true rfl, Nat.le_of_ble_eq_true rfl⟩) hS hD (va_free hD hS hA [0, 1, 2, 3, 4, 5, 6, 7, 8, 9, 10, 11, 12, 13, 14, 15, 16, 17, 18, 19, 20, 21, 22, 23, 24, 25] rfl) (fun H locs hP hD hS => ?_)
    have hP : va_P G vwCl (wHS cI cS sv ga z4) H := hP
    have hD : va_D A (wHS cI cS sv ga z4) := hD
    refine lv_aload_n hx hb dX4_update_37 rfl (lv_at hl 1 rfl) ?_
    refine gf_X4_30 S hK hN hP 0 rfl (v := .ref (ga 8)) rfl dX4_update_38 ?_
    refine lv_aload_n hx hb dX4_update_41 rfl (lv_at hl 1 rfl) ?_
    refine gf_X4_26 S hK hN hP 0 rfl (v := .ref (ga 6)) rfl dX4_update_42 ?_
    refine lv_iconst (v := 0) hx hb dX4_update_45 (by decide) ?_
    refine lv_aload_n hx hb dX4_update_46 rfl (lv_at hl 1 rfl) ?_
    refine gf_X4_26 S hK hN hP 0 rfl (v := .ref (ga 6)) rfl dX4_update_47 ?_
    refine gf_X4_54 S hK hN hP 6 rfl (v := .int z4.1.2.1.1) rfl dX4_update_50 ?_
    obtain ⟨z5, e_z5, h⟩ := bnd h
    refine mjv (cc_X4_91 (ga 8) (ga 9) 60 (ga 6) (ga 7) 60 S hK hN (hP.sub [8, 9, 6, 7] rfl) (hD.sub [8, 9, 6, 7] (by decide) rfl) e_z5 hl.1 (Nat.le_of_ble_eq_true rfl) ⟨Nat.le_of_ble_eq_true rfl, Nat.le_of_ble_eq_true rfl⟩ dX4_update_53 ⟨Nat.le_of_ble_eq_true rfl, Nat.le_of_ble_eq_true rfl⟩) hS hP hD hA [8, 9, 6, 7] [0, 1, 2, 3, 4, 5, 10, 11, 12, 13, 14, 15, 16, 17, 18, 19, 20, 21, 22, 23, 24, 25] rfl rfl (by decide) (by decide) [0, 1, 2, 3, 4, 5, 24, 25, 22, 23, 6, 7, 8, 9, 10, 11, 12, 13, 14, 15, 16, 17, 18, 19, 20, 21] (by decide) (wHS cI cS sv ga ((z4.1.1, z5.2, z5.1, z4.1.2.2.2), z4.2)) rfl (fun H locs hP hD hS => ?_)
    refine lv_aload_n hx hb dX4_update_56 rfl (lv_at hl 1 rfl) ?_
    refine gf_X4_26 S hK hN hP 0 rfl (v := .ref (ga 6)) rfl dX4_update_57 ?_
    obtain ⟨z6, e_z6, h⟩ := bnd h
    refine mjv (cc_X4_58 (ga 6) (ga 7) 60 S hK hN (hP.sub [6, 7] rfl) (hD.sub [6, 7] (by decide) rfl) e_z6 hl.1 (Nat.le_of_ble_eq_true rfl) ⟨Nat.le_of_ble_eq_true rfl, Nat.le_of_ble_eq_true rfl⟩ dX4_update_60 ⟨Nat.le_of_ble_eq_true rfl, Nat.le_of_ble_eq_true rfl⟩) hS hP hD hA [6, 7] [0, 1, 2, 3, 4, 5, 8, 9, 10, 11, 12, 13, 14, 15, 16, 17, 18, 19, 20, 21, 22, 23, 24, 25] rfl rfl (by decide) (by decide) [0, 1, 2, 3, 4, 5, 24, 25, 6, 7, 8, 9, 10, 11, 12, 13, 14, 15, 16, 17, 18, 19, 20, 21, 22, 23] (by decide) (wHS cI cS sv ga ((z4.1.1, z6, z5.1, z4.1.2.2.2), z4.2)) rfl (fun H locs hP hD hS => ?_)
    refine lv_aload_n hx hb dX4_update_63 rfl (lv_at hl 1 rfl) ?_
    refine lv_iload_n hx hb dX4_update_64 rfl (lv_at hl 2 rfl) ?_
    refine lv_iload_n hx hb dX4_update_65 rfl (lv_at hl 0 rfl) ?_
    obtain ⟨z7, e_z7, h⟩ := bnd h
    refine mjv (cc_X4_106 sv ga S hK hN (hP.sub [0, 1, 2, 3, 4, 5, 6, 7, 8, 9, 10, 11, 12] rfl) (hD.sub [0, 1, 2, 3, 4, 5, 6, 7, 8, 9, 10, 11, 12] (by decide) rfl) e_z7 hl.1 (Nat.le_of_ble_eq_true rfl) ⟨Nat.le_of_ble_eq_true rfl, Nat.le_of_ble_eq_true rfl⟩ dX4_update_66 ⟨Nat.le_of_ble_eq_true rfl, Nat.le_of_ble_eq_true rfl⟩) hS hP hD hA [0, 1, 2, 3, 4, 5, 6, 7, 8, 9, 10, 11, 12] [13, 14, 15, 16, 17, 18, 19, 20, 21, 22, 23, 24, 25] rfl rfl (by decide) (by decide) [13, 14, 15, 16, 17, 18, 19, 20, 21, 22, 23, 24, 25, 0, 1, 2, 3, 4, 5, 6, 7, 8, 9, 10, 11, 12] (by decide) (wHS cI cS sv ga (z7, z4.2)) rfl (fun H locs hP hD hS => ?_)
    refine lv_iload_n hx hb dX4_update_69 rfl (lv_at hl 0 rfl) ?_
    exact retMi hQ S hr hlocks hK hN hP hD hS h dX4_update_70
  · have h := (if_pos c3).symm.trans h
    cases h

def fX4_deleteRow (u : TH) (p0 : Int32) : Option (TH) := ((fX4_presentPlace u p0).bind fun z1 => ((fX2_removeRecord u.1 z1).bind fun z2 => (if z1 = p0 then some (z2, u.2) else ((fX2_removeRecord z2 p0).bind fun z4 => some (z4, u.2)))))
abbrev rmX4_deleteRow : Room := { frames := 4, cells := 0, slots := 0, locals := 91 }
set_option maxRecDepth 100000 in
set_option maxHeartbeats 4000000 in
theorem kX4_deleteRow (l : Launch) (G : va_G) (cI cS : ClassId) (sv : Nat) (ga : Nat → Nat) (sz : Nat) (u : TH) (p0 : Int32) (r : TH) (hf : fX4_deleteRow u p0 = some r) : Met l yX4_deleteRow (.code yX4_deleteRow cX4_deleteRow 3 none :: bw) rmX4_deleteRow (va_Pc [.ref (ga 0), .int p0] (PreM G (tysW cI cS) (wH cI sv ga u) sz)) (va_Qv (fun u' => u' = r) (PoM G (tysW cI cS) (va_A (wH cI sv ga u) sz) (wH cI sv ga)) (va_A (wH cI sv ga u) sz)) 0 0 (va_A (wH cI sv ga u) sz) := by
  refine enterM (own := RX4) (by decide) rfl (Nat.le_of_ble_eq_true rfl) ?_
  intro p e s m args below meth c A Q hAe hQ S hr hlocks hP hK hN hD hA hS ls hl
  rw [hAe] at hQ
  have hx := S.1; have hb := S.2.1; have hml := S.2.2.1; have hown := S.2.2.2.1; have hq := S.2.2.2.2
  have hl : lv_has ls 3 [(0, .ref (ga 0)), (1, .int p0)] := hl
  have h := hf
  unfold fX4_deleteRow at h
  refine lv_aload_n hx hb dX4_deleteRow_0 rfl (lv_at hl 0 rfl) ?_
  refine lv_iload_n hx hb dX4_deleteRow_1 rfl (lv_at hl 1 rfl) ?_
  obtain ⟨z1, e_z1, h⟩ := bnd h
  refine roI (cc_X4_110 sv ga S hK hN hP e_z1 hl.1 (Nat.le_of_ble_eq_true rfl) ⟨Nat.le_of_ble_eq_true rfl, Nat.le_of_ble_eq_true rfl⟩ dX4_deleteRow_2 ⟨Nat.le_of_ble_eq_true rfl, Nat.le_of_ble_eq_true rfl⟩) ?_
  refine lv_istore_n (lv' := [(2, .int z1), (0, .ref (ga 0)), (1, .int p0)]) hx hb dX4_deleteRow_5 rfl hl (by decide) rfl (fun ls hl => ?_)
  refine lv_aload_n hx hb dX4_deleteRow_6 rfl (lv_at hl 1 rfl) ?_
  refine gf_X4_12 S hK hN hP 0 rfl (v := .ref (ga 1)) rfl dX4_deleteRow_7 ?_
  refine lv_iload_n hx hb dX4_deleteRow_10 rfl (lv_at hl 0 rfl) ?_
  obtain ⟨z2, e_z2, h⟩ := bnd h
  refine mjv (cc_X4_304 (ga 1) (ga 2) (ga 3) (ga 4) (ga 5) S hK hN (hP.sub [1, 2, 3, 4, 5] rfl) (hD.sub [1, 2, 3, 4, 5] (by decide) rfl) e_z2 hl.1 (Nat.le_of_ble_eq_true rfl) ⟨Nat.le_of_ble_eq_true rfl, Nat.le_of_ble_eq_true rfl⟩ dX4_deleteRow_11 ⟨Nat.le_of_ble_eq_true rfl, Nat.le_of_ble_eq_true rfl⟩) hS hP hD hA [1, 2, 3, 4, 5] [0, 6, 7, 8, 9, 10, 11, 12] rfl rfl (by decide) (by decide) [0, 8, 9, 10, 11, 12, 1, 2, 3, 4, 5, 6, 7] (by decide) (wH cI sv ga (z2, u.2)) rfl (fun H locs hP hD hS => ?_)
  refine lv_iload_n hx hb dX4_deleteRow_14 rfl (lv_at hl 0 rfl) ?_
  refine lv_iload_n hx hb dX4_deleteRow_15 rfl (lv_at hl 2 rfl) ?_
  refine lv_icmp_eq (tgt := 27) hx hb dX4_deleteRow_16 (by decide) (fun c3 => ?_) (fun c3 => ?_)
  · have h := (if_pos c3).symm.trans h
    exact retMv hQ S hr hlocks hK hN hP hD hS h dX4_deleteRow_27
  · have h := (if_neg c3).symm.trans h
    refine lv_aload_n hx hb dX4_deleteRow_19 rfl (lv_at hl 1 rfl) ?_
    refine gf_X4_12 S hK hN hP 0 rfl (v := .ref (ga 1)) rfl dX4_deleteRow_20 ?_
    refine lv_iload_n hx hb dX4_deleteRow_23 rfl (lv_at hl 2 rfl) ?_
    obtain ⟨z4, e_z4, h⟩ := bnd h
    refine mjv (cc_X4_304 (ga 1) (ga 2) (ga 3) (ga 4) (ga 5) S hK hN (hP.sub [1, 2, 3, 4, 5] rfl) (hD.sub [1, 2, 3, 4, 5] (by decide) rfl) e_z4 hl.1 (Nat.le_of_ble_eq_true rfl) ⟨Nat.le_of_ble_eq_true rfl, Nat.le_of_ble_eq_true rfl⟩ dX4_deleteRow_24 ⟨Nat.le_of_ble_eq_true rfl, Nat.le_of_ble_eq_true rfl⟩) hS hP hD hA [1, 2, 3, 4, 5] [0, 6, 7, 8, 9, 10, 11, 12] rfl rfl (by decide) (by decide) [0, 8, 9, 10, 11, 12, 1, 2, 3, 4, 5, 6, 7] (by decide) (wH cI sv ga (z4, u.2)) rfl (fun H locs hP hD hS => ?_)
    exact retMv hQ S hr hlocks hK hN hP hD hS h dX4_deleteRow_27

def fX4_lengthAt (u : TH) (p0 : Int32) : Option (Int32) := ((fX4_sizeAt u p0).bind fun z1 => ((fX4_pageIn p0).bind fun z2 => ((fX4_slotIn p0).bind fun z3 => ((fX3_recordByte u.1.1 z2 z3 (0 : Int32)).bind fun z4 => (if z4 = 3 then some (z1 - (3 : Int32)) else (if z4 = 4 then some (0 : Int32) else (if z4 = 5 then some (1 : Int32) else some (z1 - (1 : Int32)))))))))
abbrev rmX4_lengthAt : Room := { frames := 2, cells := 0, slots := 0, locals := 46 }
set_option maxRecDepth 100000 in
set_option maxHeartbeats 4000000 in
theorem kX4_lengthAt (l : Launch) (G : va_G) (cI cS : ClassId) (sv : Nat) (ga : Nat → Nat) (u : TH) (p0 : Int32) (r : Int32) (hf : fX4_lengthAt u p0 = some r) : Met l yX4_lengthAt (.code yX4_lengthAt cX4_lengthAt 3 (some .int) :: bw) rmX4_lengthAt (va_Pc [.ref (ga 0), .int p0] (PreR G (tysW cI cS) (wH cI sv ga u))) (vp_Si (fun r' => r' = r)) 0 0 (fun _ => False) := by
  refine enterR (own := RX4) (by decide) rfl rfl (Nat.le_of_ble_eq_true rfl) ?_
  intro p e s m args below meth c Q hQ S hr hlocks hP hK hN ls hl
  have hx := S.1; have hb := S.2.1; have hml := S.2.2.1; have hown := S.2.2.2.1; have hq := S.2.2.2.2
  have hl : lv_has ls 3 [(0, .ref (ga 0)), (1, .int p0)] := hl
  have h := hf
  unfold fX4_lengthAt at h
  refine lv_aload_n hx hb dX4_lengthAt_0 rfl (lv_at hl 0 rfl) ?_
  refine lv_iload_n hx hb dX4_lengthAt_1 rfl (lv_at hl 1 rfl) ?_
  obtain ⟨z1, e_z1, h⟩ := bnd h
  refine roI (cc_X4_271 sv ga S hK hN hP e_z1 hl.1 (Nat.le_of_ble_eq_true rfl) ⟨Nat.le_of_ble_eq_true rfl, Nat.le_of_ble_eq_true rfl⟩ dX4_lengthAt_2 ⟨Nat.le_of_ble_eq_true rfl, Nat.le_of_ble_eq_true rfl⟩) ?_
  refine lv_istore_n (lv' := [(2, .int z1), (0, .ref (ga 0)), (1, .int p0)]) hx hb dX4_lengthAt_5 rfl hl (by decide) rfl (fun ls hl => ?_)
  refine lv_aload_n hx hb dX4_lengthAt_6 rfl (lv_at hl 1 rfl) ?_
  refine gf_X4_20 S hK hN hP 0 rfl (v := .ref (ga 2)) rfl dX4_lengthAt_7 ?_
  refine lv_iload_n hx hb dX4_lengthAt_10 rfl (lv_at hl 2 rfl) ?_
  obtain ⟨z2, e_z2, h⟩ := bnd h
  refine roI (cc_X4_167 S hK hN va_P0 e_z2 hl.1 (Nat.le_of_ble_eq_true rfl) ⟨Nat.le_of_ble_eq_true rfl, Nat.le_of_ble_eq_true rfl⟩ dX4_lengthAt_11 ⟨Nat.le_of_ble_eq_true rfl, Nat.le_of_ble_eq_true rfl⟩) ?_
  refine lv_iload_n hx hb dX4_lengthAt_14 rfl (lv_at hl 2 rfl) ?_
  obtain ⟨z3, e_z3, h⟩ := bnd h
  refine roI (cc_X4_170 S hK hN va_P0 e_z3 hl.1 (Nat.le_of_ble_eq_true rfl) ⟨Nat.le_of_ble_eq_true rfl, Nat.le_of_ble_eq_true rfl⟩ dX4_lengthAt_15 ⟨Nat.le_of_ble_eq_true rfl, Nat.le_of_ble_eq_true rfl⟩) ?_
  refine lv_iconst (v := 0) hx hb dX4_lengthAt_18 (by decide) ?_
  obtain ⟨z4, e_z4, h⟩ := bnd h
  refine roI (cc_X4_176 (ga 2) (ga 3) S hK hN (hP.sub [2, 3] rfl) e_z4 hl.1 (Nat.le_of_ble_eq_true rfl) ⟨Nat.le_of_ble_eq_true rfl, Nat.le_of_ble_eq_true rfl⟩ dX4_lengthAt_19 ⟨Nat.le_of_ble_eq_true rfl, Nat.le_of_ble_eq_true rfl⟩) ?_
  by_cases c5 : z4 = 3
  · have h := (if_pos c5).symm.trans h
    refine lv_tableIn (off := 30) (tgt := 52) hx hb dX4_lengthAt_22 (by rw [c5]; decide) (by rw [c5]; decide) (by rw [c5]; rfl) (by decide) ?_
    refine lv_iload_n hx hb dX4_lengthAt_52 rfl (lv_at hl 0 rfl) ?_
    refine lv_iconst (v := 3) hx hb dX4_lengthAt_53 (by decide) ?_
    refine lv_isub hx hb dX4_lengthAt_54 ?_
    exact retR hQ S hr hlocks h dX4_lengthAt_55
  have h := (if_neg c5).symm.trans h
  by_cases c6 : z4 = 4
  · have h := (if_pos c6).symm.trans h
    refine lv_tableIn (off := 26) (tgt := 48) hx hb dX4_lengthAt_22 (by rw [c6]; decide) (by rw [c6]; decide) (by rw [c6]; rfl) (by decide) ?_
    refine lv_iconst (v := 0) hx hb dX4_lengthAt_48 (by decide) ?_
    exact retR hQ S hr hlocks h dX4_lengthAt_49
  have h := (if_neg c6).symm.trans h
  by_cases c7 : z4 = 5
  · have h := (if_pos c7).symm.trans h
    refine lv_tableIn (off := 28) (tgt := 50) hx hb dX4_lengthAt_22 (by rw [c7]; decide) (by rw [c7]; decide) (by rw [c7]; rfl) (by decide) ?_
    refine lv_iconst (v := 1) hx hb dX4_lengthAt_50 (by decide) ?_
    exact retR hQ S hr hlocks h dX4_lengthAt_51
  have h := (if_neg c7).symm.trans h
  refine lv_tableOut (tgt := 56) hx hb dX4_lengthAt_22 (by have w3 := i32ne (a := 3) c5 (by decide); have w4 := i32ne (a := 4) c6 (by decide); have w5 := i32ne (a := 5) c7 (by decide); omega) (by decide) ?_
  refine lv_iload_n hx hb dX4_lengthAt_56 rfl (lv_at hl 0 rfl) ?_
  refine lv_iconst (v := 1) hx hb dX4_lengthAt_57 (by decide) ?_
  refine lv_isub hx hb dX4_lengthAt_58 ?_
  exact retR hQ S hr hlocks h dX4_lengthAt_59

theorem cc_X4_113 {p : Program} {l : Launch} {e : Env} {R : Room} {s : State} {m : MethodId} {args : Array Value} {below : List Frame} {meth : Method} {c : Code} {H : Heap} {locs : List Loc} {cells slots : Nat} {cc : ByteArray} {pc nL : Nat} {ls : Array Slot} {rest : List Value} {G : va_G} (sv : Nat) (ga : Nat → Nat) {cI cS : ClassId} {u : TH}  {p0 : Int32} {r : Int32} (S : CallFix p m c cc nL s args bw RX4) (hK : va_K G vwCl (tysW cI cS) s) (hN : NW s) (hP : va_P G vwCl (wH cI sv ga u) H) (hf : fX4_lengthAt u p0 = some r) (hsz : ls.size = nL) (hst : (rest.map fun v => v.category).sum ≤ 8) (hR : rmX4_lengthAt.frames + 1 ≤ R.frames ∧ 8 + (3 + 11) + rmX4_lengthAt.locals ≤ R.locals) (hdg : decode cc pc = .ok (.invokevirtual 113, 3)) (hcs : cells + 0 ≤ R.cells ∧ slots + 0 ≤ R.slots) : va_Run p l e R s m args below meth c H locs cells slots 0 0 (F0 m pc ls (.int p0 :: .ref (ga 0) :: rest)) rest (vp_Si (fun r' => r' = r) (#[.ref (ga 0), .int p0] : Array Value)) (fun _ => False) :=
  va_runV (As := [.int p0]) (rest := rest) S (kX4_lengthAt l G cI cS sv ga u p0 r hf) (cwV 1 S.2.2.2.2 (gdV q_247 q_248 q_249 q_49 q_245) rfl rfl rfl (by decide +kernel) hR) (pvR (q := (RX4, TX4, 8)) hK hN hP (ci := 4) (q0 := 0) rfl rfl) rfl rfl hsz rfl (lv_room hst) hdg hcs
theorem cc_X4_116 {p : Program} {l : Launch} {e : Env} {R : Room} {s : State} {m : MethodId} {args : Array Value} {below : List Frame} {meth : Method} {c : Code} {H : Heap} {locs : List Loc} {cells slots : Nat} {cc : ByteArray} {pc nL : Nat} {ls : Array Slot} {rest : List Value} {G : va_G} {A : Nat → Prop} (sv : Nat) (ga : Nat → Nat) {cI cS : ClassId} {u : TH}  {p0 : Int32} {r : TH} (S : CallFix p m c cc nL s args bw RX4) (hK : va_K G vwCl (tysW cI cS) s) (hN : NW s) (hP : va_P G vwCl (wH cI sv ga u) H) (hD : va_D A (wH cI sv ga u)) (hf : fX4_deleteRow u p0 = some r) (hsz : ls.size = nL) (hst : (rest.map fun v => v.category).sum ≤ 8) (hR : rmX4_deleteRow.frames + 1 ≤ R.frames ∧ 8 + (3 + 11) + rmX4_deleteRow.locals ≤ R.locals) (hdg : decode cc pc = .ok (.invokevirtual 116, 3)) (hcs : cells + 0 ≤ R.cells ∧ slots + 0 ≤ R.slots) : va_Run p l e R s m args below meth c H locs cells slots 0 0 (F0 m pc ls (.int p0 :: .ref (ga 0) :: rest)) rest (va_Qv (fun u' => u' = r) (PoM G (tysW cI cS) (va_A (wH cI sv ga u) H.size) (wH cI sv ga)) (va_A (wH cI sv ga u) H.size) (#[.ref (ga 0), .int p0] : Array Value)) (va_A (wH cI sv ga u) H.size) :=
  va_runV (As := [.int p0]) (rest := rest) S (kX4_deleteRow l G cI cS sv ga H.size u p0 r hf) (cwV 1 S.2.2.2.2 (gdV q_250 q_251 q_252 q_49 q_246) rfl rfl rfl (by decide +kernel) hR) (pvM (q := (RX4, TX4, 8)) hK hN hP hD (ci := 4) (q0 := 0) rfl rfl) rfl rfl hsz rfl (lv_room hst) hdg hcs
def fX4_delete (u : THS) (p0 : Int32) : Option (Int32 × THS) := ((fX4_requireRow u.1 p0).bind fun z1 => ((fX4_saveState u).bind fun z2 => ((fX4_presentPlace z2.1 p0).bind fun z3 => ((fX4_lengthAt z2.1 z3).bind fun z4 => ((fX4_deleteRow z2.1 p0).bind fun z5 => some (z4, z5, z2.2))))))
abbrev rmX4_delete : Room := { frames := 5, cells := 0, slots := 0, locals := 113 }
set_option maxRecDepth 100000 in
set_option maxHeartbeats 4000000 in
theorem kX4_delete (l : Launch) (G : va_G) (cI cS : ClassId) (sv : Nat) (ga : Nat → Nat) (sz : Nat) (u : THS) (p0 : Int32) (r : Int32 × THS) (hf : fX4_delete u p0 = some r) : Met l yX4_delete (.code yX4_delete cX4_delete 3 (some .int) :: bw) rmX4_delete (va_Pc [.ref (ga 0), .int p0] (PreM G (tysW cI cS) (wHS cI cS sv ga u) sz)) (va_Qi (fun r' u' => (r', u') = r) (PoM G (tysW cI cS) (va_A (wHS cI cS sv ga u) sz) (wHS cI cS sv ga)) (va_A (wHS cI cS sv ga u) sz)) 0 0 (va_A (wHS cI cS sv ga u) sz) := by
  refine enterM (own := RX4) (by decide) rfl (Nat.le_of_ble_eq_true rfl) ?_
  intro p e s m args below meth c A Q hAe hQ S hr hlocks hP hK hN hD hA hS ls hl
  rw [hAe] at hQ
  have hx := S.1; have hb := S.2.1; have hml := S.2.2.1; have hown := S.2.2.2.1; have hq := S.2.2.2.2
  have hl : lv_has ls 3 [(0, .ref (ga 0)), (1, .int p0)] := hl
  have h := hf
  unfold fX4_delete at h
  refine lv_aload_n hx hb dX4_delete_0 rfl (lv_at hl 0 rfl) ?_
  refine lv_iload_n hx hb dX4_delete_1 rfl (lv_at hl 1 rfl) ?_
  obtain ⟨z1, e_z1, h⟩ := bnd h
  refine roV (cc_X4_98 sv ga S hK hN (hP.sub [0, 1, 2, 3, 4, 5, 6, 7, 8, 9, 10, 11, 12] rfl) e_z1 hl.1 (Nat.le_of_ble_eq_true rfl) ⟨Nat.le_of_ble_eq_true rfl, Nat.le_of_ble_eq_true rfl⟩ dX4_delete_2 ⟨Nat.le_of_ble_eq_true rfl, Nat.le_of_ble_eq_true rfl⟩) ?_
  refine lv_aload_n hx hb dX4_delete_5 rfl (lv_at hl 0 rfl) ?_
  obtain ⟨z2, e_z2, h⟩ := bnd h
  refine muv (cc_X4_88 sv ga S hK hN hP hD e_z2 hl.1 (Nat.le_of_ble_eq_true rfl) ⟨Nat.le_of_ble_eq_true rfl, Nat.le_of_ble_eq_true rfl⟩ dX4_delete_6 ⟨Nat.le_of_ble_eq_true rfl, Nat.le_of_ble_eq_true rfl⟩) hS hD (va_free hD hS hA [0, 1, 2, 3, 4, 5, 6, 7, 8, 9, 10, 11, 12, 13, 14, 15, 16, 17, 18, 19, 20, 21, 22, 23, 24, 25] rfl) (fun H locs hP hD hS => ?_)
  have hP : va_P G vwCl (wHS cI cS sv ga z2) H := hP
  have hD : va_D A (wHS cI cS sv ga z2) := hD
  refine lv_aload_n hx hb dX4_delete_9 rfl (lv_at hl 0 rfl) ?_
  refine lv_aload_n hx hb dX4_delete_10 rfl (lv_at hl 0 rfl) ?_
  refine lv_iload_n hx hb dX4_delete_11 rfl (lv_at hl 1 rfl) ?_
  obtain ⟨z3, e_z3, h⟩ := bnd h
  refine roI (cc_X4_110 sv ga S hK hN (hP.sub [0, 1, 2, 3, 4, 5, 6, 7, 8, 9, 10, 11, 12] rfl) e_z3 hl.1 (Nat.le_of_ble_eq_true rfl) ⟨Nat.le_of_ble_eq_true rfl, Nat.le_of_ble_eq_true rfl⟩ dX4_delete_12 ⟨Nat.le_of_ble_eq_true rfl, Nat.le_of_ble_eq_true rfl⟩) ?_
  obtain ⟨z4, e_z4, h⟩ := bnd h
  refine roI (cc_X4_113 sv ga S hK hN (hP.sub [0, 1, 2, 3, 4, 5, 6, 7, 8, 9, 10, 11, 12] rfl) e_z4 hl.1 (Nat.le_of_ble_eq_true rfl) ⟨Nat.le_of_ble_eq_true rfl, Nat.le_of_ble_eq_true rfl⟩ dX4_delete_15 ⟨Nat.le_of_ble_eq_true rfl, Nat.le_of_ble_eq_true rfl⟩) ?_
  refine lv_istore_n (lv' := [(2, .int z4), (0, .ref (ga 0)), (1, .int p0)]) hx hb dX4_delete_18 rfl hl (by decide) rfl (fun ls hl => ?_)
  refine lv_aload_n hx hb dX4_delete_19 rfl (lv_at hl 1 rfl) ?_
  refine lv_iload_n hx hb dX4_delete_20 rfl (lv_at hl 2 rfl) ?_
  obtain ⟨z5, e_z5, h⟩ := bnd h
  refine mjv (cc_X4_116 sv ga S hK hN (hP.sub [0, 1, 2, 3, 4, 5, 6, 7, 8, 9, 10, 11, 12] rfl) (hD.sub [0, 1, 2, 3, 4, 5, 6, 7, 8, 9, 10, 11, 12] (by decide) rfl) e_z5 hl.1 (Nat.le_of_ble_eq_true rfl) ⟨Nat.le_of_ble_eq_true rfl, Nat.le_of_ble_eq_true rfl⟩ dX4_delete_21 ⟨Nat.le_of_ble_eq_true rfl, Nat.le_of_ble_eq_true rfl⟩) hS hP hD hA [0, 1, 2, 3, 4, 5, 6, 7, 8, 9, 10, 11, 12] [13, 14, 15, 16, 17, 18, 19, 20, 21, 22, 23, 24, 25] rfl rfl (by decide) (by decide) [13, 14, 15, 16, 17, 18, 19, 20, 21, 22, 23, 24, 25, 0, 1, 2, 3, 4, 5, 6, 7, 8, 9, 10, 11, 12] (by decide) (wHS cI cS sv ga (z5, z2.2)) rfl (fun H locs hP hD hS => ?_)
  refine lv_iload_n hx hb dX4_delete_24 rfl (lv_at hl 0 rfl) ?_
  exact retMi hQ S hr hlocks hK hN hP hD hS h dX4_delete_25

def fX4_mayReturn (u : TH) (p0 : Int32) : Option (Int32) := ((fX4_kind u p0).bind fun z1 => (if z1 = (2 : Int32) then ((fX4_targetAt u p0).bind fun z3 => ((fX4_lengthAt u z3).bind fun z4 => ((fX4_homeSize z4).bind fun z5 => ((fX4_roomToReplace u p0).bind fun z6 => (if z6 < z5 then some (0 : Int32) else some (1 : Int32)))))) else some (0 : Int32)))
abbrev rmX4_mayReturn : Room := { frames := 3, cells := 0, slots := 0, locals := 70 }
set_option maxRecDepth 100000 in
set_option maxHeartbeats 4000000 in
theorem kX4_mayReturn (l : Launch) (G : va_G) (cI cS : ClassId) (sv : Nat) (ga : Nat → Nat) (u : TH) (p0 : Int32) (r : Int32) (hf : fX4_mayReturn u p0 = some r) : Met l yX4_mayReturn (.code yX4_mayReturn cX4_mayReturn 2 (some .boolean) :: bw) rmX4_mayReturn (va_Pc [.ref (ga 0), .int p0] (PreR G (tysW cI cS) (wH cI sv ga u))) (vp_Si (fun r' => r' = r)) 0 0 (fun _ => False) := by
  refine enterR (own := RX4) (by decide) rfl rfl (Nat.le_of_ble_eq_true rfl) ?_
  intro p e s m args below meth c Q hQ S hr hlocks hP hK hN ls hl
  have hx := S.1; have hb := S.2.1; have hml := S.2.2.1; have hown := S.2.2.2.1; have hq := S.2.2.2.2
  have hl : lv_has ls 2 [(0, .ref (ga 0)), (1, .int p0)] := hl
  have h := hf
  unfold fX4_mayReturn at h
  refine lv_aload_n hx hb dX4_mayReturn_0 rfl (lv_at hl 0 rfl) ?_
  refine lv_iload_n hx hb dX4_mayReturn_1 rfl (lv_at hl 1 rfl) ?_
  obtain ⟨z1, e_z1, h⟩ := bnd h
  refine roI (cc_X4_132 sv ga S hK hN hP e_z1 hl.1 (Nat.le_of_ble_eq_true rfl) ⟨Nat.le_of_ble_eq_true rfl, Nat.le_of_ble_eq_true rfl⟩ dX4_mayReturn_2 ⟨Nat.le_of_ble_eq_true rfl, Nat.le_of_ble_eq_true rfl⟩) ?_
  refine lv_iconst (v := 2) hx hb dX4_mayReturn_5 (by decide) ?_
  refine lv_icmp_ne (tgt := 33) hx hb dX4_mayReturn_6 (by decide) (fun c2 => ?_) (fun c2 => ?_)
  · have h := (if_neg c2).symm.trans h
    refine lv_iconst (v := 0) hx hb dX4_mayReturn_33 (by decide) ?_
    exact retRz hQ S hr hlocks rfl h dX4_mayReturn_34
  · have h := (if_pos c2).symm.trans h
    refine lv_aload_n hx hb dX4_mayReturn_9 rfl (lv_at hl 0 rfl) ?_
    refine lv_aload_n hx hb dX4_mayReturn_10 rfl (lv_at hl 0 rfl) ?_
    refine lv_iload_n hx hb dX4_mayReturn_11 rfl (lv_at hl 1 rfl) ?_
    obtain ⟨z3, e_z3, h⟩ := bnd h
    refine roI (cc_X4_155 sv ga S hK hN hP e_z3 hl.1 (Nat.le_of_ble_eq_true rfl) ⟨Nat.le_of_ble_eq_true rfl, Nat.le_of_ble_eq_true rfl⟩ dX4_mayReturn_12 ⟨Nat.le_of_ble_eq_true rfl, Nat.le_of_ble_eq_true rfl⟩) ?_
    obtain ⟨z4, e_z4, h⟩ := bnd h
    refine roI (cc_X4_113 sv ga S hK hN hP e_z4 hl.1 (Nat.le_of_ble_eq_true rfl) ⟨Nat.le_of_ble_eq_true rfl, Nat.le_of_ble_eq_true rfl⟩ dX4_mayReturn_15 ⟨Nat.le_of_ble_eq_true rfl, Nat.le_of_ble_eq_true rfl⟩) ?_
    obtain ⟨z5, e_z5, h⟩ := bnd h
    refine roI (cc_X4_78 S hK hN va_P0 e_z5 hl.1 (Nat.le_of_ble_eq_true rfl) ⟨Nat.le_of_ble_eq_true rfl, Nat.le_of_ble_eq_true rfl⟩ dX4_mayReturn_18 ⟨Nat.le_of_ble_eq_true rfl, Nat.le_of_ble_eq_true rfl⟩) ?_
    refine lv_aload_n hx hb dX4_mayReturn_21 rfl (lv_at hl 0 rfl) ?_
    refine lv_iload_n hx hb dX4_mayReturn_22 rfl (lv_at hl 1 rfl) ?_
    obtain ⟨z6, e_z6, h⟩ := bnd h
    refine roI (cc_X4_197 sv ga S hK hN hP e_z6 hl.1 (Nat.le_of_ble_eq_true rfl) ⟨Nat.le_of_ble_eq_true rfl, Nat.le_of_ble_eq_true rfl⟩ dX4_mayReturn_23 ⟨Nat.le_of_ble_eq_true rfl, Nat.le_of_ble_eq_true rfl⟩) ?_
    refine lv_icmp_gt (tgt := 33) hx hb dX4_mayReturn_26 (by decide) (fun c7 => ?_) (fun c7 => ?_)
    · have h := (if_pos c7).symm.trans h
      refine lv_iconst (v := 0) hx hb dX4_mayReturn_33 (by decide) ?_
      exact retRz hQ S hr hlocks rfl h dX4_mayReturn_34
    · have h := (if_neg c7).symm.trans h
      refine lv_iconst (v := 1) hx hb dX4_mayReturn_29 (by decide) ?_
      refine lv_goto (tgt := 34) hx hb dX4_mayReturn_30 (by decide) ?_
      exact retRz hQ S hr hlocks rfl h dX4_mayReturn_34

def fX4_rowByteAt_j31 (u : TH) (x2 : Int32) (x3 : Int32) (x4 : Int32) (t0 : Int32) : Option (Int32) := ((fX3_recordByte u.1.1 x3 x4 (t0 + x2)).bind fun z1 => some z1)
def fX4_rowByteAt (u : TH) (p0 : Int32) (p1 : Int32) : Option (Int32) := ((fX4_pageIn p0).bind fun z2 => ((fX4_slotIn p0).bind fun z3 => ((fX3_recordByte u.1.1 z2 z3 (0 : Int32)).bind fun z4 => (if z4 = (3 : Int32) then fX4_rowByteAt_j31 u p1 z2 z3 (3 : Int32) else fX4_rowByteAt_j31 u p1 z2 z3 (1 : Int32)))))
abbrev rmX4_rowByteAt : Room := { frames := 2, cells := 0, slots := 0, locals := 46 }
set_option maxRecDepth 100000 in
set_option maxHeartbeats 4000000 in
theorem kX4_rowByteAt (l : Launch) (G : va_G) (cI cS : ClassId) (sv : Nat) (ga : Nat → Nat) (u : TH) (p0 : Int32) (p1 : Int32) (r : Int32) (hf : fX4_rowByteAt u p0 p1 = some r) : Met l yX4_rowByteAt (.code yX4_rowByteAt cX4_rowByteAt 6 (some .int) :: bw) rmX4_rowByteAt (va_Pc [.ref (ga 0), .int p0, .int p1] (PreR G (tysW cI cS) (wH cI sv ga u))) (vp_Si (fun r' => r' = r)) 0 0 (fun _ => False) := by
  refine enterR (own := RX4) (by decide) rfl rfl (Nat.le_of_ble_eq_true rfl) ?_
  intro p e s m args below meth c Q hQ S hr hlocks hP hK hN ls hl
  have hx := S.1; have hb := S.2.1; have hml := S.2.2.1; have hown := S.2.2.2.1; have hq := S.2.2.2.2
  have hl : lv_has ls 6 [(0, .ref (ga 0)), (1, .int p0), (2, .int p1)] := hl
  have h := hf
  unfold fX4_rowByteAt at h
  have J31 : ∀ (x2 : Int32) (x3 : Int32) (x4 : Int32) (t0 : Int32) , fX4_rowByteAt_j31 u x2 x3 x4 t0 = some r → ∀ ls : Array Slot, lv_has ls 6 [(0, .ref (ga 0)), (2, .int x2), (3, .int x3), (4, .int x4)] → W p l e rmX4_rowByteAt s m args below meth c s.heap [] 0 0 Q (F0 m 31 ls [.int t0]) := by
    intro x2 x3 x4 t0 h
    unfold fX4_rowByteAt_j31 at h
    intro ls hl
    refine lv_istore (lv' := [(5, .int t0), (0, .ref (ga 0)), (2, .int x2), (3, .int x3), (4, .int x4)]) hx hb dX4_rowByteAt_31 hl (by decide) rfl (fun ls hl => ?_)
    refine lv_aload_n hx hb dX4_rowByteAt_33 rfl (lv_at hl 1 rfl) ?_
    refine gf_X4_20 S hK hN hP 0 rfl (v := .ref (ga 2)) rfl dX4_rowByteAt_34 ?_
    refine lv_iload_n hx hb dX4_rowByteAt_37 rfl (lv_at hl 3 rfl) ?_
    refine lv_iload hx hb dX4_rowByteAt_38 (lv_at hl 4 rfl) ?_
    refine lv_iload hx hb dX4_rowByteAt_40 (lv_at hl 0 rfl) ?_
    refine lv_iload_n hx hb dX4_rowByteAt_42 rfl (lv_at hl 2 rfl) ?_
    refine lv_iadd hx hb dX4_rowByteAt_43 ?_
    obtain ⟨z1, e_z1, h⟩ := bnd h
    refine roI (cc_X4_176 (ga 2) (ga 3) S hK hN (hP.sub [2, 3] rfl) e_z1 hl.1 (Nat.le_of_ble_eq_true rfl) ⟨Nat.le_of_ble_eq_true rfl, Nat.le_of_ble_eq_true rfl⟩ dX4_rowByteAt_44 ⟨Nat.le_of_ble_eq_true rfl, Nat.le_of_ble_eq_true rfl⟩) ?_
    exact retR hQ S hr hlocks h dX4_rowByteAt_47
  refine lv_iload_n hx hb dX4_rowByteAt_0 rfl (lv_at hl 1 rfl) ?_
  obtain ⟨z2, e_z2, h⟩ := bnd h
  refine roI (cc_X4_167 S hK hN va_P0 e_z2 hl.1 (Nat.le_of_ble_eq_true rfl) ⟨Nat.le_of_ble_eq_true rfl, Nat.le_of_ble_eq_true rfl⟩ dX4_rowByteAt_1 ⟨Nat.le_of_ble_eq_true rfl, Nat.le_of_ble_eq_true rfl⟩) ?_
  refine lv_istore_n (lv' := [(3, .int z2), (0, .ref (ga 0)), (1, .int p0), (2, .int p1)]) hx hb dX4_rowByteAt_4 rfl hl (by decide) rfl (fun ls hl => ?_)
  refine lv_iload_n hx hb dX4_rowByteAt_5 rfl (lv_at hl 2 rfl) ?_
  obtain ⟨z3, e_z3, h⟩ := bnd h
  refine roI (cc_X4_170 S hK hN va_P0 e_z3 hl.1 (Nat.le_of_ble_eq_true rfl) ⟨Nat.le_of_ble_eq_true rfl, Nat.le_of_ble_eq_true rfl⟩ dX4_rowByteAt_6 ⟨Nat.le_of_ble_eq_true rfl, Nat.le_of_ble_eq_true rfl⟩) ?_
  refine lv_istore (lv' := [(4, .int z3), (3, .int z2), (0, .ref (ga 0)), (1, .int p0), (2, .int p1)]) hx hb dX4_rowByteAt_9 hl (by decide) rfl (fun ls hl => ?_)
  refine lv_aload_n hx hb dX4_rowByteAt_11 rfl (lv_at hl 2 rfl) ?_
  refine gf_X4_20 S hK hN hP 0 rfl (v := .ref (ga 2)) rfl dX4_rowByteAt_12 ?_
  refine lv_iload_n hx hb dX4_rowByteAt_15 rfl (lv_at hl 1 rfl) ?_
  refine lv_iload hx hb dX4_rowByteAt_16 (lv_at hl 0 rfl) ?_
  refine lv_iconst (v := 0) hx hb dX4_rowByteAt_18 (by decide) ?_
  obtain ⟨z4, e_z4, h⟩ := bnd h
  refine roI (cc_X4_176 (ga 2) (ga 3) S hK hN (hP.sub [2, 3] rfl) e_z4 hl.1 (Nat.le_of_ble_eq_true rfl) ⟨Nat.le_of_ble_eq_true rfl, Nat.le_of_ble_eq_true rfl⟩ dX4_rowByteAt_19 ⟨Nat.le_of_ble_eq_true rfl, Nat.le_of_ble_eq_true rfl⟩) ?_
  refine lv_iconst (v := 3) hx hb dX4_rowByteAt_22 (by decide) ?_
  refine lv_icmp_ne (tgt := 30) hx hb dX4_rowByteAt_23 (by decide) (fun c5 => ?_) (fun c5 => ?_)
  · have h := (if_neg c5).symm.trans h
    refine lv_iconst (v := 1) hx hb dX4_rowByteAt_30 (by decide) ?_
    exact J31 p1 z2 z3 (1 : Int32) h _ (lv_sub hl [2, 4, 1, 0] rfl)
  · have h := (if_pos c5).symm.trans h
    refine lv_iconst (v := 3) hx hb dX4_rowByteAt_26 (by decide) ?_
    refine lv_goto (tgt := 31) hx hb dX4_rowByteAt_27 (by decide) ?_
    exact J31 p1 z2 z3 (3 : Int32) h _ (lv_sub hl [2, 4, 1, 0] rfl)

theorem cc_X4_140 {p : Program} {l : Launch} {e : Env} {R : Room} {s : State} {m : MethodId} {args : Array Value} {below : List Frame} {meth : Method} {c : Code} {H : Heap} {locs : List Loc} {cells slots : Nat} {cc : ByteArray} {pc nL : Nat} {ls : Array Slot} {rest : List Value} {G : va_G} (sv : Nat) (ga : Nat → Nat) {cI cS : ClassId} {u : TH}  {p0 : Int32} {p1 : Int32} {r : Int32} (S : CallFix p m c cc nL s args bw RX4) (hK : va_K G vwCl (tysW cI cS) s) (hN : NW s) (hP : va_P G vwCl (wH cI sv ga u) H) (hf : fX4_rowByteAt u p0 p1 = some r) (hsz : ls.size = nL) (hst : (rest.map fun v => v.category).sum ≤ 8) (hR : rmX4_rowByteAt.frames + 1 ≤ R.frames ∧ 8 + (6 + 11) + rmX4_rowByteAt.locals ≤ R.locals) (hdg : decode cc pc = .ok (.invokevirtual 140, 3)) (hcs : cells + 0 ≤ R.cells ∧ slots + 0 ≤ R.slots) : va_Run p l e R s m args below meth c H locs cells slots 0 0 (F0 m pc ls (.int p1 :: .int p0 :: .ref (ga 0) :: rest)) rest (vp_Si (fun r' => r' = r) (#[.ref (ga 0), .int p0, .int p1] : Array Value)) (fun _ => False) :=
  va_runV (As := [.int p0, .int p1]) (rest := rest) S (kX4_rowByteAt l G cI cS sv ga u p0 p1 r hf) (cwV 2 S.2.2.2.2 (gdV q_256 q_257 q_258 q_49 q_255) rfl rfl rfl (by decide +kernel) hR) (pvR (q := (RX4, TX4, 8)) hK hN hP (ci := 4) (q0 := 0) rfl rfl) rfl rfl hsz rfl (lv_room hst) hdg hcs
def fX4_takeContentOf_s15 (u : TH) (x1 : Int32) (x2 : Int32) (x3 : Int32) : Option ((TH × Int32 × Int32 × Int32) ⊕ (TH)) := (if x2 ≤ x3 then some (.inr u) else ((fX4_rowByteAt u x1 x3).bind fun z2 => ((fX0_add 60 u.2.2.1 z2).bind fun z3 => some (.inl ((u.1, u.2.1, z3, u.2.2.2), x1, x2, (x3 + 1))))))
def fX4_takeContentOf (u : TH) (p0 : Int32) : Option (TH) := ((fX4_lengthAt u p0).bind fun z4 => ((fX0_empty 60 u.2.2.1).bind fun z5 => ((itr (fun a : TH × Int32 × Int32 × Int32 => fX4_takeContentOf_s15 a.1 a.2.1 a.2.2.1 a.2.2.2) FU ((u.1, u.2.1, z5, u.2.2.2), p0, z4, (0 : Int32))).bind fun b6 => some b6)))
abbrev rmX4_takeContentOf : Room := { frames := 3, cells := 0, slots := 0, locals := 71 }
set_option maxRecDepth 100000 in
set_option maxHeartbeats 4000000 in
theorem kX4_takeContentOf (l : Launch) (G : va_G) (cI cS : ClassId) (sv : Nat) (ga : Nat → Nat) (sz : Nat) (u : TH) (p0 : Int32) (r : TH) (hf : fX4_takeContentOf u p0 = some r) : Met l yX4_takeContentOf (.code yX4_takeContentOf cX4_takeContentOf 4 none :: bw) rmX4_takeContentOf (va_Pc [.ref (ga 0), .int p0] (PreM G (tysW cI cS) (wH cI sv ga u) sz)) (va_Qv (fun u' => u' = r) (PoM G (tysW cI cS) (va_A (wH cI sv ga u) sz) (wH cI sv ga)) (va_A (wH cI sv ga u) sz)) 0 0 (va_A (wH cI sv ga u) sz) := by
  refine enterM (own := RX4) (by decide) rfl (Nat.le_of_ble_eq_true rfl) ?_
  intro p e s m args below meth c A Q hAe hQ S hr hlocks hP hK hN hD hA hS ls hl
  rw [hAe] at hQ
  have hx := S.1; have hb := S.2.1; have hml := S.2.2.1; have hown := S.2.2.2.1; have hq := S.2.2.2.2
  have hl : lv_has ls 4 [(0, .ref (ga 0)), (1, .int p0)] := hl
  have h := hf
  unfold fX4_takeContentOf at h
  have L15 : ∀ (n9 : Nat) (a9 : TH × Int32 × Int32 × Int32) (b9 : TH), itr (fun a : TH × Int32 × Int32 × Int32 => fX4_takeContentOf_s15 a.1 a.2.1 a.2.2.1 a.2.2.2) n9 a9 = some b9 → (fun b : TH => ∀ (H : Heap) (locs : List Loc), va_P G vwCl (wH cI sv ga b) H → va_D A (wH cI sv ga b) → va_S A s.heap H locs → ∀ ls : Array Slot, lv_has ls 4 [] → W p l e rmX4_takeContentOf s m args below meth c H locs 0 0 Q (F0 m 39 ls [])) b9 → (fun a : TH × Int32 × Int32 × Int32 => ∀ (H : Heap) (locs : List Loc), va_P G vwCl (wH cI sv ga a.1) H → va_D A (wH cI sv ga a.1) → va_S A s.heap H locs → ∀ ls : Array Slot, lv_has ls 4 [(0, .ref (ga 0)), (1, .int a.2.1), (2, .int a.2.2.1), (3, .int a.2.2.2)] → W p l e rmX4_takeContentOf s m args below meth c H locs 0 0 Q (F0 m 15 ls [])) a9 := by
    refine itr_ind (Inv := (fun a : TH × Int32 × Int32 × Int32 => ∀ (H : Heap) (locs : List Loc), va_P G vwCl (wH cI sv ga a.1) H → va_D A (wH cI sv ga a.1) → va_S A s.heap H locs → ∀ ls : Array Slot, lv_has ls 4 [(0, .ref (ga 0)), (1, .int a.2.1), (2, .int a.2.2.1), (3, .int a.2.2.2)] → W p l e rmX4_takeContentOf s m args below meth c H locs 0 0 Q (F0 m 15 ls []))) (Ex := (fun b : TH => ∀ (H : Heap) (locs : List Loc), va_P G vwCl (wH cI sv ga b) H → va_D A (wH cI sv ga b) → va_S A s.heap H locs → ∀ ls : Array Slot, lv_has ls 4 [] → W p l e rmX4_takeContentOf s m args below meth c H locs 0 0 Q (F0 m 39 ls []))) ?_
    rintro ⟨u, x1, x2, x3⟩ z h hI hE
    have h : fX4_takeContentOf_s15 u x1 x2 x3 = some z := h
    unfold fX4_takeContentOf_s15 at h
    show ∀ (H : Heap) (locs : List Loc), va_P G vwCl (wH cI sv ga u) H → va_D A (wH cI sv ga u) → va_S A s.heap H locs → ∀ ls : Array Slot, lv_has ls 4 [(0, .ref (ga 0)), (1, .int x1), (2, .int x2), (3, .int x3)] → W p l e rmX4_takeContentOf s m args below meth c H locs 0 0 Q (F0 m 15 ls [])
    intro H locs hP hD hS ls hl
    refine lv_iload_n hx hb dX4_takeContentOf_15 rfl (lv_at hl 3 rfl) ?_
    refine lv_iload_n hx hb dX4_takeContentOf_16 rfl (lv_at hl 2 rfl) ?_
    refine lv_icmp_ge (tgt := 39) hx hb dX4_takeContentOf_17 (by decide) (fun c1 => ?_) (fun c1 => ?_)
    · have h := (if_pos c1).symm.trans h
      exact hE _ (Option.some.inj h) _ _ hP hD hS _ (lv_sub hl [] rfl)
    · have h := (if_neg c1).symm.trans h
      refine lv_aload_n hx hb dX4_takeContentOf_20 rfl (lv_at hl 0 rfl) ?_
      refine gf_X4_30 S hK hN hP 0 rfl (v := .ref (ga 8)) rfl dX4_takeContentOf_21 ?_
      refine lv_aload_n hx hb dX4_takeContentOf_24 rfl (lv_at hl 0 rfl) ?_
      refine lv_iload_n hx hb dX4_takeContentOf_25 rfl (lv_at hl 1 rfl) ?_
      refine lv_iload_n hx hb dX4_takeContentOf_26 rfl (lv_at hl 3 rfl) ?_
      obtain ⟨z2, e_z2, h⟩ := bnd h
      refine roI (cc_X4_140 sv ga S hK hN hP e_z2 hl.1 (Nat.le_of_ble_eq_true rfl) ⟨Nat.le_of_ble_eq_true rfl, Nat.le_of_ble_eq_true rfl⟩ dX4_takeContentOf_27 ⟨Nat.le_of_ble_eq_true rfl, Nat.le_of_ble_eq_true rfl⟩) ?_
      obtain ⟨z3, e_z3, h⟩ := bnd h
      refine mjv (cc_X4_75 (ga 8) (ga 9) 60 S hK hN (hP.sub [8, 9] rfl) (hD.sub [8, 9] (by decide) rfl) e_z3 hl.1 (Nat.le_of_ble_eq_true rfl) ⟨Nat.le_of_ble_eq_true rfl, Nat.le_of_ble_eq_true rfl⟩ dX4_takeContentOf_30 ⟨Nat.le_of_ble_eq_true rfl, Nat.le_of_ble_eq_true rfl⟩) hS hP hD hA [8, 9] [0, 1, 2, 3, 4, 5, 6, 7, 10, 11, 12] rfl rfl (by decide) (by decide) [0, 1, 2, 3, 4, 5, 6, 7, 11, 12, 8, 9, 10] (by decide) (wH cI sv ga (u.1, u.2.1, z3, u.2.2.2)) rfl (fun H locs hP hD hS => ?_)
      refine lv_iinc (v := (x3 + 1)) (lv' := [(3, .int (x3 + 1)), (0, .ref (ga 0)), (1, .int x1), (2, .int x2)]) hx hb dX4_takeContentOf_33 hl (k := 3) rfl rfl (by decide) rfl (fun ls hl => ?_)
      refine lv_goto (tgt := 15) hx hb dX4_takeContentOf_36 (by decide) ?_
      exact hI _ (Option.some.inj h) _ _ hP hD hS _ (lv_sub hl [1, 2, 3, 0] rfl)
  refine lv_aload_n hx hb dX4_takeContentOf_0 rfl (lv_at hl 0 rfl) ?_
  refine lv_iload_n hx hb dX4_takeContentOf_1 rfl (lv_at hl 1 rfl) ?_
  obtain ⟨z4, e_z4, h⟩ := bnd h
  refine roI (cc_X4_113 sv ga S hK hN hP e_z4 hl.1 (Nat.le_of_ble_eq_true rfl) ⟨Nat.le_of_ble_eq_true rfl, Nat.le_of_ble_eq_true rfl⟩ dX4_takeContentOf_2 ⟨Nat.le_of_ble_eq_true rfl, Nat.le_of_ble_eq_true rfl⟩) ?_
  refine lv_istore_n (lv' := [(2, .int z4), (0, .ref (ga 0)), (1, .int p0)]) hx hb dX4_takeContentOf_5 rfl hl (by decide) rfl (fun ls hl => ?_)
  refine lv_aload_n hx hb dX4_takeContentOf_6 rfl (lv_at hl 1 rfl) ?_
  refine gf_X4_30 S hK hN hP 0 rfl (v := .ref (ga 8)) rfl dX4_takeContentOf_7 ?_
  obtain ⟨z5, e_z5, h⟩ := bnd h
  refine mjv (cc_X4_58 (ga 8) (ga 9) 60 S hK hN (hP.sub [8, 9] rfl) (hD.sub [8, 9] (by decide) rfl) e_z5 hl.1 (Nat.le_of_ble_eq_true rfl) ⟨Nat.le_of_ble_eq_true rfl, Nat.le_of_ble_eq_true rfl⟩ dX4_takeContentOf_10 ⟨Nat.le_of_ble_eq_true rfl, Nat.le_of_ble_eq_true rfl⟩) hS hP hD hA [8, 9] [0, 1, 2, 3, 4, 5, 6, 7, 10, 11, 12] rfl rfl (by decide) (by decide) [0, 1, 2, 3, 4, 5, 6, 7, 11, 12, 8, 9, 10] (by decide) (wH cI sv ga (u.1, u.2.1, z5, u.2.2.2)) rfl (fun H locs hP hD hS => ?_)
  refine lv_iconst (v := 0) hx hb dX4_takeContentOf_13 (by decide) ?_
  refine lv_istore_n (lv' := [(3, .int (0 : Int32)), (2, .int z4), (0, .ref (ga 0)), (1, .int p0)]) hx hb dX4_takeContentOf_14 rfl hl (by decide) rfl (fun ls hl => ?_)
  obtain ⟨b6, e_b6, h⟩ := bnd h
  refine L15 _ _ _ e_b6 ?_ _ _ hP hD hS _ (lv_sub hl [2, 3, 1, 0] rfl)
  intro H locs hP hD hS ls hl
  exact retMv hQ S hr hlocks hK hN hP hD hS h dX4_takeContentOf_39

theorem cc_X4_311 {p : Program} {l : Launch} {e : Env} {R : Room} {s : State} {m : MethodId} {args : Array Value} {below : List Frame} {meth : Method} {c : Code} {H : Heap} {locs : List Loc} {cells slots : Nat} {cc : ByteArray} {pc nL : Nat} {ls : Array Slot} {rest : List Value} {G : va_G} (sv : Nat) (ga : Nat → Nat) {cI cS : ClassId} {u : TH}  {p0 : Int32} {r : Int32} (S : CallFix p m c cc nL s args bw RX4) (hK : va_K G vwCl (tysW cI cS) s) (hN : NW s) (hP : va_P G vwCl (wH cI sv ga u) H) (hf : fX4_mayReturn u p0 = some r) (hsz : ls.size = nL) (hst : (rest.map fun v => v.category).sum ≤ 8) (hR : rmX4_mayReturn.frames + 1 ≤ R.frames ∧ 8 + (2 + 11) + rmX4_mayReturn.locals ≤ R.locals) (hdg : decode cc pc = .ok (.invokevirtual 311, 3)) (hcs : cells + 0 ≤ R.cells ∧ slots + 0 ≤ R.slots) : va_Run p l e R s m args below meth c H locs cells slots 0 0 (F0 m pc ls (.int p0 :: .ref (ga 0) :: rest)) rest (vp_Si (fun r' => r' = r) (#[.ref (ga 0), .int p0] : Array Value)) (fun _ => False) :=
  va_runV (As := [.int p0]) (rest := rest) S (kX4_mayReturn l G cI cS sv ga u p0 r hf) (cwV 1 S.2.2.2.2 (gdV q_260 q_261 q_262 q_49 q_254) rfl rfl rfl (by decide +kernel) hR) (pvR (q := (RX4, TX4, 8)) hK hN hP (ci := 4) (q0 := 0) rfl rfl) rfl rfl hsz rfl (lv_room hst) hdg hcs
theorem cc_X4_314 {p : Program} {l : Launch} {e : Env} {R : Room} {s : State} {m : MethodId} {args : Array Value} {below : List Frame} {meth : Method} {c : Code} {H : Heap} {locs : List Loc} {cells slots : Nat} {cc : ByteArray} {pc nL : Nat} {ls : Array Slot} {rest : List Value} {G : va_G} {A : Nat → Prop} (sv : Nat) (ga : Nat → Nat) {cI cS : ClassId} {u : TH}  {p0 : Int32} {r : TH} (S : CallFix p m c cc nL s args bw RX4) (hK : va_K G vwCl (tysW cI cS) s) (hN : NW s) (hP : va_P G vwCl (wH cI sv ga u) H) (hD : va_D A (wH cI sv ga u)) (hf : fX4_takeContentOf u p0 = some r) (hsz : ls.size = nL) (hst : (rest.map fun v => v.category).sum ≤ 8) (hR : rmX4_takeContentOf.frames + 1 ≤ R.frames ∧ 8 + (4 + 11) + rmX4_takeContentOf.locals ≤ R.locals) (hdg : decode cc pc = .ok (.invokevirtual 314, 3)) (hcs : cells + 0 ≤ R.cells ∧ slots + 0 ≤ R.slots) : va_Run p l e R s m args below meth c H locs cells slots 0 0 (F0 m pc ls (.int p0 :: .ref (ga 0) :: rest)) rest (va_Qv (fun u' => u' = r) (PoM G (tysW cI cS) (va_A (wH cI sv ga u) H.size) (wH cI sv ga)) (va_A (wH cI sv ga u) H.size) (#[.ref (ga 0), .int p0] : Array Value)) (va_A (wH cI sv ga u) H.size) :=
  va_runV (As := [.int p0]) (rest := rest) S (kX4_takeContentOf l G cI cS sv ga H.size u p0 r hf) (cwV 1 S.2.2.2.2 (gdV q_263 q_264 q_265 q_49 q_259) rfl rfl rfl (by decide +kernel) hR) (pvM (q := (RX4, TX4, 8)) hK hN hP hD (ci := 4) (q0 := 0) rfl rfl) rfl rfl hsz rfl (lv_room hst) hdg hcs
def fX4_bringAllHome_j75 (u : TH) (x1 : Int32) (x2 : Int32) (x3 : Int32) (x4 : Int32) : Option ((TH × Int32 × Int32 × Int32 × Int32) ⊕ (TH × Int32 × Int32)) := some (.inl (u, x1, x2, x3, (x4 + 1)))
def fX4_bringAllHome_s27 (u : TH) (x1 : Int32) (x2 : Int32) (x3 : Int32) (x4 : Int32) : Option ((TH × Int32 × Int32 × Int32 × Int32) ⊕ (TH × Int32 × Int32)) := (if x3 ≤ x4 then some (.inr (u, x1, x2)) else ((fX4_placeAt x2 x4).bind fun z2 => ((fX4_mayReturn u z2).bind fun z3 => (if z3 = 0 then fX4_bringAllHome_j75 u x1 x2 x3 x4 else ((fX4_targetAt u z2).bind fun z5 => ((fX4_takeContentOf u z5).bind fun z6 => ((fX4_storeAtHome z6 z2 z5).bind fun z7 => fX4_bringAllHome_j75 z7 (x1 + 1) x2 x3 x4)))))))
def fX4_bringAllHome_s4 (u : TH) (x1 : Int32) (x2 : Int32) : Option ((TH × Int32 × Int32) ⊕ (TH × Int32)) := (if u.1.1.1.1 ≤ x2 then some (.inr (u, x1)) else ((fX3_slotCount u.1.1 x2).bind fun z9 => ((itr (fun a : TH × Int32 × Int32 × Int32 × Int32 => fX4_bringAllHome_s27 a.1 a.2.1 a.2.2.1 a.2.2.2.1 a.2.2.2.2) FU (u, x1, x2, z9, (0 : Int32))).bind fun b10 => some (.inl (b10.1, b10.2.1, (b10.2.2 + 1))))))
def fX4_bringAllHome (u : TH) : Option (Int32 × TH) := ((itr (fun a : TH × Int32 × Int32 => fX4_bringAllHome_s4 a.1 a.2.1 a.2.2) FU (u, (0 : Int32), (0 : Int32))).bind fun b11 => some (b11.2, b11.1))
abbrev rmX4_bringAllHome : Room := { frames := 4, cells := 0, slots := 0, locals := 116 }
set_option maxRecDepth 100000 in
set_option maxHeartbeats 4000000 in
theorem kX4_bringAllHome (l : Launch) (G : va_G) (cI cS : ClassId) (sv : Nat) (ga : Nat → Nat) (sz : Nat) (u : TH) (r : Int32 × TH) (hf : fX4_bringAllHome u = some r) : Met l yX4_bringAllHome (.code yX4_bringAllHome cX4_bringAllHome 7 (some .int) :: bw) rmX4_bringAllHome (va_Pc [.ref (ga 0)] (PreM G (tysW cI cS) (wH cI sv ga u) sz)) (va_Qi (fun r' u' => (r', u') = r) (PoM G (tysW cI cS) (va_A (wH cI sv ga u) sz) (wH cI sv ga)) (va_A (wH cI sv ga u) sz)) 0 0 (va_A (wH cI sv ga u) sz) := by
  refine enterM (own := RX4) (by decide) rfl (Nat.le_of_ble_eq_true rfl) ?_
  intro p e s m args below meth c A Q hAe hQ S hr hlocks hP hK hN hD hA hS ls hl
  rw [hAe] at hQ
  have hx := S.1; have hb := S.2.1; have hml := S.2.2.1; have hown := S.2.2.2.1; have hq := S.2.2.2.2
  have hl : lv_has ls 7 [(0, .ref (ga 0))] := hl
  have h := hf
  unfold fX4_bringAllHome at h
  have L4 : ∀ (n9 : Nat) (a9 : TH × Int32 × Int32) (b9 : TH × Int32), itr (fun a : TH × Int32 × Int32 => fX4_bringAllHome_s4 a.1 a.2.1 a.2.2) n9 a9 = some b9 → (fun b : TH × Int32 => ∀ (H : Heap) (locs : List Loc), va_P G vwCl (wH cI sv ga b.1) H → va_D A (wH cI sv ga b.1) → va_S A s.heap H locs → ∀ ls : Array Slot, lv_has ls 7 [(1, .int b.2)] → W p l e rmX4_bringAllHome s m args below meth c H locs 0 0 Q (F0 m 87 ls [])) b9 → (fun a : TH × Int32 × Int32 => ∀ (H : Heap) (locs : List Loc), va_P G vwCl (wH cI sv ga a.1) H → va_D A (wH cI sv ga a.1) → va_S A s.heap H locs → ∀ ls : Array Slot, lv_has ls 7 [(0, .ref (ga 0)), (1, .int a.2.1), (2, .int a.2.2)] → W p l e rmX4_bringAllHome s m args below meth c H locs 0 0 Q (F0 m 4 ls [])) a9 := by
    refine itr_ind (Inv := (fun a : TH × Int32 × Int32 => ∀ (H : Heap) (locs : List Loc), va_P G vwCl (wH cI sv ga a.1) H → va_D A (wH cI sv ga a.1) → va_S A s.heap H locs → ∀ ls : Array Slot, lv_has ls 7 [(0, .ref (ga 0)), (1, .int a.2.1), (2, .int a.2.2)] → W p l e rmX4_bringAllHome s m args below meth c H locs 0 0 Q (F0 m 4 ls []))) (Ex := (fun b : TH × Int32 => ∀ (H : Heap) (locs : List Loc), va_P G vwCl (wH cI sv ga b.1) H → va_D A (wH cI sv ga b.1) → va_S A s.heap H locs → ∀ ls : Array Slot, lv_has ls 7 [(1, .int b.2)] → W p l e rmX4_bringAllHome s m args below meth c H locs 0 0 Q (F0 m 87 ls []))) ?_
    rintro ⟨u, x1, x2⟩ z h hI hE
    have h : fX4_bringAllHome_s4 u x1 x2 = some z := h
    unfold fX4_bringAllHome_s4 at h
    show ∀ (H : Heap) (locs : List Loc), va_P G vwCl (wH cI sv ga u) H → va_D A (wH cI sv ga u) → va_S A s.heap H locs → ∀ ls : Array Slot, lv_has ls 7 [(0, .ref (ga 0)), (1, .int x1), (2, .int x2)] → W p l e rmX4_bringAllHome s m args below meth c H locs 0 0 Q (F0 m 4 ls [])
    have L27 : ∀ (n9 : Nat) (a9 : TH × Int32 × Int32 × Int32 × Int32) (b9 : TH × Int32 × Int32), itr (fun a : TH × Int32 × Int32 × Int32 × Int32 => fX4_bringAllHome_s27 a.1 a.2.1 a.2.2.1 a.2.2.2.1 a.2.2.2.2) n9 a9 = some b9 → (fun b : TH × Int32 × Int32 => ∀ (H : Heap) (locs : List Loc), va_P G vwCl (wH cI sv ga b.1) H → va_D A (wH cI sv ga b.1) → va_S A s.heap H locs → ∀ ls : Array Slot, lv_has ls 7 [(0, .ref (ga 0)), (1, .int b.2.1), (2, .int b.2.2)] → W p l e rmX4_bringAllHome s m args below meth c H locs 0 0 Q (F0 m 81 ls [])) b9 → (fun a : TH × Int32 × Int32 × Int32 × Int32 => ∀ (H : Heap) (locs : List Loc), va_P G vwCl (wH cI sv ga a.1) H → va_D A (wH cI sv ga a.1) → va_S A s.heap H locs → ∀ ls : Array Slot, lv_has ls 7 [(0, .ref (ga 0)), (1, .int a.2.1), (2, .int a.2.2.1), (3, .int a.2.2.2.1), (4, .int a.2.2.2.2)] → W p l e rmX4_bringAllHome s m args below meth c H locs 0 0 Q (F0 m 27 ls [])) a9 := by
      refine itr_ind (Inv := (fun a : TH × Int32 × Int32 × Int32 × Int32 => ∀ (H : Heap) (locs : List Loc), va_P G vwCl (wH cI sv ga a.1) H → va_D A (wH cI sv ga a.1) → va_S A s.heap H locs → ∀ ls : Array Slot, lv_has ls 7 [(0, .ref (ga 0)), (1, .int a.2.1), (2, .int a.2.2.1), (3, .int a.2.2.2.1), (4, .int a.2.2.2.2)] → W p l e rmX4_bringAllHome s m args below meth c H locs 0 0 Q (F0 m 27 ls []))) (Ex := (fun b : TH × Int32 × Int32 => ∀ (H : Heap) (locs : List Loc), va_P G vwCl (wH cI sv ga b.1) H → va_D A (wH cI sv ga b.1) → va_S A s.heap H locs → ∀ ls : Array Slot, lv_has ls 7 [(0, .ref (ga 0)), (1, .int b.2.1), (2, .int b.2.2)] → W p l e rmX4_bringAllHome s m args below meth c H locs 0 0 Q (F0 m 81 ls []))) ?_
      rintro ⟨u, x1, x2, x3, x4⟩ z h hI hE
      have h : fX4_bringAllHome_s27 u x1 x2 x3 x4 = some z := h
      unfold fX4_bringAllHome_s27 at h
      show ∀ (H : Heap) (locs : List Loc), va_P G vwCl (wH cI sv ga u) H → va_D A (wH cI sv ga u) → va_S A s.heap H locs → ∀ ls : Array Slot, lv_has ls 7 [(0, .ref (ga 0)), (1, .int x1), (2, .int x2), (3, .int x3), (4, .int x4)] → W p l e rmX4_bringAllHome s m args below meth c H locs 0 0 Q (F0 m 27 ls [])
      have J75 : ∀ (u : TH) (x1 : Int32) (x2 : Int32) (x3 : Int32) (x4 : Int32) , fX4_bringAllHome_j75 u x1 x2 x3 x4 = some z → ∀ (H : Heap) (locs : List Loc), va_P G vwCl (wH cI sv ga u) H → va_D A (wH cI sv ga u) → va_S A s.heap H locs → ∀ ls : Array Slot, lv_has ls 7 [(0, .ref (ga 0)), (1, .int x1), (2, .int x2), (3, .int x3), (4, .int x4)] → W p l e rmX4_bringAllHome s m args below meth c H locs 0 0 Q (F0 m 75 ls []) := by
        intro u x1 x2 x3 x4 h
        unfold fX4_bringAllHome_j75 at h
        intro H locs hP hD hS ls hl
        refine lv_iinc (v := (x4 + 1)) (lv' := [(4, .int (x4 + 1)), (0, .ref (ga 0)), (1, .int x1), (2, .int x2), (3, .int x3)]) hx hb dX4_bringAllHome_75 hl (k := 4) rfl rfl (by decide) rfl (fun ls hl => ?_)
        refine lv_goto (tgt := 27) hx hb dX4_bringAllHome_78 (by decide) ?_
        exact hI _ (Option.some.inj h) _ _ hP hD hS _ (lv_sub hl [1, 2, 3, 4, 0] rfl)
      intro H locs hP hD hS ls hl
      refine lv_iload hx hb dX4_bringAllHome_27 (lv_at hl 4 rfl) ?_
      refine lv_iload_n hx hb dX4_bringAllHome_29 rfl (lv_at hl 3 rfl) ?_
      refine lv_icmp_ge (tgt := 81) hx hb dX4_bringAllHome_30 (by decide) (fun c1 => ?_) (fun c1 => ?_)
      · have h := (if_pos c1).symm.trans h
        exact hE _ (Option.some.inj h) _ _ hP hD hS _ (lv_sub hl [0, 1, 2] rfl)
      · have h := (if_neg c1).symm.trans h
        refine lv_iload_n hx hb dX4_bringAllHome_33 rfl (lv_at hl 2 rfl) ?_
        refine lv_iload hx hb dX4_bringAllHome_34 (lv_at hl 4 rfl) ?_
        obtain ⟨z2, e_z2, h⟩ := bnd h
        refine roI (cc_X4_149 S hK hN va_P0 e_z2 hl.1 (Nat.le_of_ble_eq_true rfl) ⟨Nat.le_of_ble_eq_true rfl, Nat.le_of_ble_eq_true rfl⟩ dX4_bringAllHome_36 ⟨Nat.le_of_ble_eq_true rfl, Nat.le_of_ble_eq_true rfl⟩) ?_
        refine lv_istore (lv' := [(5, .int z2), (0, .ref (ga 0)), (1, .int x1), (2, .int x2), (3, .int x3), (4, .int x4)]) hx hb dX4_bringAllHome_39 hl (by decide) rfl (fun ls hl => ?_)
        refine lv_aload_n hx hb dX4_bringAllHome_41 rfl (lv_at hl 1 rfl) ?_
        refine lv_iload hx hb dX4_bringAllHome_42 (lv_at hl 0 rfl) ?_
        obtain ⟨z3, e_z3, h⟩ := bnd h
        refine roI (cc_X4_311 sv ga S hK hN hP e_z3 hl.1 (Nat.le_of_ble_eq_true rfl) ⟨Nat.le_of_ble_eq_true rfl, Nat.le_of_ble_eq_true rfl⟩ dX4_bringAllHome_44 ⟨Nat.le_of_ble_eq_true rfl, Nat.le_of_ble_eq_true rfl⟩) ?_
        refine lv_if_eq (tgt := 75) hx hb dX4_bringAllHome_47 (by decide) (fun c4 => ?_) (fun c4 => ?_)
        · have h := (if_pos c4).symm.trans h
          exact J75 u x1 x2 x3 x4 h _ _ hP hD hS _ (lv_sub hl [1, 2, 3, 4, 5] rfl)
        · have h := (if_neg c4).symm.trans h
          refine lv_aload_n hx hb dX4_bringAllHome_50 rfl (lv_at hl 1 rfl) ?_
          refine lv_iload hx hb dX4_bringAllHome_51 (lv_at hl 0 rfl) ?_
          obtain ⟨z5, e_z5, h⟩ := bnd h
          refine roI (cc_X4_155 sv ga S hK hN hP e_z5 hl.1 (Nat.le_of_ble_eq_true rfl) ⟨Nat.le_of_ble_eq_true rfl, Nat.le_of_ble_eq_true rfl⟩ dX4_bringAllHome_53 ⟨Nat.le_of_ble_eq_true rfl, Nat.le_of_ble_eq_true rfl⟩) ?_
          refine lv_istore (lv' := [(6, .int z5), (5, .int z2), (0, .ref (ga 0)), (1, .int x1), (2, .int x2), (3, .int x3), (4, .int x4)]) hx hb dX4_bringAllHome_56 hl (by decide) rfl (fun ls hl => ?_)
          refine lv_aload_n hx hb dX4_bringAllHome_58 rfl (lv_at hl 2 rfl) ?_
          refine lv_iload hx hb dX4_bringAllHome_59 (lv_at hl 0 rfl) ?_
          obtain ⟨z6, e_z6, h⟩ := bnd h
          refine muv (cc_X4_314 sv ga S hK hN hP hD e_z6 hl.1 (Nat.le_of_ble_eq_true rfl) ⟨Nat.le_of_ble_eq_true rfl, Nat.le_of_ble_eq_true rfl⟩ dX4_bringAllHome_61 ⟨Nat.le_of_ble_eq_true rfl, Nat.le_of_ble_eq_true rfl⟩) hS hD (va_free hD hS hA [0, 1, 2, 3, 4, 5, 6, 7, 8, 9, 10, 11, 12] rfl) (fun H locs hP hD hS => ?_)
          have hP : va_P G vwCl (wH cI sv ga z6) H := hP
          have hD : va_D A (wH cI sv ga z6) := hD
          refine lv_aload_n hx hb dX4_bringAllHome_64 rfl (lv_at hl 2 rfl) ?_
          refine lv_iload hx hb dX4_bringAllHome_65 (lv_at hl 1 rfl) ?_
          refine lv_iload hx hb dX4_bringAllHome_67 (lv_at hl 0 rfl) ?_
          obtain ⟨z7, e_z7, h⟩ := bnd h
          refine muv (cc_X4_294 sv ga S hK hN hP hD e_z7 hl.1 (Nat.le_of_ble_eq_true rfl) ⟨Nat.le_of_ble_eq_true rfl, Nat.le_of_ble_eq_true rfl⟩ dX4_bringAllHome_69 ⟨Nat.le_of_ble_eq_true rfl, Nat.le_of_ble_eq_true rfl⟩) hS hD (va_free hD hS hA [0, 1, 2, 3, 4, 5, 6, 7, 8, 9, 10, 11, 12] rfl) (fun H locs hP hD hS => ?_)
          have hP : va_P G vwCl (wH cI sv ga z7) H := hP
          have hD : va_D A (wH cI sv ga z7) := hD
          refine lv_iinc (v := (x1 + 1)) (lv' := [(1, .int (x1 + 1)), (6, .int z5), (5, .int z2), (0, .ref (ga 0)), (2, .int x2), (3, .int x3), (4, .int x4)]) hx hb dX4_bringAllHome_72 hl (k := 3) rfl rfl (by decide) rfl (fun ls hl => ?_)
          exact J75 z7 (x1 + 1) x2 x3 x4 h _ _ hP hD hS _ (lv_sub hl [3, 0, 4, 5, 6] rfl)
    intro H locs hP hD hS ls hl
    refine lv_iload_n hx hb dX4_bringAllHome_4 rfl (lv_at hl 2 rfl) ?_
    refine lv_aload_n hx hb dX4_bringAllHome_5 rfl (lv_at hl 0 rfl) ?_
    refine gf_X4_20 S hK hN hP 0 rfl (v := .ref (ga 2)) rfl dX4_bringAllHome_6 ?_
    refine gf_X4_143 S hK hN hP 2 rfl (v := .int u.1.1.1.1) rfl dX4_bringAllHome_9 ?_
    refine lv_icmp_ge (tgt := 87) hx hb dX4_bringAllHome_12 (by decide) (fun c8 => ?_) (fun c8 => ?_)
    · have h := (if_pos c8).symm.trans h
      exact hE _ (Option.some.inj h) _ _ hP hD hS _ (lv_sub hl [1] rfl)
    · have h := (if_neg c8).symm.trans h
      refine lv_aload_n hx hb dX4_bringAllHome_15 rfl (lv_at hl 0 rfl) ?_
      refine gf_X4_20 S hK hN hP 0 rfl (v := .ref (ga 2)) rfl dX4_bringAllHome_16 ?_
      refine lv_iload_n hx hb dX4_bringAllHome_19 rfl (lv_at hl 2 rfl) ?_
      obtain ⟨z9, e_z9, h⟩ := bnd h
      refine roI (cc_X4_146 (ga 2) (ga 3) S hK hN (hP.sub [2, 3] rfl) e_z9 hl.1 (Nat.le_of_ble_eq_true rfl) ⟨Nat.le_of_ble_eq_true rfl, Nat.le_of_ble_eq_true rfl⟩ dX4_bringAllHome_20 ⟨Nat.le_of_ble_eq_true rfl, Nat.le_of_ble_eq_true rfl⟩) ?_
      refine lv_istore_n (lv' := [(3, .int z9), (0, .ref (ga 0)), (1, .int x1), (2, .int x2)]) hx hb dX4_bringAllHome_23 rfl hl (by decide) rfl (fun ls hl => ?_)
      refine lv_iconst (v := 0) hx hb dX4_bringAllHome_24 (by decide) ?_
      refine lv_istore (lv' := [(4, .int (0 : Int32)), (3, .int z9), (0, .ref (ga 0)), (1, .int x1), (2, .int x2)]) hx hb dX4_bringAllHome_25 hl (by decide) rfl (fun ls hl => ?_)
      obtain ⟨b10, e_b10, h⟩ := bnd h
      refine L27 _ _ _ e_b10 ?_ _ _ hP hD hS _ (lv_sub hl [2, 3, 4, 1, 0] rfl)
      intro H locs hP hD hS ls hl
      refine lv_iinc (v := (b10.2.2 + 1)) (lv' := [(2, .int (b10.2.2 + 1)), (0, .ref (ga 0)), (1, .int b10.2.1)]) hx hb dX4_bringAllHome_81 hl (k := 2) rfl rfl (by decide) rfl (fun ls hl => ?_)
      refine lv_goto (tgt := 4) hx hb dX4_bringAllHome_84 (by decide) ?_
      exact hI _ (Option.some.inj h) _ _ hP hD hS _ (lv_sub hl [1, 2, 0] rfl)
  refine lv_iconst (v := 0) hx hb dX4_bringAllHome_0 (by decide) ?_
  refine lv_istore_n (lv' := [(1, .int (0 : Int32)), (0, .ref (ga 0))]) hx hb dX4_bringAllHome_1 rfl hl (by decide) rfl (fun ls hl => ?_)
  refine lv_iconst (v := 0) hx hb dX4_bringAllHome_2 (by decide) ?_
  refine lv_istore_n (lv' := [(2, .int (0 : Int32)), (1, .int (0 : Int32)), (0, .ref (ga 0))]) hx hb dX4_bringAllHome_3 rfl hl (by decide) rfl (fun ls hl => ?_)
  obtain ⟨b11, e_b11, h⟩ := bnd h
  refine L4 _ _ _ e_b11 ?_ _ _ hP hD hS _ (lv_sub hl [2, 1, 0] rfl)
  intro H locs hP hD hS ls hl
  refine lv_iload_n hx hb dX4_bringAllHome_87 rfl (lv_at hl 0 rfl) ?_
  exact retMi hQ S hr hlocks hK hN hP hD hS h dX4_bringAllHome_88

theorem cc_X4_119 {p : Program} {l : Launch} {e : Env} {R : Room} {s : State} {m : MethodId} {args : Array Value} {below : List Frame} {meth : Method} {c : Code} {H : Heap} {locs : List Loc} {cells slots : Nat} {cc : ByteArray} {pc nL : Nat} {ls : Array Slot} {rest : List Value} {G : va_G} {A : Nat → Prop} (sv : Nat) (ga : Nat → Nat) {cI cS : ClassId} {u : TH}  {r : Int32 × TH} (S : CallFix p m c cc nL s args bw RX4) (hK : va_K G vwCl (tysW cI cS) s) (hN : NW s) (hP : va_P G vwCl (wH cI sv ga u) H) (hD : va_D A (wH cI sv ga u)) (hf : fX4_bringAllHome u = some r) (hsz : ls.size = nL) (hst : (rest.map fun v => v.category).sum ≤ 8) (hR : rmX4_bringAllHome.frames + 1 ≤ R.frames ∧ 8 + (7 + 11) + rmX4_bringAllHome.locals ≤ R.locals) (hdg : decode cc pc = .ok (.invokevirtual 119, 3)) (hcs : cells + 0 ≤ R.cells ∧ slots + 0 ≤ R.slots) : va_Run p l e R s m args below meth c H locs cells slots 0 0 (F0 m pc ls (.ref (ga 0) :: rest)) rest (va_Qi (fun r' u' => (r', u') = r) (PoM G (tysW cI cS) (va_A (wH cI sv ga u) H.size) (wH cI sv ga)) (va_A (wH cI sv ga u) H.size) (#[.ref (ga 0)] : Array Value)) (va_A (wH cI sv ga u) H.size) :=
  va_runV (As := []) (rest := rest) S (kX4_bringAllHome l G cI cS sv ga H.size u r hf) (cwV 0 S.2.2.2.2 (gdV q_267 q_268 q_269 q_49 q_266) rfl rfl rfl (by decide +kernel) hR) (pvM (q := (RX4, TX4, 8)) hK hN hP hD (ci := 4) (q0 := 0) rfl rfl) rfl rfl hsz rfl (lv_room hst) hdg hcs
def fX4_bringHome (u : THS) : Option (Int32 × THS) := ((fX4_saveState u).bind fun z1 => ((fX4_bringAllHome z1.1).bind fun z2 => some (z2.1, z2.2, z1.2)))
abbrev rmX4_bringHome : Room := { frames := 5, cells := 0, slots := 0, locals := 142 }
set_option maxRecDepth 100000 in
set_option maxHeartbeats 4000000 in
theorem kX4_bringHome (l : Launch) (G : va_G) (cI cS : ClassId) (sv : Nat) (ga : Nat → Nat) (sz : Nat) (u : THS) (r : Int32 × THS) (hf : fX4_bringHome u = some r) : Met l yX4_bringHome (.code yX4_bringHome cX4_bringHome 1 (some .int) :: bw) rmX4_bringHome (va_Pc [.ref (ga 0)] (PreM G (tysW cI cS) (wHS cI cS sv ga u) sz)) (va_Qi (fun r' u' => (r', u') = r) (PoM G (tysW cI cS) (va_A (wHS cI cS sv ga u) sz) (wHS cI cS sv ga)) (va_A (wHS cI cS sv ga u) sz)) 0 0 (va_A (wHS cI cS sv ga u) sz) := by
  refine enterM (own := RX4) (by decide) rfl (Nat.le_of_ble_eq_true rfl) ?_
  intro p e s m args below meth c A Q hAe hQ S hr hlocks hP hK hN hD hA hS ls hl
  rw [hAe] at hQ
  have hx := S.1; have hb := S.2.1; have hml := S.2.2.1; have hown := S.2.2.2.1; have hq := S.2.2.2.2
  have hl : lv_has ls 1 [(0, .ref (ga 0))] := hl
  have h := hf
  unfold fX4_bringHome at h
  refine lv_aload_n hx hb dX4_bringHome_0 rfl (lv_at hl 0 rfl) ?_
  obtain ⟨z1, e_z1, h⟩ := bnd h
  refine muv (cc_X4_88 sv ga S hK hN hP hD e_z1 hl.1 (Nat.le_of_ble_eq_true rfl) ⟨Nat.le_of_ble_eq_true rfl, Nat.le_of_ble_eq_true rfl⟩ dX4_bringHome_1 ⟨Nat.le_of_ble_eq_true rfl, Nat.le_of_ble_eq_true rfl⟩) hS hD (va_free hD hS hA [0, 1, 2, 3, 4, 5, 6, 7, 8, 9, 10, 11, 12, 13, 14, 15, 16, 17, 18, 19, 20, 21, 22, 23, 24, 25] rfl) (fun H locs hP hD hS => ?_)
  have hP : va_P G vwCl (wHS cI cS sv ga z1) H := hP
  have hD : va_D A (wHS cI cS sv ga z1) := hD
  refine lv_aload_n hx hb dX4_bringHome_4 rfl (lv_at hl 0 rfl) ?_
  obtain ⟨z2, e_z2, h⟩ := bnd h
  refine mji (cc_X4_119 sv ga S hK hN (hP.sub [0, 1, 2, 3, 4, 5, 6, 7, 8, 9, 10, 11, 12] rfl) (hD.sub [0, 1, 2, 3, 4, 5, 6, 7, 8, 9, 10, 11, 12] (by decide) rfl) e_z2 hl.1 (Nat.le_of_ble_eq_true rfl) ⟨Nat.le_of_ble_eq_true rfl, Nat.le_of_ble_eq_true rfl⟩ dX4_bringHome_5 ⟨Nat.le_of_ble_eq_true rfl, Nat.le_of_ble_eq_true rfl⟩) hS hP hD hA [0, 1, 2, 3, 4, 5, 6, 7, 8, 9, 10, 11, 12] [13, 14, 15, 16, 17, 18, 19, 20, 21, 22, 23, 24, 25] rfl rfl (by decide) (by decide) [13, 14, 15, 16, 17, 18, 19, 20, 21, 22, 23, 24, 25, 0, 1, 2, 3, 4, 5, 6, 7, 8, 9, 10, 11, 12] (by decide) (wHS cI cS sv ga (z2.2, z1.2)) rfl (fun H locs hP hD hS => ?_)
  exact retMi hQ S hr hlocks hK hN hP hD hS h dX4_bringHome_8

def fX4_requirePage_j15 (u : TH) : Option (Unit) := none
def fX4_requirePage (u : TH) (p0 : Int32) : Option (Unit) := (if p0 < 0 then fX4_requirePage_j15 u else (if p0 < u.1.1.1.1 then some () else fX4_requirePage_j15 u))
abbrev rmX4_requirePage : Room := { frames := 0, cells := 0, slots := 0, locals := 0 }
set_option maxRecDepth 100000 in
set_option maxHeartbeats 4000000 in
theorem kX4_requirePage (l : Launch) (G : va_G) (cI cS : ClassId) (sv : Nat) (ga : Nat → Nat) (u : TH) (p0 : Int32) (r : Unit) (hf : fX4_requirePage u p0 = some r) : Met l yX4_requirePage (.code yX4_requirePage cX4_requirePage 2 none :: bw) rmX4_requirePage (va_Pc [.ref (ga 0), .int p0] (PreR G (tysW cI cS) (wH cI sv ga u))) vw_Sv 0 0 (fun _ => False) := by
  refine enterG (own := RX4) (by decide) rfl (Nat.le_of_ble_eq_true rfl) ?_
  intro p e s m args below meth c Q hQ S hr hlocks hP hK hN ls hl
  have hx := S.1; have hb := S.2.1; have hml := S.2.2.1; have hown := S.2.2.2.1; have hq := S.2.2.2.2
  have hl : lv_has ls 2 [(0, .ref (ga 0)), (1, .int p0)] := hl
  have h := hf
  unfold fX4_requirePage at h
  have J15 : fX4_requirePage_j15 u = some r → ∀ ls : Array Slot, lv_has ls 2 [] → W p l e rmX4_requirePage s m args below meth c s.heap [] 0 0 Q (F0 m 15 ls []) := by
    intro h
    unfold fX4_requirePage_j15 at h
    intro ls hl
    cases h
  refine lv_iload_n hx hb dX4_requirePage_0 rfl (lv_at hl 1 rfl) ?_
  refine lv_if_lt (tgt := 15) hx hb dX4_requirePage_1 (by decide) (fun c1 => ?_) (fun c1 => ?_)
  · have h := (if_pos c1).symm.trans h
    exact J15  h _ (lv_sub hl [] rfl)
  · have h := (if_neg c1).symm.trans h
    refine lv_iload_n hx hb dX4_requirePage_4 rfl (lv_at hl 1 rfl) ?_
    refine lv_aload_n hx hb dX4_requirePage_5 rfl (lv_at hl 0 rfl) ?_
    refine gf_X4_20 S hK hN hP 0 rfl (v := .ref (ga 2)) rfl dX4_requirePage_6 ?_
    refine gf_X4_143 S hK hN hP 2 rfl (v := .int u.1.1.1.1) rfl dX4_requirePage_9 ?_
    refine lv_icmp_lt (tgt := 26) hx hb dX4_requirePage_12 (by decide) (fun c2 => ?_) (fun c2 => ?_)
    · have h := (if_pos c2).symm.trans h
      exact retRv hQ S hr hlocks dX4_requirePage_26
    · have h := (if_neg c2).symm.trans h
      exact J15  h _ (lv_sub hl [] rfl)

theorem cc_X4_123 {p : Program} {l : Launch} {e : Env} {R : Room} {s : State} {m : MethodId} {args : Array Value} {below : List Frame} {meth : Method} {c : Code} {H : Heap} {locs : List Loc} {cells slots : Nat} {cc : ByteArray} {pc nL : Nat} {ls : Array Slot} {rest : List Value} {G : va_G} (sv : Nat) (ga : Nat → Nat) {cI cS : ClassId} {u : TH}  {p0 : Int32} {r : Unit} (S : CallFix p m c cc nL s args bw RX4) (hK : va_K G vwCl (tysW cI cS) s) (hN : NW s) (hP : va_P G vwCl (wH cI sv ga u) H) (hf : fX4_requirePage u p0 = some r) (hsz : ls.size = nL) (hst : (rest.map fun v => v.category).sum ≤ 8) (hR : rmX4_requirePage.frames + 1 ≤ R.frames ∧ 8 + (2 + 11) + rmX4_requirePage.locals ≤ R.locals) (hdg : decode cc pc = .ok (.invokevirtual 123, 3)) (hcs : cells + 0 ≤ R.cells ∧ slots + 0 ≤ R.slots) : va_Run p l e R s m args below meth c H locs cells slots 0 0 (F0 m pc ls (.int p0 :: .ref (ga 0) :: rest)) rest (vw_Sv (#[.ref (ga 0), .int p0] : Array Value)) (fun _ => False) :=
  va_runV (As := [.int p0]) (rest := rest) S (kX4_requirePage l G cI cS sv ga u p0 r hf) (cwV 1 S.2.2.2.2 (gdV q_272 q_273 q_274 q_49 q_271) rfl rfl rfl (by decide +kernel) hR) (pvR (q := (RX4, TX4, 8)) hK hN hP (ci := 4) (q0 := 0) rfl rfl) rfl rfl hsz rfl (lv_room hst) hdg hcs
theorem cc_X4_126 {p : Program} {l : Launch} {e : Env} {R : Room} {s : State} {m : MethodId} {args : Array Value} {below : List Frame} {meth : Method} {c : Code} {H : Heap} {locs : List Loc} {cells slots : Nat} {cc : ByteArray} {pc nL : Nat} {ls : Array Slot} {rest : List Value} {G : va_G} {A : Nat → Prop} (g0 g1 g2 g3 g4 : Nat) {cI cS : ClassId} {u : TP}  {p0 : Int32} {r : Int32 × TP} (S : CallFix p m c cc nL s args bw RX4) (hK : va_K G vwCl (tysW cI cS) s) (hN : NW s) (hP : va_P G vwCl (wP cI g0 g1 g2 g3 g4 u) H) (hD : va_D A (wP cI g0 g1 g2 g3 g4 u)) (hf : fX2_compactPage u p0 = some r) (hsz : ls.size = nL) (hst : (rest.map fun v => v.category).sum ≤ 8) (hR : rmX2_compactPage.frames + 1 ≤ R.frames ∧ 8 + (9 + 11) + rmX2_compactPage.locals ≤ R.locals) (hdg : decode cc pc = .ok (.invokevirtual 126, 3)) (hcs : cells + 0 ≤ R.cells ∧ slots + 0 ≤ R.slots) : va_Run p l e R s m args below meth c H locs cells slots 0 0 (F0 m pc ls (.int p0 :: .ref g0 :: rest)) rest (va_Qi (fun r' u' => (r', u') = r) (PoM G (tysW cI cS) (va_A (wP cI g0 g1 g2 g3 g4 u) H.size) (wP cI g0 g1 g2 g3 g4)) (va_A (wP cI g0 g1 g2 g3 g4 u) H.size) (#[.ref g0, .int p0] : Array Value)) (va_A (wP cI g0 g1 g2 g3 g4 u) H.size) :=
  va_runVN (As := [.int p0]) (rest := rest) S (kX2_compactPage l G cI cS g0 g1 g2 g3 g4 H.size u p0 r hf) ⟨va_cnB 1 S.2.2.2.2 (gdC q_90) rfl rfl rfl (hN _ nq_45) (S.2.2.2.2 _ q_56) (by decide +kernel) hR, S.2.2.2.2 _ q_96, S.2.2.2.2 _ q_97⟩ (pvM (q := (RX2, TX2, 2)) hK hN hP hD (ci := 2) (q0 := 0) rfl rfl) rfl rfl hsz rfl (lv_room hst) hdg hcs
def fX4_compact (u : THS) (p0 : Int32) : Option (Int32 × THS) := ((fX4_requirePage u.1 p0).bind fun z1 => ((fX4_saveState u).bind fun z2 => ((fX2_compactPage z2.1.1 p0).bind fun z3 => some (z3.1, (z3.2, z2.1.2), z2.2))))
abbrev rmX4_compact : Room := { frames := 3, cells := 0, slots := 0, locals := 101 }
set_option maxRecDepth 100000 in
set_option maxHeartbeats 4000000 in
theorem kX4_compact (l : Launch) (G : va_G) (cI cS : ClassId) (sv : Nat) (ga : Nat → Nat) (sz : Nat) (u : THS) (p0 : Int32) (r : Int32 × THS) (hf : fX4_compact u p0 = some r) : Met l yX4_compact (.code yX4_compact cX4_compact 2 (some .int) :: bw) rmX4_compact (va_Pc [.ref (ga 0), .int p0] (PreM G (tysW cI cS) (wHS cI cS sv ga u) sz)) (va_Qi (fun r' u' => (r', u') = r) (PoM G (tysW cI cS) (va_A (wHS cI cS sv ga u) sz) (wHS cI cS sv ga)) (va_A (wHS cI cS sv ga u) sz)) 0 0 (va_A (wHS cI cS sv ga u) sz) := by
  refine enterM (own := RX4) (by decide) rfl (Nat.le_of_ble_eq_true rfl) ?_
  intro p e s m args below meth c A Q hAe hQ S hr hlocks hP hK hN hD hA hS ls hl
  rw [hAe] at hQ
  have hx := S.1; have hb := S.2.1; have hml := S.2.2.1; have hown := S.2.2.2.1; have hq := S.2.2.2.2
  have hl : lv_has ls 2 [(0, .ref (ga 0)), (1, .int p0)] := hl
  have h := hf
  unfold fX4_compact at h
  refine lv_aload_n hx hb dX4_compact_0 rfl (lv_at hl 0 rfl) ?_
  refine lv_iload_n hx hb dX4_compact_1 rfl (lv_at hl 1 rfl) ?_
  obtain ⟨z1, e_z1, h⟩ := bnd h
  refine roV (cc_X4_123 sv ga S hK hN (hP.sub [0, 1, 2, 3, 4, 5, 6, 7, 8, 9, 10, 11, 12] rfl) e_z1 hl.1 (Nat.le_of_ble_eq_true rfl) ⟨Nat.le_of_ble_eq_true rfl, Nat.le_of_ble_eq_true rfl⟩ dX4_compact_2 ⟨Nat.le_of_ble_eq_true rfl, Nat.le_of_ble_eq_true rfl⟩) ?_
  refine lv_aload_n hx hb dX4_compact_5 rfl (lv_at hl 0 rfl) ?_
  obtain ⟨z2, e_z2, h⟩ := bnd h
  refine muv (cc_X4_88 sv ga S hK hN hP hD e_z2 hl.1 (Nat.le_of_ble_eq_true rfl) ⟨Nat.le_of_ble_eq_true rfl, Nat.le_of_ble_eq_true rfl⟩ dX4_compact_6 ⟨Nat.le_of_ble_eq_true rfl, Nat.le_of_ble_eq_true rfl⟩) hS hD (va_free hD hS hA [0, 1, 2, 3, 4, 5, 6, 7, 8, 9, 10, 11, 12, 13, 14, 15, 16, 17, 18, 19, 20, 21, 22, 23, 24, 25] rfl) (fun H locs hP hD hS => ?_)
  have hP : va_P G vwCl (wHS cI cS sv ga z2) H := hP
  have hD : va_D A (wHS cI cS sv ga z2) := hD
  refine lv_aload_n hx hb dX4_compact_9 rfl (lv_at hl 0 rfl) ?_
  refine gf_X4_12 S hK hN hP 0 rfl (v := .ref (ga 1)) rfl dX4_compact_10 ?_
  refine lv_iload_n hx hb dX4_compact_13 rfl (lv_at hl 1 rfl) ?_
  obtain ⟨z3, e_z3, h⟩ := bnd h
  refine mji (cc_X4_126 (ga 1) (ga 2) (ga 3) (ga 4) (ga 5) S hK hN (hP.sub [1, 2, 3, 4, 5] rfl) (hD.sub [1, 2, 3, 4, 5] (by decide) rfl) e_z3 hl.1 (Nat.le_of_ble_eq_true rfl) ⟨Nat.le_of_ble_eq_true rfl, Nat.le_of_ble_eq_true rfl⟩ dX4_compact_14 ⟨Nat.le_of_ble_eq_true rfl, Nat.le_of_ble_eq_true rfl⟩) hS hP hD hA [1, 2, 3, 4, 5] [0, 6, 7, 8, 9, 10, 11, 12, 13, 14, 15, 16, 17, 18, 19, 20, 21, 22, 23, 24, 25] rfl rfl (by decide) (by decide) [0, 21, 22, 23, 24, 25, 1, 2, 3, 4, 5, 6, 7, 8, 9, 10, 11, 12, 13, 14, 15, 16, 17, 18, 19, 20] (by decide) (wHS cI cS sv ga ((z3.2, z2.1.2), z2.2)) rfl (fun H locs hP hD hS => ?_)
  exact retMi hQ S hr hlocks hK hN hP hD hS h dX4_compact_17

def fX4_countKind_j52 (u : TH) (x1 : Int32) (x2 : Int32) (x3 : Int32) (x4 : Int32) (x5 : Int32) : Option ((Int32 × Int32 × Int32 × Int32 × Int32) ⊕ (Int32 × Int32 × Int32)) := some (.inl (x1, x2, x3, x4, (x5 + 1)))
def fX4_countKind_s28 (u : TH) (x1 : Int32) (x2 : Int32) (x3 : Int32) (x4 : Int32) (x5 : Int32) : Option ((Int32 × Int32 × Int32 × Int32 × Int32) ⊕ (Int32 × Int32 × Int32)) := (if x4 ≤ x5 then some (.inr (x1, x2, x3)) else ((fX4_placeAt x3 x5).bind fun z2 => ((fX4_kind u z2).bind fun z3 => (if z3 = x1 then fX4_countKind_j52 u x1 (x2 + 1) x3 x4 x5 else fX4_countKind_j52 u x1 x2 x3 x4 x5))))
def fX4_countKind_s4 (u : TH) (x1 : Int32) (x2 : Int32) (x3 : Int32) : Option ((Int32 × Int32 × Int32) ⊕ (Int32)) := (if u.1.1.1.1 ≤ x3 then some (.inr x2) else ((fX3_slotCount u.1.1 x3).bind fun z6 => ((itr (fun a : Int32 × Int32 × Int32 × Int32 × Int32 => fX4_countKind_s28 u a.1 a.2.1 a.2.2.1 a.2.2.2.1 a.2.2.2.2) FU (x1, x2, x3, z6, (0 : Int32))).bind fun b7 => some (.inl (b7.1, b7.2.1, (b7.2.2 + 1))))))
def fX4_countKind (u : TH) (p0 : Int32) : Option (Int32) := ((itr (fun a : Int32 × Int32 × Int32 => fX4_countKind_s4 u a.1 a.2.1 a.2.2) FU (p0, (0 : Int32), (0 : Int32))).bind fun b8 => some b8)
abbrev rmX4_countKind : Room := { frames := 3, cells := 0, slots := 0, locals := 70 }
set_option maxRecDepth 100000 in
set_option maxHeartbeats 4000000 in
theorem kX4_countKind (l : Launch) (G : va_G) (cI cS : ClassId) (sv : Nat) (ga : Nat → Nat) (u : TH) (p0 : Int32) (r : Int32) (hf : fX4_countKind u p0 = some r) : Met l yX4_countKind (.code yX4_countKind cX4_countKind 6 (some .int) :: bw) rmX4_countKind (va_Pc [.ref (ga 0), .int p0] (PreR G (tysW cI cS) (wH cI sv ga u))) (vp_Si (fun r' => r' = r)) 0 0 (fun _ => False) := by
  refine enterR (own := RX4) (by decide) rfl rfl (Nat.le_of_ble_eq_true rfl) ?_
  intro p e s m args below meth c Q hQ S hr hlocks hP hK hN ls hl
  have hx := S.1; have hb := S.2.1; have hml := S.2.2.1; have hown := S.2.2.2.1; have hq := S.2.2.2.2
  have hl : lv_has ls 6 [(0, .ref (ga 0)), (1, .int p0)] := hl
  have h := hf
  unfold fX4_countKind at h
  have L4 : ∀ (n9 : Nat) (a9 : Int32 × Int32 × Int32) (b9 : Int32), itr (fun a : Int32 × Int32 × Int32 => fX4_countKind_s4 u a.1 a.2.1 a.2.2) n9 a9 = some b9 → (fun b : Int32 => ∀ ls : Array Slot, lv_has ls 6 [(2, .int b)] → W p l e rmX4_countKind s m args below meth c s.heap [] 0 0 Q (F0 m 64 ls [])) b9 → (fun a : Int32 × Int32 × Int32 => ∀ ls : Array Slot, lv_has ls 6 [(0, .ref (ga 0)), (1, .int a.1), (2, .int a.2.1), (3, .int a.2.2)] → W p l e rmX4_countKind s m args below meth c s.heap [] 0 0 Q (F0 m 4 ls [])) a9 := by
    refine itr_ind (Inv := (fun a : Int32 × Int32 × Int32 => ∀ ls : Array Slot, lv_has ls 6 [(0, .ref (ga 0)), (1, .int a.1), (2, .int a.2.1), (3, .int a.2.2)] → W p l e rmX4_countKind s m args below meth c s.heap [] 0 0 Q (F0 m 4 ls []))) (Ex := (fun b : Int32 => ∀ ls : Array Slot, lv_has ls 6 [(2, .int b)] → W p l e rmX4_countKind s m args below meth c s.heap [] 0 0 Q (F0 m 64 ls []))) ?_
    rintro ⟨x1, x2, x3⟩ z h hI hE
    have h : fX4_countKind_s4 u x1 x2 x3 = some z := h
    unfold fX4_countKind_s4 at h
    show ∀ ls : Array Slot, lv_has ls 6 [(0, .ref (ga 0)), (1, .int x1), (2, .int x2), (3, .int x3)] → W p l e rmX4_countKind s m args below meth c s.heap [] 0 0 Q (F0 m 4 ls [])
    have L28 : ∀ (n9 : Nat) (a9 : Int32 × Int32 × Int32 × Int32 × Int32) (b9 : Int32 × Int32 × Int32), itr (fun a : Int32 × Int32 × Int32 × Int32 × Int32 => fX4_countKind_s28 u a.1 a.2.1 a.2.2.1 a.2.2.2.1 a.2.2.2.2) n9 a9 = some b9 → (fun b : Int32 × Int32 × Int32 => ∀ ls : Array Slot, lv_has ls 6 [(0, .ref (ga 0)), (1, .int b.1), (2, .int b.2.1), (3, .int b.2.2)] → W p l e rmX4_countKind s m args below meth c s.heap [] 0 0 Q (F0 m 58 ls [])) b9 → (fun a : Int32 × Int32 × Int32 × Int32 × Int32 => ∀ ls : Array Slot, lv_has ls 6 [(0, .ref (ga 0)), (1, .int a.1), (2, .int a.2.1), (3, .int a.2.2.1), (4, .int a.2.2.2.1), (5, .int a.2.2.2.2)] → W p l e rmX4_countKind s m args below meth c s.heap [] 0 0 Q (F0 m 28 ls [])) a9 := by
      refine itr_ind (Inv := (fun a : Int32 × Int32 × Int32 × Int32 × Int32 => ∀ ls : Array Slot, lv_has ls 6 [(0, .ref (ga 0)), (1, .int a.1), (2, .int a.2.1), (3, .int a.2.2.1), (4, .int a.2.2.2.1), (5, .int a.2.2.2.2)] → W p l e rmX4_countKind s m args below meth c s.heap [] 0 0 Q (F0 m 28 ls []))) (Ex := (fun b : Int32 × Int32 × Int32 => ∀ ls : Array Slot, lv_has ls 6 [(0, .ref (ga 0)), (1, .int b.1), (2, .int b.2.1), (3, .int b.2.2)] → W p l e rmX4_countKind s m args below meth c s.heap [] 0 0 Q (F0 m 58 ls []))) ?_
      rintro ⟨x1, x2, x3, x4, x5⟩ z h hI hE
      have h : fX4_countKind_s28 u x1 x2 x3 x4 x5 = some z := h
      unfold fX4_countKind_s28 at h
      show ∀ ls : Array Slot, lv_has ls 6 [(0, .ref (ga 0)), (1, .int x1), (2, .int x2), (3, .int x3), (4, .int x4), (5, .int x5)] → W p l e rmX4_countKind s m args below meth c s.heap [] 0 0 Q (F0 m 28 ls [])
      have J52 : ∀ (x1 : Int32) (x2 : Int32) (x3 : Int32) (x4 : Int32) (x5 : Int32) , fX4_countKind_j52 u x1 x2 x3 x4 x5 = some z → ∀ ls : Array Slot, lv_has ls 6 [(0, .ref (ga 0)), (1, .int x1), (2, .int x2), (3, .int x3), (4, .int x4), (5, .int x5)] → W p l e rmX4_countKind s m args below meth c s.heap [] 0 0 Q (F0 m 52 ls []) := by
        intro x1 x2 x3 x4 x5 h
        unfold fX4_countKind_j52 at h
        intro ls hl
        refine lv_iinc (v := (x5 + 1)) (lv' := [(5, .int (x5 + 1)), (0, .ref (ga 0)), (1, .int x1), (2, .int x2), (3, .int x3), (4, .int x4)]) hx hb dX4_countKind_52 hl (k := 5) rfl rfl (by decide) rfl (fun ls hl => ?_)
        refine lv_goto (tgt := 28) hx hb dX4_countKind_55 (by decide) ?_
        exact hI _ (Option.some.inj h) _ (lv_sub hl [1, 2, 3, 4, 5, 0] rfl)
      intro ls hl
      refine lv_iload hx hb dX4_countKind_28 (lv_at hl 5 rfl) ?_
      refine lv_iload hx hb dX4_countKind_30 (lv_at hl 4 rfl) ?_
      refine lv_icmp_ge (tgt := 58) hx hb dX4_countKind_32 (by decide) (fun c1 => ?_) (fun c1 => ?_)
      · have h := (if_pos c1).symm.trans h
        exact hE _ (Option.some.inj h) _ (lv_sub hl [0, 1, 2, 3] rfl)
      · have h := (if_neg c1).symm.trans h
        refine lv_aload_n hx hb dX4_countKind_35 rfl (lv_at hl 0 rfl) ?_
        refine lv_iload_n hx hb dX4_countKind_36 rfl (lv_at hl 3 rfl) ?_
        refine lv_iload hx hb dX4_countKind_37 (lv_at hl 5 rfl) ?_
        obtain ⟨z2, e_z2, h⟩ := bnd h
        refine roI (cc_X4_149 S hK hN va_P0 e_z2 hl.1 (Nat.le_of_ble_eq_true rfl) ⟨Nat.le_of_ble_eq_true rfl, Nat.le_of_ble_eq_true rfl⟩ dX4_countKind_39 ⟨Nat.le_of_ble_eq_true rfl, Nat.le_of_ble_eq_true rfl⟩) ?_
        obtain ⟨z3, e_z3, h⟩ := bnd h
        refine roI (cc_X4_132 sv ga S hK hN hP e_z3 hl.1 (Nat.le_of_ble_eq_true rfl) ⟨Nat.le_of_ble_eq_true rfl, Nat.le_of_ble_eq_true rfl⟩ dX4_countKind_42 ⟨Nat.le_of_ble_eq_true rfl, Nat.le_of_ble_eq_true rfl⟩) ?_
        refine lv_iload_n hx hb dX4_countKind_45 rfl (lv_at hl 1 rfl) ?_
        refine lv_icmp_ne (tgt := 52) hx hb dX4_countKind_46 (by decide) (fun c4 => ?_) (fun c4 => ?_)
        · have h := (if_neg c4).symm.trans h
          exact J52 x1 x2 x3 x4 x5 h _ (lv_sub hl [0, 1, 2, 3, 4, 5] rfl)
        · have h := (if_pos c4).symm.trans h
          refine lv_iinc (v := (x2 + 1)) (lv' := [(2, .int (x2 + 1)), (0, .ref (ga 0)), (1, .int x1), (3, .int x3), (4, .int x4), (5, .int x5)]) hx hb dX4_countKind_49 hl (k := 2) rfl rfl (by decide) rfl (fun ls hl => ?_)
          exact J52 x1 (x2 + 1) x3 x4 x5 h _ (lv_sub hl [1, 2, 0, 3, 4, 5] rfl)
    intro ls hl
    refine lv_iload_n hx hb dX4_countKind_4 rfl (lv_at hl 3 rfl) ?_
    refine lv_aload_n hx hb dX4_countKind_5 rfl (lv_at hl 0 rfl) ?_
    refine gf_X4_20 S hK hN hP 0 rfl (v := .ref (ga 2)) rfl dX4_countKind_6 ?_
    refine gf_X4_143 S hK hN hP 2 rfl (v := .int u.1.1.1.1) rfl dX4_countKind_9 ?_
    refine lv_icmp_ge (tgt := 64) hx hb dX4_countKind_12 (by decide) (fun c5 => ?_) (fun c5 => ?_)
    · have h := (if_pos c5).symm.trans h
      exact hE _ (Option.some.inj h) _ (lv_sub hl [2] rfl)
    · have h := (if_neg c5).symm.trans h
      refine lv_aload_n hx hb dX4_countKind_15 rfl (lv_at hl 0 rfl) ?_
      refine gf_X4_20 S hK hN hP 0 rfl (v := .ref (ga 2)) rfl dX4_countKind_16 ?_
      refine lv_iload_n hx hb dX4_countKind_19 rfl (lv_at hl 3 rfl) ?_
      obtain ⟨z6, e_z6, h⟩ := bnd h
      refine roI (cc_X4_146 (ga 2) (ga 3) S hK hN (hP.sub [2, 3] rfl) e_z6 hl.1 (Nat.le_of_ble_eq_true rfl) ⟨Nat.le_of_ble_eq_true rfl, Nat.le_of_ble_eq_true rfl⟩ dX4_countKind_20 ⟨Nat.le_of_ble_eq_true rfl, Nat.le_of_ble_eq_true rfl⟩) ?_
      refine lv_istore (lv' := [(4, .int z6), (0, .ref (ga 0)), (1, .int x1), (2, .int x2), (3, .int x3)]) hx hb dX4_countKind_23 hl (by decide) rfl (fun ls hl => ?_)
      refine lv_iconst (v := 0) hx hb dX4_countKind_25 (by decide) ?_
      refine lv_istore (lv' := [(5, .int (0 : Int32)), (4, .int z6), (0, .ref (ga 0)), (1, .int x1), (2, .int x2), (3, .int x3)]) hx hb dX4_countKind_26 hl (by decide) rfl (fun ls hl => ?_)
      obtain ⟨b7, e_b7, h⟩ := bnd h
      refine L28 _ _ _ e_b7 ?_ _ (lv_sub hl [2, 3, 4, 5, 1, 0] rfl)
      intro ls hl
      refine lv_iinc (v := (b7.2.2 + 1)) (lv' := [(3, .int (b7.2.2 + 1)), (0, .ref (ga 0)), (1, .int b7.1), (2, .int b7.2.1)]) hx hb dX4_countKind_58 hl (k := 3) rfl rfl (by decide) rfl (fun ls hl => ?_)
      refine lv_goto (tgt := 4) hx hb dX4_countKind_61 (by decide) ?_
      exact hI _ (Option.some.inj h) _ (lv_sub hl [1, 2, 3, 0] rfl)
  refine lv_iconst (v := 0) hx hb dX4_countKind_0 (by decide) ?_
  refine lv_istore_n (lv' := [(2, .int (0 : Int32)), (0, .ref (ga 0)), (1, .int p0)]) hx hb dX4_countKind_1 rfl hl (by decide) rfl (fun ls hl => ?_)
  refine lv_iconst (v := 0) hx hb dX4_countKind_2 (by decide) ?_
  refine lv_istore_n (lv' := [(3, .int (0 : Int32)), (2, .int (0 : Int32)), (0, .ref (ga 0)), (1, .int p0)]) hx hb dX4_countKind_3 rfl hl (by decide) rfl (fun ls hl => ?_)
  obtain ⟨b8, e_b8, h⟩ := bnd h
  refine L4 _ _ _ e_b8 ?_ _ (lv_sub hl [2, 3, 1, 0] rfl)
  intro ls hl
  refine lv_iload_n hx hb dX4_countKind_64 rfl (lv_at hl 0 rfl) ?_
  exact retR hQ S hr hlocks h dX4_countKind_65

theorem cc_X4_129 {p : Program} {l : Launch} {e : Env} {R : Room} {s : State} {m : MethodId} {args : Array Value} {below : List Frame} {meth : Method} {c : Code} {H : Heap} {locs : List Loc} {cells slots : Nat} {cc : ByteArray} {pc nL : Nat} {ls : Array Slot} {rest : List Value} {G : va_G} (sv : Nat) (ga : Nat → Nat) {cI cS : ClassId} {u : TH}  {p0 : Int32} {r : Int32} (S : CallFix p m c cc nL s args bw RX4) (hK : va_K G vwCl (tysW cI cS) s) (hN : NW s) (hP : va_P G vwCl (wH cI sv ga u) H) (hf : fX4_countKind u p0 = some r) (hsz : ls.size = nL) (hst : (rest.map fun v => v.category).sum ≤ 8) (hR : rmX4_countKind.frames + 1 ≤ R.frames ∧ 8 + (6 + 11) + rmX4_countKind.locals ≤ R.locals) (hdg : decode cc pc = .ok (.invokevirtual 129, 3)) (hcs : cells + 0 ≤ R.cells ∧ slots + 0 ≤ R.slots) : va_Run p l e R s m args below meth c H locs cells slots 0 0 (F0 m pc ls (.int p0 :: .ref (ga 0) :: rest)) rest (vp_Si (fun r' => r' = r) (#[.ref (ga 0), .int p0] : Array Value)) (fun _ => False) :=
  va_runV (As := [.int p0]) (rest := rest) S (kX4_countKind l G cI cS sv ga u p0 r hf) (cwV 1 S.2.2.2.2 (gdV q_277 q_278 q_279 q_49 q_276) rfl rfl rfl (by decide +kernel) hR) (pvR (q := (RX4, TX4, 8)) hK hN hP (ci := 4) (q0 := 0) rfl rfl) rfl rfl hsz rfl (lv_room hst) hdg hcs
def fX4_rows (u : TH) : Option (Int32) := ((fX4_countKind u (1 : Int32)).bind fun z1 => ((fX4_countKind u (2 : Int32)).bind fun z2 => some (z1 + z2)))
abbrev rmX4_rows : Room := { frames := 4, cells := 0, slots := 0, locals := 95 }
set_option maxRecDepth 100000 in
set_option maxHeartbeats 4000000 in
theorem kX4_rows (l : Launch) (G : va_G) (cI cS : ClassId) (sv : Nat) (ga : Nat → Nat) (u : TH) (r : Int32) (hf : fX4_rows u = some r) : Met l yX4_rows (.code yX4_rows cX4_rows 1 (some .int) :: bw) rmX4_rows (va_Pc [.ref (ga 0)] (PreR G (tysW cI cS) (wH cI sv ga u))) (vp_Si (fun r' => r' = r)) 0 0 (fun _ => False) := by
  refine enterR (own := RX4) (by decide) rfl rfl (Nat.le_of_ble_eq_true rfl) ?_
  intro p e s m args below meth c Q hQ S hr hlocks hP hK hN ls hl
  have hx := S.1; have hb := S.2.1; have hml := S.2.2.1; have hown := S.2.2.2.1; have hq := S.2.2.2.2
  have hl : lv_has ls 1 [(0, .ref (ga 0))] := hl
  have h := hf
  unfold fX4_rows at h
  refine lv_aload_n hx hb dX4_rows_0 rfl (lv_at hl 0 rfl) ?_
  refine lv_iconst (v := 1) hx hb dX4_rows_1 (by decide) ?_
  obtain ⟨z1, e_z1, h⟩ := bnd h
  refine roI (cc_X4_129 sv ga S hK hN hP e_z1 hl.1 (Nat.le_of_ble_eq_true rfl) ⟨Nat.le_of_ble_eq_true rfl, Nat.le_of_ble_eq_true rfl⟩ dX4_rows_2 ⟨Nat.le_of_ble_eq_true rfl, Nat.le_of_ble_eq_true rfl⟩) ?_
  refine lv_aload_n hx hb dX4_rows_5 rfl (lv_at hl 0 rfl) ?_
  refine lv_iconst (v := 2) hx hb dX4_rows_6 (by decide) ?_
  obtain ⟨z2, e_z2, h⟩ := bnd h
  refine roI (cc_X4_129 sv ga S hK hN hP e_z2 hl.1 (Nat.le_of_ble_eq_true rfl) ⟨Nat.le_of_ble_eq_true rfl, Nat.le_of_ble_eq_true rfl⟩ dX4_rows_7 ⟨Nat.le_of_ble_eq_true rfl, Nat.le_of_ble_eq_true rfl⟩) ?_
  refine lv_iadd hx hb dX4_rows_10 ?_
  exact retR hQ S hr hlocks h dX4_rows_11

def fX4_length (u : TH) (p0 : Int32) : Option (Int32) := ((fX4_requireRow u p0).bind fun z1 => ((fX4_presentPlace u p0).bind fun z2 => ((fX4_lengthAt u z2).bind fun z3 => some z3)))
abbrev rmX4_length : Room := { frames := 5, cells := 0, slots := 0, locals := 113 }
set_option maxRecDepth 100000 in
set_option maxHeartbeats 4000000 in
theorem kX4_length (l : Launch) (G : va_G) (cI cS : ClassId) (sv : Nat) (ga : Nat → Nat) (u : TH) (p0 : Int32) (r : Int32) (hf : fX4_length u p0 = some r) : Met l yX4_length (.code yX4_length cX4_length 2 (some .int) :: bw) rmX4_length (va_Pc [.ref (ga 0), .int p0] (PreR G (tysW cI cS) (wH cI sv ga u))) (vp_Si (fun r' => r' = r)) 0 0 (fun _ => False) := by
  refine enterR (own := RX4) (by decide) rfl rfl (Nat.le_of_ble_eq_true rfl) ?_
  intro p e s m args below meth c Q hQ S hr hlocks hP hK hN ls hl
  have hx := S.1; have hb := S.2.1; have hml := S.2.2.1; have hown := S.2.2.2.1; have hq := S.2.2.2.2
  have hl : lv_has ls 2 [(0, .ref (ga 0)), (1, .int p0)] := hl
  have h := hf
  unfold fX4_length at h
  refine lv_aload_n hx hb dX4_length_0 rfl (lv_at hl 0 rfl) ?_
  refine lv_iload_n hx hb dX4_length_1 rfl (lv_at hl 1 rfl) ?_
  obtain ⟨z1, e_z1, h⟩ := bnd h
  refine roV (cc_X4_98 sv ga S hK hN hP e_z1 hl.1 (Nat.le_of_ble_eq_true rfl) ⟨Nat.le_of_ble_eq_true rfl, Nat.le_of_ble_eq_true rfl⟩ dX4_length_2 ⟨Nat.le_of_ble_eq_true rfl, Nat.le_of_ble_eq_true rfl⟩) ?_
  refine lv_aload_n hx hb dX4_length_5 rfl (lv_at hl 0 rfl) ?_
  refine lv_aload_n hx hb dX4_length_6 rfl (lv_at hl 0 rfl) ?_
  refine lv_iload_n hx hb dX4_length_7 rfl (lv_at hl 1 rfl) ?_
  obtain ⟨z2, e_z2, h⟩ := bnd h
  refine roI (cc_X4_110 sv ga S hK hN hP e_z2 hl.1 (Nat.le_of_ble_eq_true rfl) ⟨Nat.le_of_ble_eq_true rfl, Nat.le_of_ble_eq_true rfl⟩ dX4_length_8 ⟨Nat.le_of_ble_eq_true rfl, Nat.le_of_ble_eq_true rfl⟩) ?_
  obtain ⟨z3, e_z3, h⟩ := bnd h
  refine roI (cc_X4_113 sv ga S hK hN hP e_z3 hl.1 (Nat.le_of_ble_eq_true rfl) ⟨Nat.le_of_ble_eq_true rfl, Nat.le_of_ble_eq_true rfl⟩ dX4_length_11 ⟨Nat.le_of_ble_eq_true rfl, Nat.le_of_ble_eq_true rfl⟩) ?_
  exact retR hQ S hr hlocks h dX4_length_14

def fX4_byteOf_j24 (u : TH) : Option (Int32) := none
def fX4_byteOf (u : TH) (p0 : Int32) (p1 : Int32) : Option (Int32) := ((fX4_requireRow u p0).bind fun z1 => ((fX4_presentPlace u p0).bind fun z2 => (if p1 < 0 then fX4_byteOf_j24 u else ((fX4_lengthAt u z2).bind fun z4 => (if p1 < z4 then ((fX4_rowByteAt u z2 p1).bind fun z6 => some z6) else fX4_byteOf_j24 u)))))
abbrev rmX4_byteOf : Room := { frames := 5, cells := 0, slots := 0, locals := 113 }
set_option maxRecDepth 100000 in
set_option maxHeartbeats 4000000 in
theorem kX4_byteOf (l : Launch) (G : va_G) (cI cS : ClassId) (sv : Nat) (ga : Nat → Nat) (u : TH) (p0 : Int32) (p1 : Int32) (r : Int32) (hf : fX4_byteOf u p0 p1 = some r) : Met l yX4_byteOf (.code yX4_byteOf cX4_byteOf 4 (some .int) :: bw) rmX4_byteOf (va_Pc [.ref (ga 0), .int p0, .int p1] (PreR G (tysW cI cS) (wH cI sv ga u))) (vp_Si (fun r' => r' = r)) 0 0 (fun _ => False) := by
  refine enterR (own := RX4) (by decide) rfl rfl (Nat.le_of_ble_eq_true rfl) ?_
  intro p e s m args below meth c Q hQ S hr hlocks hP hK hN ls hl
  have hx := S.1; have hb := S.2.1; have hml := S.2.2.1; have hown := S.2.2.2.1; have hq := S.2.2.2.2
  have hl : lv_has ls 4 [(0, .ref (ga 0)), (1, .int p0), (2, .int p1)] := hl
  have h := hf
  unfold fX4_byteOf at h
  have J24 : fX4_byteOf_j24 u = some r → ∀ ls : Array Slot, lv_has ls 4 [] → W p l e rmX4_byteOf s m args below meth c s.heap [] 0 0 Q (F0 m 24 ls []) := by
    intro h
    unfold fX4_byteOf_j24 at h
    intro ls hl
    cases h
  refine lv_aload_n hx hb dX4_byteOf_0 rfl (lv_at hl 0 rfl) ?_
  refine lv_iload_n hx hb dX4_byteOf_1 rfl (lv_at hl 1 rfl) ?_
  obtain ⟨z1, e_z1, h⟩ := bnd h
  refine roV (cc_X4_98 sv ga S hK hN hP e_z1 hl.1 (Nat.le_of_ble_eq_true rfl) ⟨Nat.le_of_ble_eq_true rfl, Nat.le_of_ble_eq_true rfl⟩ dX4_byteOf_2 ⟨Nat.le_of_ble_eq_true rfl, Nat.le_of_ble_eq_true rfl⟩) ?_
  refine lv_aload_n hx hb dX4_byteOf_5 rfl (lv_at hl 0 rfl) ?_
  refine lv_iload_n hx hb dX4_byteOf_6 rfl (lv_at hl 1 rfl) ?_
  obtain ⟨z2, e_z2, h⟩ := bnd h
  refine roI (cc_X4_110 sv ga S hK hN hP e_z2 hl.1 (Nat.le_of_ble_eq_true rfl) ⟨Nat.le_of_ble_eq_true rfl, Nat.le_of_ble_eq_true rfl⟩ dX4_byteOf_7 ⟨Nat.le_of_ble_eq_true rfl, Nat.le_of_ble_eq_true rfl⟩) ?_
  refine lv_istore_n (lv' := [(3, .int z2), (0, .ref (ga 0)), (1, .int p0), (2, .int p1)]) hx hb dX4_byteOf_10 rfl hl (by decide) rfl (fun ls hl => ?_)
  refine lv_iload_n hx hb dX4_byteOf_11 rfl (lv_at hl 3 rfl) ?_
  refine lv_if_lt (tgt := 24) hx hb dX4_byteOf_12 (by decide) (fun c3 => ?_) (fun c3 => ?_)
  · have h := (if_pos c3).symm.trans h
    exact J24  h _ (lv_sub hl [] rfl)
  · have h := (if_neg c3).symm.trans h
    refine lv_iload_n hx hb dX4_byteOf_15 rfl (lv_at hl 3 rfl) ?_
    refine lv_aload_n hx hb dX4_byteOf_16 rfl (lv_at hl 1 rfl) ?_
    refine lv_iload_n hx hb dX4_byteOf_17 rfl (lv_at hl 0 rfl) ?_
    obtain ⟨z4, e_z4, h⟩ := bnd h
    refine roI (cc_X4_113 sv ga S hK hN hP e_z4 hl.1 (Nat.le_of_ble_eq_true rfl) ⟨Nat.le_of_ble_eq_true rfl, Nat.le_of_ble_eq_true rfl⟩ dX4_byteOf_18 ⟨Nat.le_of_ble_eq_true rfl, Nat.le_of_ble_eq_true rfl⟩) ?_
    refine lv_icmp_lt (tgt := 34) hx hb dX4_byteOf_21 (by decide) (fun c5 => ?_) (fun c5 => ?_)
    · have h := (if_pos c5).symm.trans h
      refine lv_aload_n hx hb dX4_byteOf_34 rfl (lv_at hl 1 rfl) ?_
      refine lv_iload_n hx hb dX4_byteOf_35 rfl (lv_at hl 0 rfl) ?_
      refine lv_iload_n hx hb dX4_byteOf_36 rfl (lv_at hl 3 rfl) ?_
      obtain ⟨z6, e_z6, h⟩ := bnd h
      refine roI (cc_X4_140 sv ga S hK hN hP e_z6 hl.1 (Nat.le_of_ble_eq_true rfl) ⟨Nat.le_of_ble_eq_true rfl, Nat.le_of_ble_eq_true rfl⟩ dX4_byteOf_37 ⟨Nat.le_of_ble_eq_true rfl, Nat.le_of_ble_eq_true rfl⟩) ?_
      exact retR hQ S hr hlocks h dX4_byteOf_40
    · have h := (if_neg c5).symm.trans h
      exact J24  h _ (lv_sub hl [] rfl)

def fX4_placeOf (u : TH) (p0 : Int32) : Option (Int32) := ((fX4_requireRow u p0).bind fun z1 => ((fX4_presentPlace u p0).bind fun z2 => some z2))
abbrev rmX4_placeOf : Room := { frames := 5, cells := 0, slots := 0, locals := 113 }
set_option maxRecDepth 100000 in
set_option maxHeartbeats 4000000 in
theorem kX4_placeOf (l : Launch) (G : va_G) (cI cS : ClassId) (sv : Nat) (ga : Nat → Nat) (u : TH) (p0 : Int32) (r : Int32) (hf : fX4_placeOf u p0 = some r) : Met l yX4_placeOf (.code yX4_placeOf cX4_placeOf 2 (some .int) :: bw) rmX4_placeOf (va_Pc [.ref (ga 0), .int p0] (PreR G (tysW cI cS) (wH cI sv ga u))) (vp_Si (fun r' => r' = r)) 0 0 (fun _ => False) := by
  refine enterR (own := RX4) (by decide) rfl rfl (Nat.le_of_ble_eq_true rfl) ?_
  intro p e s m args below meth c Q hQ S hr hlocks hP hK hN ls hl
  have hx := S.1; have hb := S.2.1; have hml := S.2.2.1; have hown := S.2.2.2.1; have hq := S.2.2.2.2
  have hl : lv_has ls 2 [(0, .ref (ga 0)), (1, .int p0)] := hl
  have h := hf
  unfold fX4_placeOf at h
  refine lv_aload_n hx hb dX4_placeOf_0 rfl (lv_at hl 0 rfl) ?_
  refine lv_iload_n hx hb dX4_placeOf_1 rfl (lv_at hl 1 rfl) ?_
  obtain ⟨z1, e_z1, h⟩ := bnd h
  refine roV (cc_X4_98 sv ga S hK hN hP e_z1 hl.1 (Nat.le_of_ble_eq_true rfl) ⟨Nat.le_of_ble_eq_true rfl, Nat.le_of_ble_eq_true rfl⟩ dX4_placeOf_2 ⟨Nat.le_of_ble_eq_true rfl, Nat.le_of_ble_eq_true rfl⟩) ?_
  refine lv_aload_n hx hb dX4_placeOf_5 rfl (lv_at hl 0 rfl) ?_
  refine lv_iload_n hx hb dX4_placeOf_6 rfl (lv_at hl 1 rfl) ?_
  obtain ⟨z2, e_z2, h⟩ := bnd h
  refine roI (cc_X4_110 sv ga S hK hN hP e_z2 hl.1 (Nat.le_of_ble_eq_true rfl) ⟨Nat.le_of_ble_eq_true rfl, Nat.le_of_ble_eq_true rfl⟩ dX4_placeOf_7 ⟨Nat.le_of_ble_eq_true rfl, Nat.le_of_ble_eq_true rfl⟩) ?_
  exact retR hQ S hr hlocks h dX4_placeOf_10

def fX4_rowAt (u : TH) (p0 : Int32) : Option (Int32) := ((fX4_kind u p0).bind fun z1 => (if z1 = (1 : Int32) then some p0 else (if z1 = (3 : Int32) then ((fX4_targetAt u p0).bind fun z4 => some z4) else some ((-1) : Int32))))
abbrev rmX4_rowAt : Room := { frames := 3, cells := 0, slots := 0, locals := 70 }
set_option maxRecDepth 100000 in
set_option maxHeartbeats 4000000 in
theorem kX4_rowAt (l : Launch) (G : va_G) (cI cS : ClassId) (sv : Nat) (ga : Nat → Nat) (u : TH) (p0 : Int32) (r : Int32) (hf : fX4_rowAt u p0 = some r) : Met l yX4_rowAt (.code yX4_rowAt cX4_rowAt 3 (some .int) :: bw) rmX4_rowAt (va_Pc [.ref (ga 0), .int p0] (PreR G (tysW cI cS) (wH cI sv ga u))) (vp_Si (fun r' => r' = r)) 0 0 (fun _ => False) := by
  refine enterR (own := RX4) (by decide) rfl rfl (Nat.le_of_ble_eq_true rfl) ?_
  intro p e s m args below meth c Q hQ S hr hlocks hP hK hN ls hl
  have hx := S.1; have hb := S.2.1; have hml := S.2.2.1; have hown := S.2.2.2.1; have hq := S.2.2.2.2
  have hl : lv_has ls 3 [(0, .ref (ga 0)), (1, .int p0)] := hl
  have h := hf
  unfold fX4_rowAt at h
  refine lv_aload_n hx hb dX4_rowAt_0 rfl (lv_at hl 0 rfl) ?_
  refine lv_iload_n hx hb dX4_rowAt_1 rfl (lv_at hl 1 rfl) ?_
  obtain ⟨z1, e_z1, h⟩ := bnd h
  refine roI (cc_X4_132 sv ga S hK hN hP e_z1 hl.1 (Nat.le_of_ble_eq_true rfl) ⟨Nat.le_of_ble_eq_true rfl, Nat.le_of_ble_eq_true rfl⟩ dX4_rowAt_2 ⟨Nat.le_of_ble_eq_true rfl, Nat.le_of_ble_eq_true rfl⟩) ?_
  refine lv_istore_n (lv' := [(2, .int z1), (0, .ref (ga 0)), (1, .int p0)]) hx hb dX4_rowAt_5 rfl hl (by decide) rfl (fun ls hl => ?_)
  refine lv_iload_n hx hb dX4_rowAt_6 rfl (lv_at hl 0 rfl) ?_
  refine lv_iconst (v := 1) hx hb dX4_rowAt_7 (by decide) ?_
  refine lv_icmp_ne (tgt := 13) hx hb dX4_rowAt_8 (by decide) (fun c2 => ?_) (fun c2 => ?_)
  · have h := (if_neg c2).symm.trans h
    refine lv_iload_n hx hb dX4_rowAt_13 rfl (lv_at hl 0 rfl) ?_
    refine lv_iconst (v := 3) hx hb dX4_rowAt_14 (by decide) ?_
    refine lv_icmp_ne (tgt := 26) hx hb dX4_rowAt_15 (by decide) (fun c3 => ?_) (fun c3 => ?_)
    · have h := (if_neg c3).symm.trans h
      refine lv_iconst (v := (-1)) hx hb dX4_rowAt_26 (by decide) ?_
      exact retR hQ S hr hlocks h dX4_rowAt_27
    · have h := (if_pos c3).symm.trans h
      refine lv_aload_n hx hb dX4_rowAt_18 rfl (lv_at hl 1 rfl) ?_
      refine lv_iload_n hx hb dX4_rowAt_19 rfl (lv_at hl 2 rfl) ?_
      obtain ⟨z4, e_z4, h⟩ := bnd h
      refine roI (cc_X4_155 sv ga S hK hN hP e_z4 hl.1 (Nat.le_of_ble_eq_true rfl) ⟨Nat.le_of_ble_eq_true rfl, Nat.le_of_ble_eq_true rfl⟩ dX4_rowAt_20 ⟨Nat.le_of_ble_eq_true rfl, Nat.le_of_ble_eq_true rfl⟩) ?_
      refine lv_goto (tgt := 27) hx hb dX4_rowAt_23 (by decide) ?_
      exact retR hQ S hr hlocks h dX4_rowAt_27
  · have h := (if_pos c2).symm.trans h
    refine lv_iload_n hx hb dX4_rowAt_11 rfl (lv_at hl 2 rfl) ?_
    exact retR hQ S hr hlocks h dX4_rowAt_12

theorem cc_X4_152 {p : Program} {l : Launch} {e : Env} {R : Room} {s : State} {m : MethodId} {args : Array Value} {below : List Frame} {meth : Method} {c : Code} {H : Heap} {locs : List Loc} {cells slots : Nat} {cc : ByteArray} {pc nL : Nat} {ls : Array Slot} {rest : List Value} {G : va_G} (sv : Nat) (ga : Nat → Nat) {cI cS : ClassId} {u : TH}  {p0 : Int32} {r : Int32} (S : CallFix p m c cc nL s args bw RX4) (hK : va_K G vwCl (tysW cI cS) s) (hN : NW s) (hP : va_P G vwCl (wH cI sv ga u) H) (hf : fX4_rowAt u p0 = some r) (hsz : ls.size = nL) (hst : (rest.map fun v => v.category).sum ≤ 8) (hR : rmX4_rowAt.frames + 1 ≤ R.frames ∧ 8 + (3 + 11) + rmX4_rowAt.locals ≤ R.locals) (hdg : decode cc pc = .ok (.invokevirtual 152, 3)) (hcs : cells + 0 ≤ R.cells ∧ slots + 0 ≤ R.slots) : va_Run p l e R s m args below meth c H locs cells slots 0 0 (F0 m pc ls (.int p0 :: .ref (ga 0) :: rest)) rest (vp_Si (fun r' => r' = r) (#[.ref (ga 0), .int p0] : Array Value)) (fun _ => False) :=
  va_runV (As := [.int p0]) (rest := rest) S (kX4_rowAt l G cI cS sv ga u p0 r hf) (cwV 1 S.2.2.2.2 (gdV q_285 q_286 q_287 q_49 q_284) rfl rfl rfl (by decide +kernel) hR) (pvR (q := (RX4, TX4, 8)) hK hN hP (ci := 4) (q0 := 0) rfl rfl) rfl rfl hsz rfl (lv_room hst) hdg hcs
def fX4_next_j58 (u : TH) (x1 : Int32) (x2 : Int32) (x3 : Int32) (x4 : Int32) : Option ((Int32 × Int32 × Int32 × Int32) ⊕ (Nat × (Int32 × Int32 × Int32))) := some (.inl (x1, x2, x3, (x4 + 1)))
def fX4_next_s25 (u : TH) (x1 : Int32) (x2 : Int32) (x3 : Int32) (x4 : Int32) : Option ((Int32 × Int32 × Int32 × Int32) ⊕ (Nat × (Int32 × Int32 × Int32))) := (if x3 ≤ x4 then some (.inr (1, (x1, x2, (0 : Int32)))) else ((fX4_placeAt x2 x4).bind fun z2 => (if z2 ≤ x1 then fX4_next_j58 u x1 x2 x3 x4 else ((fX4_rowAt u z2).bind fun z4 => (if z4 = ((-1) : Int32) then fX4_next_j58 u x1 x2 x3 x4 else some (.inr (0, ((0 : Int32), (0 : Int32), z2))))))))
def fX4_next_s2 (u : TH) (x1 : Int32) (x2 : Int32) : Option ((Int32 × Int32) ⊕ (Nat × (Int32))) := (if u.1.1.1.1 ≤ x2 then some (.inr (1, (0 : Int32))) else ((fX3_slotCount u.1.1 x2).bind fun z7 => ((itr (fun a : Int32 × Int32 × Int32 × Int32 => fX4_next_s25 u a.1 a.2.1 a.2.2.1 a.2.2.2) FU (x1, x2, z7, (0 : Int32))).bind fun b8 => (if b8.1 = 0 then some (.inr (0, b8.2.2.2)) else some (.inl (b8.2.1, (b8.2.2.1 + 1)))))))
def fX4_next (u : TH) (p0 : Int32) : Option (Int32) := ((itr (fun a : Int32 × Int32 => fX4_next_s2 u a.1 a.2) FU (p0, (0 : Int32))).bind fun b11 => (if b11.1 = 0 then some b11.2 else some ((-1) : Int32)))
abbrev rmX4_next : Room := { frames := 4, cells := 0, slots := 0, locals := 92 }
set_option maxRecDepth 100000 in
set_option maxHeartbeats 4000000 in
theorem kX4_next (l : Launch) (G : va_G) (cI cS : ClassId) (sv : Nat) (ga : Nat → Nat) (u : TH) (p0 : Int32) (r : Int32) (hf : fX4_next u p0 = some r) : Met l yX4_next (.code yX4_next cX4_next 6 (some .int) :: bw) rmX4_next (va_Pc [.ref (ga 0), .int p0] (PreR G (tysW cI cS) (wH cI sv ga u))) (vp_Si (fun r' => r' = r)) 0 0 (fun _ => False) := by
  refine enterR (own := RX4) (by decide) rfl rfl (Nat.le_of_ble_eq_true rfl) ?_
  intro p e s m args below meth c Q hQ S hr hlocks hP hK hN ls hl
  have hx := S.1; have hb := S.2.1; have hml := S.2.2.1; have hown := S.2.2.2.1; have hq := S.2.2.2.2
  have hl : lv_has ls 6 [(0, .ref (ga 0)), (1, .int p0)] := hl
  have h := hf
  unfold fX4_next at h
  have L2 : ∀ (n9 : Nat) (a9 : Int32 × Int32) (b9 : Nat × (Int32)), itr (fun a : Int32 × Int32 => fX4_next_s2 u a.1 a.2) n9 a9 = some b9 → (fun b : Nat × (Int32) => (b.1 = 0 → ∀ ls : Array Slot, lv_has ls 6 [(5, .int b.2)] → W p l e rmX4_next s m args below meth c s.heap [] 0 0 Q (F0 m 55 ls [])) ∧ (¬ b.1 = 0 → ∀ ls : Array Slot, lv_has ls 6 [] → W p l e rmX4_next s m args below meth c s.heap [] 0 0 Q (F0 m 70 ls []))) b9 → (fun a : Int32 × Int32 => ∀ ls : Array Slot, lv_has ls 6 [(0, .ref (ga 0)), (1, .int a.1), (2, .int a.2)] → W p l e rmX4_next s m args below meth c s.heap [] 0 0 Q (F0 m 2 ls [])) a9 := by
    refine itr_ind (Inv := (fun a : Int32 × Int32 => ∀ ls : Array Slot, lv_has ls 6 [(0, .ref (ga 0)), (1, .int a.1), (2, .int a.2)] → W p l e rmX4_next s m args below meth c s.heap [] 0 0 Q (F0 m 2 ls []))) (Ex := (fun b : Nat × (Int32) => (b.1 = 0 → ∀ ls : Array Slot, lv_has ls 6 [(5, .int b.2)] → W p l e rmX4_next s m args below meth c s.heap [] 0 0 Q (F0 m 55 ls [])) ∧ (¬ b.1 = 0 → ∀ ls : Array Slot, lv_has ls 6 [] → W p l e rmX4_next s m args below meth c s.heap [] 0 0 Q (F0 m 70 ls [])))) ?_
    rintro ⟨x1, x2⟩ z h hI hE
    have h : fX4_next_s2 u x1 x2 = some z := h
    unfold fX4_next_s2 at h
    show ∀ ls : Array Slot, lv_has ls 6 [(0, .ref (ga 0)), (1, .int x1), (2, .int x2)] → W p l e rmX4_next s m args below meth c s.heap [] 0 0 Q (F0 m 2 ls [])
    have L25 : ∀ (n9 : Nat) (a9 : Int32 × Int32 × Int32 × Int32) (b9 : Nat × (Int32 × Int32 × Int32)), itr (fun a : Int32 × Int32 × Int32 × Int32 => fX4_next_s25 u a.1 a.2.1 a.2.2.1 a.2.2.2) n9 a9 = some b9 → (fun b : Nat × (Int32 × Int32 × Int32) => (b.1 = 0 → ∀ ls : Array Slot, lv_has ls 6 [(5, .int b.2.2.2)] → W p l e rmX4_next s m args below meth c s.heap [] 0 0 Q (F0 m 55 ls [])) ∧ (¬ b.1 = 0 → ∀ ls : Array Slot, lv_has ls 6 [(0, .ref (ga 0)), (1, .int b.2.1), (2, .int b.2.2.1)] → W p l e rmX4_next s m args below meth c s.heap [] 0 0 Q (F0 m 64 ls []))) b9 → (fun a : Int32 × Int32 × Int32 × Int32 => ∀ ls : Array Slot, lv_has ls 6 [(0, .ref (ga 0)), (1, .int a.1), (2, .int a.2.1), (3, .int a.2.2.1), (4, .int a.2.2.2)] → W p l e rmX4_next s m args below meth c s.heap [] 0 0 Q (F0 m 25 ls [])) a9 := by
      refine itr_ind (Inv := (fun a : Int32 × Int32 × Int32 × Int32 => ∀ ls : Array Slot, lv_has ls 6 [(0, .ref (ga 0)), (1, .int a.1), (2, .int a.2.1), (3, .int a.2.2.1), (4, .int a.2.2.2)] → W p l e rmX4_next s m args below meth c s.heap [] 0 0 Q (F0 m 25 ls []))) (Ex := (fun b : Nat × (Int32 × Int32 × Int32) => (b.1 = 0 → ∀ ls : Array Slot, lv_has ls 6 [(5, .int b.2.2.2)] → W p l e rmX4_next s m args below meth c s.heap [] 0 0 Q (F0 m 55 ls [])) ∧ (¬ b.1 = 0 → ∀ ls : Array Slot, lv_has ls 6 [(0, .ref (ga 0)), (1, .int b.2.1), (2, .int b.2.2.1)] → W p l e rmX4_next s m args below meth c s.heap [] 0 0 Q (F0 m 64 ls [])))) ?_
      rintro ⟨x1, x2, x3, x4⟩ z h hI hE
      have h : fX4_next_s25 u x1 x2 x3 x4 = some z := h
      unfold fX4_next_s25 at h
      show ∀ ls : Array Slot, lv_has ls 6 [(0, .ref (ga 0)), (1, .int x1), (2, .int x2), (3, .int x3), (4, .int x4)] → W p l e rmX4_next s m args below meth c s.heap [] 0 0 Q (F0 m 25 ls [])
      have J58 : ∀ (x1 : Int32) (x2 : Int32) (x3 : Int32) (x4 : Int32) , fX4_next_j58 u x1 x2 x3 x4 = some z → ∀ ls : Array Slot, lv_has ls 6 [(0, .ref (ga 0)), (1, .int x1), (2, .int x2), (3, .int x3), (4, .int x4)] → W p l e rmX4_next s m args below meth c s.heap [] 0 0 Q (F0 m 58 ls []) := by
        intro x1 x2 x3 x4 h
        unfold fX4_next_j58 at h
        intro ls hl
        refine lv_iinc (v := (x4 + 1)) (lv' := [(4, .int (x4 + 1)), (0, .ref (ga 0)), (1, .int x1), (2, .int x2), (3, .int x3)]) hx hb dX4_next_58 hl (k := 4) rfl rfl (by decide) rfl (fun ls hl => ?_)
        refine lv_goto (tgt := 25) hx hb dX4_next_61 (by decide) ?_
        exact hI _ (Option.some.inj h) _ (lv_sub hl [1, 2, 3, 4, 0] rfl)
      intro ls hl
      refine lv_iload hx hb dX4_next_25 (lv_at hl 4 rfl) ?_
      refine lv_iload_n hx hb dX4_next_27 rfl (lv_at hl 3 rfl) ?_
      refine lv_icmp_ge (tgt := 64) hx hb dX4_next_28 (by decide) (fun c1 => ?_) (fun c1 => ?_)
      · have h := (if_pos c1).symm.trans h
        exact (hE _ (Option.some.inj h)).2 (fun q => nomatch q) _ (lv_sub hl [0, 1, 2] rfl)
      · have h := (if_neg c1).symm.trans h
        refine lv_iload_n hx hb dX4_next_31 rfl (lv_at hl 2 rfl) ?_
        refine lv_iload hx hb dX4_next_32 (lv_at hl 4 rfl) ?_
        obtain ⟨z2, e_z2, h⟩ := bnd h
        refine roI (cc_X4_149 S hK hN va_P0 e_z2 hl.1 (Nat.le_of_ble_eq_true rfl) ⟨Nat.le_of_ble_eq_true rfl, Nat.le_of_ble_eq_true rfl⟩ dX4_next_34 ⟨Nat.le_of_ble_eq_true rfl, Nat.le_of_ble_eq_true rfl⟩) ?_
        refine lv_istore (lv' := [(5, .int z2), (0, .ref (ga 0)), (1, .int x1), (2, .int x2), (3, .int x3), (4, .int x4)]) hx hb dX4_next_37 hl (by decide) rfl (fun ls hl => ?_)
        refine lv_iload hx hb dX4_next_39 (lv_at hl 0 rfl) ?_
        refine lv_iload_n hx hb dX4_next_41 rfl (lv_at hl 2 rfl) ?_
        refine lv_icmp_le (tgt := 58) hx hb dX4_next_42 (by decide) (fun c3 => ?_) (fun c3 => ?_)
        · have h := (if_pos c3).symm.trans h
          exact J58 x1 x2 x3 x4 h _ (lv_sub hl [1, 2, 3, 4, 5] rfl)
        · have h := (if_neg c3).symm.trans h
          refine lv_aload_n hx hb dX4_next_45 rfl (lv_at hl 1 rfl) ?_
          refine lv_iload hx hb dX4_next_46 (lv_at hl 0 rfl) ?_
          obtain ⟨z4, e_z4, h⟩ := bnd h
          refine roI (cc_X4_152 sv ga S hK hN hP e_z4 hl.1 (Nat.le_of_ble_eq_true rfl) ⟨Nat.le_of_ble_eq_true rfl, Nat.le_of_ble_eq_true rfl⟩ dX4_next_48 ⟨Nat.le_of_ble_eq_true rfl, Nat.le_of_ble_eq_true rfl⟩) ?_
          refine lv_iconst (v := (-1)) hx hb dX4_next_51 (by decide) ?_
          refine lv_icmp_eq (tgt := 58) hx hb dX4_next_52 (by decide) (fun c5 => ?_) (fun c5 => ?_)
          · have h := (if_pos c5).symm.trans h
            exact J58 x1 x2 x3 x4 h _ (lv_sub hl [1, 2, 3, 4, 5] rfl)
          · have h := (if_neg c5).symm.trans h
            exact (hE _ (Option.some.inj h)).1 rfl _ (lv_sub hl [0] rfl)
    intro ls hl
    refine lv_iload_n hx hb dX4_next_2 rfl (lv_at hl 2 rfl) ?_
    refine lv_aload_n hx hb dX4_next_3 rfl (lv_at hl 0 rfl) ?_
    refine gf_X4_20 S hK hN hP 0 rfl (v := .ref (ga 2)) rfl dX4_next_4 ?_
    refine gf_X4_143 S hK hN hP 2 rfl (v := .int u.1.1.1.1) rfl dX4_next_7 ?_
    refine lv_icmp_ge (tgt := 70) hx hb dX4_next_10 (by decide) (fun c6 => ?_) (fun c6 => ?_)
    · have h := (if_pos c6).symm.trans h
      exact (hE _ (Option.some.inj h)).2 (fun q => nomatch q) _ (lv_sub hl [] rfl)
    · have h := (if_neg c6).symm.trans h
      refine lv_aload_n hx hb dX4_next_13 rfl (lv_at hl 0 rfl) ?_
      refine gf_X4_20 S hK hN hP 0 rfl (v := .ref (ga 2)) rfl dX4_next_14 ?_
      refine lv_iload_n hx hb dX4_next_17 rfl (lv_at hl 2 rfl) ?_
      obtain ⟨z7, e_z7, h⟩ := bnd h
      refine roI (cc_X4_146 (ga 2) (ga 3) S hK hN (hP.sub [2, 3] rfl) e_z7 hl.1 (Nat.le_of_ble_eq_true rfl) ⟨Nat.le_of_ble_eq_true rfl, Nat.le_of_ble_eq_true rfl⟩ dX4_next_18 ⟨Nat.le_of_ble_eq_true rfl, Nat.le_of_ble_eq_true rfl⟩) ?_
      refine lv_istore_n (lv' := [(3, .int z7), (0, .ref (ga 0)), (1, .int x1), (2, .int x2)]) hx hb dX4_next_21 rfl hl (by decide) rfl (fun ls hl => ?_)
      refine lv_iconst (v := 0) hx hb dX4_next_22 (by decide) ?_
      refine lv_istore (lv' := [(4, .int (0 : Int32)), (3, .int z7), (0, .ref (ga 0)), (1, .int x1), (2, .int x2)]) hx hb dX4_next_23 hl (by decide) rfl (fun ls hl => ?_)
      obtain ⟨b8, e_b8, h⟩ := bnd h
      refine L25 _ _ _ e_b8 ⟨?_, ?_⟩ _ (lv_sub hl [2, 3, 4, 1, 0] rfl)
      · skip
        intro c9
        have h := (if_pos c9).symm.trans h
        intro ls hl
        exact (hE _ (Option.some.inj h)).1 rfl _ (lv_sub hl [0] rfl)
      · intro c10
        have h := (if_neg c10).symm.trans h
        intro ls hl
        refine lv_iinc (v := (b8.2.2.1 + 1)) (lv' := [(2, .int (b8.2.2.1 + 1)), (0, .ref (ga 0)), (1, .int b8.2.1)]) hx hb dX4_next_64 hl (k := 2) rfl rfl (by decide) rfl (fun ls hl => ?_)
        refine lv_goto (tgt := 2) hx hb dX4_next_67 (by decide) ?_
        exact hI _ (Option.some.inj h) _ (lv_sub hl [1, 2, 0] rfl)
  refine lv_iconst (v := 0) hx hb dX4_next_0 (by decide) ?_
  refine lv_istore_n (lv' := [(2, .int (0 : Int32)), (0, .ref (ga 0)), (1, .int p0)]) hx hb dX4_next_1 rfl hl (by decide) rfl (fun ls hl => ?_)
  obtain ⟨b11, e_b11, h⟩ := bnd h
  refine L2 _ _ _ e_b11 ⟨?_, ?_⟩ _ (lv_sub hl [1, 2, 0] rfl)
  · skip
    intro c12
    have h := (if_pos c12).symm.trans h
    intro ls hl
    refine lv_iload hx hb dX4_next_55 (lv_at hl 0 rfl) ?_
    exact retR hQ S hr hlocks h dX4_next_57
  · intro c13
    have h := (if_neg c13).symm.trans h
    intro ls hl
    refine lv_iconst (v := (-1)) hx hb dX4_next_70 (by decide) ?_
    exact retR hQ S hr hlocks h dX4_next_71

def fX4_pages (u : TH) : Option (Int32) := some u.1.1.1.1
abbrev rmX4_pages : Room := { frames := 0, cells := 0, slots := 0, locals := 0 }
set_option maxRecDepth 100000 in
set_option maxHeartbeats 4000000 in
theorem kX4_pages (l : Launch) (G : va_G) (cI cS : ClassId) (sv : Nat) (ga : Nat → Nat) (u : TH) (r : Int32) (hf : fX4_pages u = some r) : Met l yX4_pages (.code yX4_pages cX4_pages 1 (some .int) :: bw) rmX4_pages (va_Pc [.ref (ga 0)] (PreR G (tysW cI cS) (wH cI sv ga u))) (vp_Si (fun r' => r' = r)) 0 0 (fun _ => False) := by
  refine enterR (own := RX4) (by decide) rfl rfl (Nat.le_of_ble_eq_true rfl) ?_
  intro p e s m args below meth c Q hQ S hr hlocks hP hK hN ls hl
  have hx := S.1; have hb := S.2.1; have hml := S.2.2.1; have hown := S.2.2.2.1; have hq := S.2.2.2.2
  have hl : lv_has ls 1 [(0, .ref (ga 0))] := hl
  have h := hf
  unfold fX4_pages at h
  refine lv_aload_n hx hb dX4_pages_0 rfl (lv_at hl 0 rfl) ?_
  refine gf_X4_20 S hK hN hP 0 rfl (v := .ref (ga 2)) rfl dX4_pages_1 ?_
  refine gf_X4_143 S hK hN hP 2 rfl (v := .int u.1.1.1.1) rfl dX4_pages_4 ?_
  exact retR hQ S hr hlocks h dX4_pages_7

def fX4_free (u : TH) (p0 : Int32) : Option (Int32) := ((fX4_requirePage u p0).bind fun z1 => ((fX2_freeBytes u.1 p0).bind fun z2 => some z2))
abbrev rmX4_free : Room := { frames := 2, cells := 0, slots := 0, locals := 47 }
set_option maxRecDepth 100000 in
set_option maxHeartbeats 4000000 in
theorem kX4_free (l : Launch) (G : va_G) (cI cS : ClassId) (sv : Nat) (ga : Nat → Nat) (u : TH) (p0 : Int32) (r : Int32) (hf : fX4_free u p0 = some r) : Met l yX4_free (.code yX4_free cX4_free 2 (some .int) :: bw) rmX4_free (va_Pc [.ref (ga 0), .int p0] (PreR G (tysW cI cS) (wH cI sv ga u))) (vp_Si (fun r' => r' = r)) 0 0 (fun _ => False) := by
  refine enterR (own := RX4) (by decide) rfl rfl (Nat.le_of_ble_eq_true rfl) ?_
  intro p e s m args below meth c Q hQ S hr hlocks hP hK hN ls hl
  have hx := S.1; have hb := S.2.1; have hml := S.2.2.1; have hown := S.2.2.2.1; have hq := S.2.2.2.2
  have hl : lv_has ls 2 [(0, .ref (ga 0)), (1, .int p0)] := hl
  have h := hf
  unfold fX4_free at h
  refine lv_aload_n hx hb dX4_free_0 rfl (lv_at hl 0 rfl) ?_
  refine lv_iload_n hx hb dX4_free_1 rfl (lv_at hl 1 rfl) ?_
  obtain ⟨z1, e_z1, h⟩ := bnd h
  refine roV (cc_X4_123 sv ga S hK hN hP e_z1 hl.1 (Nat.le_of_ble_eq_true rfl) ⟨Nat.le_of_ble_eq_true rfl, Nat.le_of_ble_eq_true rfl⟩ dX4_free_2 ⟨Nat.le_of_ble_eq_true rfl, Nat.le_of_ble_eq_true rfl⟩) ?_
  refine lv_aload_n hx hb dX4_free_5 rfl (lv_at hl 0 rfl) ?_
  refine gf_X4_12 S hK hN hP 0 rfl (v := .ref (ga 1)) rfl dX4_free_6 ?_
  refine lv_iload_n hx hb dX4_free_9 rfl (lv_at hl 1 rfl) ?_
  obtain ⟨z2, e_z2, h⟩ := bnd h
  refine roI (cc_X4_161 (ga 1) (ga 2) (ga 3) (ga 4) (ga 5) S hK hN (hP.sub [1, 2, 3, 4, 5] rfl) e_z2 hl.1 (Nat.le_of_ble_eq_true rfl) ⟨Nat.le_of_ble_eq_true rfl, Nat.le_of_ble_eq_true rfl⟩ dX4_free_10 ⟨Nat.le_of_ble_eq_true rfl, Nat.le_of_ble_eq_true rfl⟩) ?_
  exact retR hQ S hr hlocks h dX4_free_13

theorem cc_X4_164 {p : Program} {l : Launch} {e : Env} {R : Room} {s : State} {m : MethodId} {args : Array Value} {below : List Frame} {meth : Method} {c : Code} {H : Heap} {locs : List Loc} {cells slots : Nat} {cc : ByteArray} {pc nL : Nat} {ls : Array Slot} {rest : List Value} {G : va_G} (g0 g1 g2 g3 g4 : Nat) {cI cS : ClassId} {u : TP}  {p0 : Int32} {p1 : Int32} {r : Int32} (S : CallFix p m c cc nL s args bw RX4) (hK : va_K G vwCl (tysW cI cS) s) (hN : NW s) (hP : va_P G vwCl (wP cI g0 g1 g2 g3 g4 u) H) (hf : fX2_gapWith u p0 p1 = some r) (hsz : ls.size = nL) (hst : (rest.map fun v => v.category).sum ≤ 8) (hR : rmX2_gapWith.frames + 1 ≤ R.frames ∧ 8 + (3 + 11) + rmX2_gapWith.locals ≤ R.locals) (hdg : decode cc pc = .ok (.invokevirtual 164, 3)) (hcs : cells + 0 ≤ R.cells ∧ slots + 0 ≤ R.slots) : va_Run p l e R s m args below meth c H locs cells slots 0 0 (F0 m pc ls (.int p1 :: .int p0 :: .ref g0 :: rest)) rest (vp_Si (fun r' => r' = r) (#[.ref g0, .int p0, .int p1] : Array Value)) (fun _ => False) :=
  va_runVN (As := [.int p0, .int p1]) (rest := rest) S (kX2_gapWith l G cI cS g0 g1 g2 g3 g4 u p0 p1 r hf) ⟨va_cnB 2 S.2.2.2.2 (gdC q_58) rfl rfl rfl (hN _ nq_25) (S.2.2.2.2 _ q_56) (by decide +kernel) hR, S.2.2.2.2 _ q_93, S.2.2.2.2 _ q_94⟩ (pvR (q := (RX2, TX2, 2)) hK hN hP (ci := 2) (q0 := 0) rfl rfl) rfl rfl hsz rfl (lv_room hst) hdg hcs
def fX4_gap (u : TH) (p0 : Int32) : Option (Int32) := ((fX4_requirePage u p0).bind fun z1 => ((fX3_slotCount u.1.1 p0).bind fun z2 => ((fX2_gapWith u.1 p0 z2).bind fun z3 => some z3)))
abbrev rmX4_gap : Room := { frames := 2, cells := 0, slots := 0, locals := 45 }
set_option maxRecDepth 100000 in
set_option maxHeartbeats 4000000 in
theorem kX4_gap (l : Launch) (G : va_G) (cI cS : ClassId) (sv : Nat) (ga : Nat → Nat) (u : TH) (p0 : Int32) (r : Int32) (hf : fX4_gap u p0 = some r) : Met l yX4_gap (.code yX4_gap cX4_gap 2 (some .int) :: bw) rmX4_gap (va_Pc [.ref (ga 0), .int p0] (PreR G (tysW cI cS) (wH cI sv ga u))) (vp_Si (fun r' => r' = r)) 0 0 (fun _ => False) := by
  refine enterR (own := RX4) (by decide) rfl rfl (Nat.le_of_ble_eq_true rfl) ?_
  intro p e s m args below meth c Q hQ S hr hlocks hP hK hN ls hl
  have hx := S.1; have hb := S.2.1; have hml := S.2.2.1; have hown := S.2.2.2.1; have hq := S.2.2.2.2
  have hl : lv_has ls 2 [(0, .ref (ga 0)), (1, .int p0)] := hl
  have h := hf
  unfold fX4_gap at h
  refine lv_aload_n hx hb dX4_gap_0 rfl (lv_at hl 0 rfl) ?_
  refine lv_iload_n hx hb dX4_gap_1 rfl (lv_at hl 1 rfl) ?_
  obtain ⟨z1, e_z1, h⟩ := bnd h
  refine roV (cc_X4_123 sv ga S hK hN hP e_z1 hl.1 (Nat.le_of_ble_eq_true rfl) ⟨Nat.le_of_ble_eq_true rfl, Nat.le_of_ble_eq_true rfl⟩ dX4_gap_2 ⟨Nat.le_of_ble_eq_true rfl, Nat.le_of_ble_eq_true rfl⟩) ?_
  refine lv_aload_n hx hb dX4_gap_5 rfl (lv_at hl 0 rfl) ?_
  refine gf_X4_12 S hK hN hP 0 rfl (v := .ref (ga 1)) rfl dX4_gap_6 ?_
  refine lv_iload_n hx hb dX4_gap_9 rfl (lv_at hl 1 rfl) ?_
  refine lv_aload_n hx hb dX4_gap_10 rfl (lv_at hl 0 rfl) ?_
  refine gf_X4_20 S hK hN hP 0 rfl (v := .ref (ga 2)) rfl dX4_gap_11 ?_
  refine lv_iload_n hx hb dX4_gap_14 rfl (lv_at hl 1 rfl) ?_
  obtain ⟨z2, e_z2, h⟩ := bnd h
  refine roI (cc_X4_146 (ga 2) (ga 3) S hK hN (hP.sub [2, 3] rfl) e_z2 hl.1 (Nat.le_of_ble_eq_true rfl) ⟨Nat.le_of_ble_eq_true rfl, Nat.le_of_ble_eq_true rfl⟩ dX4_gap_15 ⟨Nat.le_of_ble_eq_true rfl, Nat.le_of_ble_eq_true rfl⟩) ?_
  obtain ⟨z3, e_z3, h⟩ := bnd h
  refine roI (cc_X4_164 (ga 1) (ga 2) (ga 3) (ga 4) (ga 5) S hK hN (hP.sub [1, 2, 3, 4, 5] rfl) e_z3 hl.1 (Nat.le_of_ble_eq_true rfl) ⟨Nat.le_of_ble_eq_true rfl, Nat.le_of_ble_eq_true rfl⟩ dX4_gap_18 ⟨Nat.le_of_ble_eq_true rfl, Nat.le_of_ble_eq_true rfl⟩) ?_
  exact retR hQ S hr hlocks h dX4_gap_21

def fX4_notes (u : TH) : Option (Int32) := ((fX4_countKind u (2 : Int32)).bind fun z1 => some z1)
abbrev rmX4_notes : Room := { frames := 4, cells := 0, slots := 0, locals := 95 }
set_option maxRecDepth 100000 in
set_option maxHeartbeats 4000000 in
theorem kX4_notes (l : Launch) (G : va_G) (cI cS : ClassId) (sv : Nat) (ga : Nat → Nat) (u : TH) (r : Int32) (hf : fX4_notes u = some r) : Met l yX4_notes (.code yX4_notes cX4_notes 1 (some .int) :: bw) rmX4_notes (va_Pc [.ref (ga 0)] (PreR G (tysW cI cS) (wH cI sv ga u))) (vp_Si (fun r' => r' = r)) 0 0 (fun _ => False) := by
  refine enterR (own := RX4) (by decide) rfl rfl (Nat.le_of_ble_eq_true rfl) ?_
  intro p e s m args below meth c Q hQ S hr hlocks hP hK hN ls hl
  have hx := S.1; have hb := S.2.1; have hml := S.2.2.1; have hown := S.2.2.2.1; have hq := S.2.2.2.2
  have hl : lv_has ls 1 [(0, .ref (ga 0))] := hl
  have h := hf
  unfold fX4_notes at h
  refine lv_aload_n hx hb dX4_notes_0 rfl (lv_at hl 0 rfl) ?_
  refine lv_iconst (v := 2) hx hb dX4_notes_1 (by decide) ?_
  obtain ⟨z1, e_z1, h⟩ := bnd h
  refine roI (cc_X4_129 sv ga S hK hN hP e_z1 hl.1 (Nat.le_of_ble_eq_true rfl) ⟨Nat.le_of_ble_eq_true rfl, Nat.le_of_ble_eq_true rfl⟩ dX4_notes_2 ⟨Nat.le_of_ble_eq_true rfl, Nat.le_of_ble_eq_true rfl⟩) ?_
  exact retR hQ S hr hlocks h dX4_notes_5

theorem cc_X4_188 {p : Program} {l : Launch} {e : Env} {R : Room} {s : State} {m : MethodId} {args : Array Value} {below : List Frame} {meth : Method} {c : Code} {H : Heap} {locs : List Loc} {cells slots : Nat} {cc : ByteArray} {pc nL : Nat} {ls : Array Slot} {rest : List Value} {G : va_G} (g0 g1 g2 g3 g4 : Nat) {cI cS : ClassId} {u : TP}  {p0 : Int32} {r : Int32} (S : CallFix p m c cc nL s args bw RX4) (hK : va_K G vwCl (tysW cI cS) s) (hN : NW s) (hP : va_P G vwCl (wP cI g0 g1 g2 g3 g4 u) H) (hf : fX2_sizeOfRecords u p0 = some r) (hsz : ls.size = nL) (hst : (rest.map fun v => v.category).sum ≤ 8) (hR : rmX2_sizeOfRecords.frames + 1 ≤ R.frames ∧ 8 + (2 + 11) + rmX2_sizeOfRecords.locals ≤ R.locals) (hdg : decode cc pc = .ok (.invokevirtual 188, 3)) (hcs : cells + 0 ≤ R.cells ∧ slots + 0 ≤ R.slots) : va_Run p l e R s m args below meth c H locs cells slots 0 0 (F0 m pc ls (.int p0 :: .ref g0 :: rest)) rest (vp_Si (fun r' => r' = r) (#[.ref g0, .int p0] : Array Value)) (fun _ => False) :=
  va_runVN (As := [.int p0]) (rest := rest) S (kX2_sizeOfRecords l G cI cS g0 g1 g2 g3 g4 u p0 r hf) ⟨va_cnB 1 S.2.2.2.2 (gdC q_52) rfl rfl rfl (hN _ nq_28) (S.2.2.2.2 _ q_56) (by decide +kernel) hR, S.2.2.2.2 _ q_294, S.2.2.2.2 _ q_295⟩ (pvR (q := (RX2, TX2, 2)) hK hN hP (ci := 2) (q0 := 0) rfl rfl) rfl rfl hsz rfl (lv_room hst) hdg hcs
def fX4_fillFactor_s16 (u : TH) (x1 : Int32) (x2 : Int32) : Option ((Int32 × Int32) ⊕ (Int32)) := (if u.1.1.1.1 ≤ x2 then some (.inr x1) else ((fX2_sizeOfRecords u.1 x2).bind fun z2 => some (.inl ((x1 + z2), (x2 + 1)))))
def fX4_fillFactor (u : TH) : Option (UInt64) := (if 0 < u.1.1.1.1 then ((itr (fun a : Int32 × Int32 => fX4_fillFactor_s16 u a.1 a.2) FU ((0 : Int32), (0 : Int32))).bind fun b4 => ((nf64 (FP.ddiv (FP.i2d b4) (FP.i2d ((128 : Int32) * u.1.1.1.1)))).bind fun z5 => some z5)) else some FP.dconst0)
abbrev rmX4_fillFactor : Room := { frames := 3, cells := 0, slots := 0, locals := 68 }
set_option maxRecDepth 100000 in
set_option maxHeartbeats 4000000 in
theorem kX4_fillFactor (l : Launch) (G : va_G) (cI cS : ClassId) (sv : Nat) (ga : Nat → Nat) (u : TH) (r : UInt64) (hf : fX4_fillFactor u = some r) : Met l yX4_fillFactor (.code yX4_fillFactor cX4_fillFactor 3 (some .double) :: bw) rmX4_fillFactor (va_Pc [.ref (ga 0)] (PreR G (tysW cI cS) (wH cI sv ga u))) (vp_Sd (fun r' => r' = r)) 0 0 (fun _ => False) := by
  refine enterG (own := RX4) (by decide) rfl (Nat.le_of_ble_eq_true rfl) ?_
  intro p e s m args below meth c Q hQ S hr hlocks hP hK hN ls hl
  have hx := S.1; have hb := S.2.1; have hml := S.2.2.1; have hown := S.2.2.2.1; have hq := S.2.2.2.2
  have hl : lv_has ls 3 [(0, .ref (ga 0))] := hl
  have h := hf
  unfold fX4_fillFactor at h
  have L16 : ∀ (n9 : Nat) (a9 : Int32 × Int32) (b9 : Int32), itr (fun a : Int32 × Int32 => fX4_fillFactor_s16 u a.1 a.2) n9 a9 = some b9 → (fun b : Int32 => ∀ ls : Array Slot, lv_has ls 3 [(0, .ref (ga 0)), (1, .int b)] → W p l e rmX4_fillFactor s m args below meth c s.heap [] 0 0 Q (F0 m 44 ls [])) b9 → (fun a : Int32 × Int32 => ∀ ls : Array Slot, lv_has ls 3 [(0, .ref (ga 0)), (1, .int a.1), (2, .int a.2)] → W p l e rmX4_fillFactor s m args below meth c s.heap [] 0 0 Q (F0 m 16 ls [])) a9 := by
    refine itr_ind (Inv := (fun a : Int32 × Int32 => ∀ ls : Array Slot, lv_has ls 3 [(0, .ref (ga 0)), (1, .int a.1), (2, .int a.2)] → W p l e rmX4_fillFactor s m args below meth c s.heap [] 0 0 Q (F0 m 16 ls []))) (Ex := (fun b : Int32 => ∀ ls : Array Slot, lv_has ls 3 [(0, .ref (ga 0)), (1, .int b)] → W p l e rmX4_fillFactor s m args below meth c s.heap [] 0 0 Q (F0 m 44 ls []))) ?_
    rintro ⟨x1, x2⟩ z h hI hE
    have h : fX4_fillFactor_s16 u x1 x2 = some z := h
    unfold fX4_fillFactor_s16 at h
    show ∀ ls : Array Slot, lv_has ls 3 [(0, .ref (ga 0)), (1, .int x1), (2, .int x2)] → W p l e rmX4_fillFactor s m args below meth c s.heap [] 0 0 Q (F0 m 16 ls [])
    intro ls hl
    refine lv_iload_n hx hb dX4_fillFactor_16 rfl (lv_at hl 2 rfl) ?_
    refine lv_aload_n hx hb dX4_fillFactor_17 rfl (lv_at hl 0 rfl) ?_
    refine gf_X4_20 S hK hN hP 0 rfl (v := .ref (ga 2)) rfl dX4_fillFactor_18 ?_
    refine gf_X4_143 S hK hN hP 2 rfl (v := .int u.1.1.1.1) rfl dX4_fillFactor_21 ?_
    refine lv_icmp_ge (tgt := 44) hx hb dX4_fillFactor_24 (by decide) (fun c1 => ?_) (fun c1 => ?_)
    · have h := (if_pos c1).symm.trans h
      exact hE _ (Option.some.inj h) _ (lv_sub hl [0, 1] rfl)
    · have h := (if_neg c1).symm.trans h
      refine lv_iload_n hx hb dX4_fillFactor_27 rfl (lv_at hl 1 rfl) ?_
      refine lv_aload_n hx hb dX4_fillFactor_28 rfl (lv_at hl 0 rfl) ?_
      refine gf_X4_12 S hK hN hP 0 rfl (v := .ref (ga 1)) rfl dX4_fillFactor_29 ?_
      refine lv_iload_n hx hb dX4_fillFactor_32 rfl (lv_at hl 2 rfl) ?_
      obtain ⟨z2, e_z2, h⟩ := bnd h
      refine roI (cc_X4_188 (ga 1) (ga 2) (ga 3) (ga 4) (ga 5) S hK hN (hP.sub [1, 2, 3, 4, 5] rfl) e_z2 hl.1 (Nat.le_of_ble_eq_true rfl) ⟨Nat.le_of_ble_eq_true rfl, Nat.le_of_ble_eq_true rfl⟩ dX4_fillFactor_33 ⟨Nat.le_of_ble_eq_true rfl, Nat.le_of_ble_eq_true rfl⟩) ?_
      refine lv_iadd hx hb dX4_fillFactor_36 ?_
      refine lv_istore_n (lv' := [(1, .int (x1 + z2)), (0, .ref (ga 0)), (2, .int x2)]) hx hb dX4_fillFactor_37 rfl hl (by decide) rfl (fun ls hl => ?_)
      refine lv_iinc (v := (x2 + 1)) (lv' := [(2, .int (x2 + 1)), (1, .int (x1 + z2)), (0, .ref (ga 0))]) hx hb dX4_fillFactor_38 hl (k := 2) rfl rfl (by decide) rfl (fun ls hl => ?_)
      refine lv_goto (tgt := 16) hx hb dX4_fillFactor_41 (by decide) ?_
      exact hI _ (Option.some.inj h) _ (lv_sub hl [2, 1, 0] rfl)
  refine lv_aload_n hx hb dX4_fillFactor_0 rfl (lv_at hl 0 rfl) ?_
  refine gf_X4_20 S hK hN hP 0 rfl (v := .ref (ga 2)) rfl dX4_fillFactor_1 ?_
  refine gf_X4_143 S hK hN hP 2 rfl (v := .int u.1.1.1.1) rfl dX4_fillFactor_4 ?_
  refine lv_if_gt (tgt := 12) hx hb dX4_fillFactor_7 (by decide) (fun c3 => ?_) (fun c3 => ?_)
  · have h := (if_pos c3).symm.trans h
    refine lv_iconst (v := 0) hx hb dX4_fillFactor_12 (by decide) ?_
    refine lv_istore_n (lv' := [(1, .int (0 : Int32)), (0, .ref (ga 0))]) hx hb dX4_fillFactor_13 rfl hl (by decide) rfl (fun ls hl => ?_)
    refine lv_iconst (v := 0) hx hb dX4_fillFactor_14 (by decide) ?_
    refine lv_istore_n (lv' := [(2, .int (0 : Int32)), (1, .int (0 : Int32)), (0, .ref (ga 0))]) hx hb dX4_fillFactor_15 rfl hl (by decide) rfl (fun ls hl => ?_)
    obtain ⟨b4, e_b4, h⟩ := bnd h
    refine L16 _ _ _ e_b4 ?_ _ (lv_sub hl [2, 1, 0] rfl)
    intro ls hl
    refine lv_iload_n hx hb dX4_fillFactor_44 rfl (lv_at hl 1 rfl) ?_
    refine lv_i2d hx hb dX4_fillFactor_45 ?_
    refine lv_sipush (v := 128) hx hb dX4_fillFactor_46 (by decide) ?_
    refine lv_aload_n hx hb dX4_fillFactor_49 rfl (lv_at hl 0 rfl) ?_
    refine gf_X4_20 S hK hN hP 0 rfl (v := .ref (ga 2)) rfl dX4_fillFactor_50 ?_
    refine gf_X4_143 S hK hN hP 2 rfl (v := .int u.1.1.1.1) rfl dX4_fillFactor_53 ?_
    refine lv_imul hx hb dX4_fillFactor_56 ?_
    refine lv_i2d hx hb dX4_fillFactor_57 ?_
    obtain ⟨z5, e_z5, h⟩ := bnd h
    refine ddO hx hb e_z5 dX4_fillFactor_58 ?_
    exact retRd hQ S hr hlocks h dX4_fillFactor_59
  · have h := (if_neg c3).symm.trans h
    refine lv_dconst0 hx hb dX4_fillFactor_10 ?_
    exact retRd hQ S hr hlocks h dX4_fillFactor_11

theorem cc_X4_191 {p : Program} {l : Launch} {e : Env} {R : Room} {s : State} {m : MethodId} {args : Array Value} {below : List Frame} {meth : Method} {c : Code} {H : Heap} {locs : List Loc} {cells slots : Nat} {cc : ByteArray} {pc nL : Nat} {ls : Array Slot} {rest : List Value} {G : va_G}  {cI cS : ClassId}  {p0 : Int32} {r : Unit} (S : CallFix p m c cc nL s args bw RX4) (hK : va_K G vwCl (tysW cI cS) s) (hN : NW s) (hP : va_P G vwCl wE H) (hf : fX4_requireLength p0 = some r) (hsz : ls.size = nL) (hst : (rest.map fun v => v.category).sum ≤ 8) (hR : rmX4_requireLength.frames + 1 ≤ R.frames ∧ 8 + (1 + 11) + rmX4_requireLength.locals ≤ R.locals) (hdg : decode cc pc = .ok (.invokestatic 191, 3)) (hcs : cells + 0 ≤ R.cells ∧ slots + 0 ≤ R.slots) : va_Run p l e R s m args below meth c H locs cells slots 0 0 (F0 m pc ls (.int p0 :: rest)) rest (vw_Sv (#[.int p0] : Array Value)) (fun _ => False) :=
  va_runS (As := [.int p0]) (rest := rest) S (kX4_requireLength l G cI cS p0 r hf) (cwS 1 S.2.2.2.2 (gdS q_297 q_298 q_49 q_296) rfl rfl rfl (by decide +kernel) hR) (psR hK hN hP) rfl rfl hsz rfl (lv_room hst) hdg hcs
def fX4_ifInserted (u : TH) (p0 : Int32) : Option (Int32) := ((fX4_requireLength p0).bind fun z1 => ((fX4_homeSize p0).bind fun z2 => ((fX2_findPage u.1 z2 ((-1) : Int32) ((-1) : Int32)).bind fun z3 => (if z3 = ((-1) : Int32) then some ((-1) : Int32) else ((fX2_slotToUse u.1 z3).bind fun z5 => ((fX4_placeAt z3 z5).bind fun z6 => some z6))))))
abbrev rmX4_ifInserted : Room := { frames := 4, cells := 0, slots := 0, locals := 94 }
set_option maxRecDepth 100000 in
set_option maxHeartbeats 4000000 in
theorem kX4_ifInserted (l : Launch) (G : va_G) (cI cS : ClassId) (sv : Nat) (ga : Nat → Nat) (u : TH) (p0 : Int32) (r : Int32) (hf : fX4_ifInserted u p0 = some r) : Met l yX4_ifInserted (.code yX4_ifInserted cX4_ifInserted 3 (some .int) :: bw) rmX4_ifInserted (va_Pc [.ref (ga 0), .int p0] (PreR G (tysW cI cS) (wH cI sv ga u))) (vp_Si (fun r' => r' = r)) 0 0 (fun _ => False) := by
  refine enterR (own := RX4) (by decide) rfl rfl (Nat.le_of_ble_eq_true rfl) ?_
  intro p e s m args below meth c Q hQ S hr hlocks hP hK hN ls hl
  have hx := S.1; have hb := S.2.1; have hml := S.2.2.1; have hown := S.2.2.2.1; have hq := S.2.2.2.2
  have hl : lv_has ls 3 [(0, .ref (ga 0)), (1, .int p0)] := hl
  have h := hf
  unfold fX4_ifInserted at h
  refine lv_iload_n hx hb dX4_ifInserted_0 rfl (lv_at hl 1 rfl) ?_
  obtain ⟨z1, e_z1, h⟩ := bnd h
  refine roV (cc_X4_191 S hK hN va_P0 e_z1 hl.1 (Nat.le_of_ble_eq_true rfl) ⟨Nat.le_of_ble_eq_true rfl, Nat.le_of_ble_eq_true rfl⟩ dX4_ifInserted_1 ⟨Nat.le_of_ble_eq_true rfl, Nat.le_of_ble_eq_true rfl⟩) ?_
  refine lv_aload_n hx hb dX4_ifInserted_4 rfl (lv_at hl 0 rfl) ?_
  refine gf_X4_12 S hK hN hP 0 rfl (v := .ref (ga 1)) rfl dX4_ifInserted_5 ?_
  refine lv_iload_n hx hb dX4_ifInserted_8 rfl (lv_at hl 1 rfl) ?_
  obtain ⟨z2, e_z2, h⟩ := bnd h
  refine roI (cc_X4_78 S hK hN va_P0 e_z2 hl.1 (Nat.le_of_ble_eq_true rfl) ⟨Nat.le_of_ble_eq_true rfl, Nat.le_of_ble_eq_true rfl⟩ dX4_ifInserted_9 ⟨Nat.le_of_ble_eq_true rfl, Nat.le_of_ble_eq_true rfl⟩) ?_
  refine lv_iconst (v := (-1)) hx hb dX4_ifInserted_12 (by decide) ?_
  refine lv_iconst (v := (-1)) hx hb dX4_ifInserted_13 (by decide) ?_
  obtain ⟨z3, e_z3, h⟩ := bnd h
  refine roI (cc_X4_82 (ga 1) (ga 2) (ga 3) (ga 4) (ga 5) S hK hN (hP.sub [1, 2, 3, 4, 5] rfl) e_z3 hl.1 (Nat.le_of_ble_eq_true rfl) ⟨Nat.le_of_ble_eq_true rfl, Nat.le_of_ble_eq_true rfl⟩ dX4_ifInserted_14 ⟨Nat.le_of_ble_eq_true rfl, Nat.le_of_ble_eq_true rfl⟩) ?_
  refine lv_istore_n (lv' := [(2, .int z3), (0, .ref (ga 0)), (1, .int p0)]) hx hb dX4_ifInserted_17 rfl hl (by decide) rfl (fun ls hl => ?_)
  refine lv_iload_n hx hb dX4_ifInserted_18 rfl (lv_at hl 0 rfl) ?_
  refine lv_iconst (v := (-1)) hx hb dX4_ifInserted_19 (by decide) ?_
  refine lv_icmp_ne (tgt := 27) hx hb dX4_ifInserted_20 (by decide) (fun c4 => ?_) (fun c4 => ?_)
  · have h := (if_neg c4).symm.trans h
    refine lv_iload_n hx hb dX4_ifInserted_27 rfl (lv_at hl 0 rfl) ?_
    refine lv_aload_n hx hb dX4_ifInserted_28 rfl (lv_at hl 1 rfl) ?_
    refine gf_X4_12 S hK hN hP 0 rfl (v := .ref (ga 1)) rfl dX4_ifInserted_29 ?_
    refine lv_iload_n hx hb dX4_ifInserted_32 rfl (lv_at hl 0 rfl) ?_
    obtain ⟨z5, e_z5, h⟩ := bnd h
    refine roI (cc_X4_194 (ga 1) (ga 2) (ga 3) (ga 4) (ga 5) S hK hN (hP.sub [1, 2, 3, 4, 5] rfl) e_z5 hl.1 (Nat.le_of_ble_eq_true rfl) ⟨Nat.le_of_ble_eq_true rfl, Nat.le_of_ble_eq_true rfl⟩ dX4_ifInserted_33 ⟨Nat.le_of_ble_eq_true rfl, Nat.le_of_ble_eq_true rfl⟩) ?_
    obtain ⟨z6, e_z6, h⟩ := bnd h
    refine roI (cc_X4_149 S hK hN va_P0 e_z6 hl.1 (Nat.le_of_ble_eq_true rfl) ⟨Nat.le_of_ble_eq_true rfl, Nat.le_of_ble_eq_true rfl⟩ dX4_ifInserted_36 ⟨Nat.le_of_ble_eq_true rfl, Nat.le_of_ble_eq_true rfl⟩) ?_
    exact retR hQ S hr hlocks h dX4_ifInserted_39
  · have h := (if_pos c4).symm.trans h
    refine lv_iconst (v := (-1)) hx hb dX4_ifInserted_23 (by decide) ?_
    refine lv_goto (tgt := 39) hx hb dX4_ifInserted_24 (by decide) ?_
    exact retR hQ S hr hlocks h dX4_ifInserted_39

def fX4_ifUpdated (u : TH) (p0 : Int32) (p1 : Int32) : Option (Int32) := ((fX4_requireRow u p0).bind fun z1 => ((fX4_requireLength p1).bind fun z2 => ((fX4_wayToChange u p0 p1).bind fun z3 => some z3)))
abbrev rmX4_ifUpdated : Room := { frames := 5, cells := 0, slots := 0, locals := 118 }
set_option maxRecDepth 100000 in
set_option maxHeartbeats 4000000 in
theorem kX4_ifUpdated (l : Launch) (G : va_G) (cI cS : ClassId) (sv : Nat) (ga : Nat → Nat) (u : TH) (p0 : Int32) (p1 : Int32) (r : Int32) (hf : fX4_ifUpdated u p0 p1 = some r) : Met l yX4_ifUpdated (.code yX4_ifUpdated cX4_ifUpdated 3 (some .int) :: bw) rmX4_ifUpdated (va_Pc [.ref (ga 0), .int p0, .int p1] (PreR G (tysW cI cS) (wH cI sv ga u))) (vp_Si (fun r' => r' = r)) 0 0 (fun _ => False) := by
  refine enterR (own := RX4) (by decide) rfl rfl (Nat.le_of_ble_eq_true rfl) ?_
  intro p e s m args below meth c Q hQ S hr hlocks hP hK hN ls hl
  have hx := S.1; have hb := S.2.1; have hml := S.2.2.1; have hown := S.2.2.2.1; have hq := S.2.2.2.2
  have hl : lv_has ls 3 [(0, .ref (ga 0)), (1, .int p0), (2, .int p1)] := hl
  have h := hf
  unfold fX4_ifUpdated at h
  refine lv_aload_n hx hb dX4_ifUpdated_0 rfl (lv_at hl 0 rfl) ?_
  refine lv_iload_n hx hb dX4_ifUpdated_1 rfl (lv_at hl 1 rfl) ?_
  obtain ⟨z1, e_z1, h⟩ := bnd h
  refine roV (cc_X4_98 sv ga S hK hN hP e_z1 hl.1 (Nat.le_of_ble_eq_true rfl) ⟨Nat.le_of_ble_eq_true rfl, Nat.le_of_ble_eq_true rfl⟩ dX4_ifUpdated_2 ⟨Nat.le_of_ble_eq_true rfl, Nat.le_of_ble_eq_true rfl⟩) ?_
  refine lv_iload_n hx hb dX4_ifUpdated_5 rfl (lv_at hl 2 rfl) ?_
  obtain ⟨z2, e_z2, h⟩ := bnd h
  refine roV (cc_X4_191 S hK hN va_P0 e_z2 hl.1 (Nat.le_of_ble_eq_true rfl) ⟨Nat.le_of_ble_eq_true rfl, Nat.le_of_ble_eq_true rfl⟩ dX4_ifUpdated_6 ⟨Nat.le_of_ble_eq_true rfl, Nat.le_of_ble_eq_true rfl⟩) ?_
  refine lv_aload_n hx hb dX4_ifUpdated_9 rfl (lv_at hl 0 rfl) ?_
  refine lv_iload_n hx hb dX4_ifUpdated_10 rfl (lv_at hl 1 rfl) ?_
  refine lv_iload_n hx hb dX4_ifUpdated_11 rfl (lv_at hl 2 rfl) ?_
  obtain ⟨z3, e_z3, h⟩ := bnd h
  refine roI (cc_X4_101 sv ga S hK hN hP e_z3 hl.1 (Nat.le_of_ble_eq_true rfl) ⟨Nat.le_of_ble_eq_true rfl, Nat.le_of_ble_eq_true rfl⟩ dX4_ifUpdated_12 ⟨Nat.le_of_ble_eq_true rfl, Nat.le_of_ble_eq_true rfl⟩) ?_
  exact retR hQ S hr hlocks h dX4_ifUpdated_15

def fX4_greatestAtHome (u : TH) (p0 : Int32) : Option (Int32) := ((fX4_requireRow u p0).bind fun z1 => ((fX4_roomToReplace u p0).bind fun z2 => some (if (z2 - (1 : Int32)) < (60 : Int32) then (z2 - (1 : Int32)) else (60 : Int32))))
abbrev rmX4_greatestAtHome : Room := { frames := 5, cells := 0, slots := 0, locals := 113 }
set_option maxRecDepth 100000 in
set_option maxHeartbeats 4000000 in
theorem kX4_greatestAtHome (l : Launch) (G : va_G) (cI cS : ClassId) (sv : Nat) (ga : Nat → Nat) (u : TH) (p0 : Int32) (r : Int32) (hf : fX4_greatestAtHome u p0 = some r) : Met l yX4_greatestAtHome (.code yX4_greatestAtHome cX4_greatestAtHome 2 (some .int) :: bw) rmX4_greatestAtHome (va_Pc [.ref (ga 0), .int p0] (PreR G (tysW cI cS) (wH cI sv ga u))) (vp_Si (fun r' => r' = r)) 0 0 (fun _ => False) := by
  refine enterR (own := RX4) (by decide) rfl rfl (Nat.le_of_ble_eq_true rfl) ?_
  intro p e s m args below meth c Q hQ S hr hlocks hP hK hN ls hl
  have hx := S.1; have hb := S.2.1; have hml := S.2.2.1; have hown := S.2.2.2.1; have hq := S.2.2.2.2
  have hl : lv_has ls 2 [(0, .ref (ga 0)), (1, .int p0)] := hl
  have h := hf
  unfold fX4_greatestAtHome at h
  refine lv_aload_n hx hb dX4_greatestAtHome_0 rfl (lv_at hl 0 rfl) ?_
  refine lv_iload_n hx hb dX4_greatestAtHome_1 rfl (lv_at hl 1 rfl) ?_
  obtain ⟨z1, e_z1, h⟩ := bnd h
  refine roV (cc_X4_98 sv ga S hK hN hP e_z1 hl.1 (Nat.le_of_ble_eq_true rfl) ⟨Nat.le_of_ble_eq_true rfl, Nat.le_of_ble_eq_true rfl⟩ dX4_greatestAtHome_2 ⟨Nat.le_of_ble_eq_true rfl, Nat.le_of_ble_eq_true rfl⟩) ?_
  refine lv_bipush (v := 60) hx hb dX4_greatestAtHome_5 (by decide) ?_
  refine lv_aload_n hx hb dX4_greatestAtHome_7 rfl (lv_at hl 0 rfl) ?_
  refine lv_iload_n hx hb dX4_greatestAtHome_8 rfl (lv_at hl 1 rfl) ?_
  obtain ⟨z2, e_z2, h⟩ := bnd h
  refine roI (cc_X4_197 sv ga S hK hN hP e_z2 hl.1 (Nat.le_of_ble_eq_true rfl) ⟨Nat.le_of_ble_eq_true rfl, Nat.le_of_ble_eq_true rfl⟩ dX4_greatestAtHome_9 ⟨Nat.le_of_ble_eq_true rfl, Nat.le_of_ble_eq_true rfl⟩) ?_
  refine lv_iconst (v := 1) hx hb dX4_greatestAtHome_12 (by decide) ?_
  refine lv_isub hx hb dX4_greatestAtHome_13 ?_
  refine va_mmin hx hb (by rw [hml]; exact hl.1.symm) hown (hq _ q_301) (hq _ q_78) (hq _ q_6) (hq _ q_79) (Nat.le_of_ble_eq_true rfl) (Nat.le_of_ble_eq_true rfl) (Nat.le_of_ble_eq_true rfl) (Nat.le_of_ble_eq_true rfl) dX4_greatestAtHome_14 ?_
  exact retR hQ S hr hlocks h dX4_greatestAtHome_17

theorem cc_X4_205 {p : Program} {l : Launch} {e : Env} {R : Room} {s : State} {m : MethodId} {args : Array Value} {below : List Frame} {meth : Method} {c : Code} {H : Heap} {locs : List Loc} {cells slots : Nat} {cc : ByteArray} {pc nL : Nat} {ls : Array Slot} {rest : List Value} {G : va_G} (g0 g1 g2 g3 g4 : Nat) {cI cS : ClassId} {u : TP}  {p0 : Int32} {p1 : Int32} {r : Int32} (S : CallFix p m c cc nL s args bw RX4) (hK : va_K G vwCl (tysW cI cS) s) (hN : NW s) (hP : va_P G vwCl (wP cI g0 g1 g2 g3 g4 u) H) (hf : fX2_recordsThatFit u p0 p1 = some r) (hsz : ls.size = nL) (hst : (rest.map fun v => v.category).sum ≤ 8) (hR : rmX2_recordsThatFit.frames + 1 ≤ R.frames ∧ 8 + (8 + 11) + rmX2_recordsThatFit.locals ≤ R.locals) (hdg : decode cc pc = .ok (.invokevirtual 205, 3)) (hcs : cells + 0 ≤ R.cells ∧ slots + 0 ≤ R.slots) : va_Run p l e R s m args below meth c H locs cells slots 0 0 (F0 m pc ls (.int p1 :: .int p0 :: .ref g0 :: rest)) rest (vp_Si (fun r' => r' = r) (#[.ref g0, .int p0, .int p1] : Array Value)) (fun _ => False) :=
  va_runVN (As := [.int p0, .int p1]) (rest := rest) S (kX2_recordsThatFit l G cI cS g0 g1 g2 g3 g4 u p0 p1 r hf) ⟨va_cnB 2 S.2.2.2.2 (gdC q_74) rfl rfl rfl (hN _ nq_30) (S.2.2.2.2 _ q_56) (by decide +kernel) hR, S.2.2.2.2 _ q_303, S.2.2.2.2 _ q_304⟩ (pvR (q := (RX2, TX2, 2)) hK hN hP (ci := 2) (q0 := 0) rfl rfl) rfl rfl hsz rfl (lv_room hst) hdg hcs
def fX4_capacity_s14 (u : TH) (x2 : Int32) (x3 : Int32) (x4 : Int32) : Option ((Int32 × Int32 × Int32) ⊕ (Int32)) := (if (8 : Int32) ≤ x4 then some (.inr x3) else ((fX2_recordsThatFit u.1 x4 x2).bind fun z2 => some (.inl (x2, (x3 + z2), (x4 + 1)))))
def fX4_capacity (u : TH) (p0 : Int32) : Option (Int32) := ((fX4_requireLength p0).bind fun z3 => ((fX4_homeSize p0).bind fun z4 => ((itr (fun a : Int32 × Int32 × Int32 => fX4_capacity_s14 u a.1 a.2.1 a.2.2) FU (z4, (0 : Int32), (0 : Int32))).bind fun b5 => some b5)))
abbrev rmX4_capacity : Room := { frames := 3, cells := 0, slots := 0, locals := 74 }
set_option maxRecDepth 100000 in
set_option maxHeartbeats 4000000 in
theorem kX4_capacity (l : Launch) (G : va_G) (cI cS : ClassId) (sv : Nat) (ga : Nat → Nat) (u : TH) (p0 : Int32) (r : Int32) (hf : fX4_capacity u p0 = some r) : Met l yX4_capacity (.code yX4_capacity cX4_capacity 5 (some .int) :: bw) rmX4_capacity (va_Pc [.ref (ga 0), .int p0] (PreR G (tysW cI cS) (wH cI sv ga u))) (vp_Si (fun r' => r' = r)) 0 0 (fun _ => False) := by
  refine enterR (own := RX4) (by decide) rfl rfl (Nat.le_of_ble_eq_true rfl) ?_
  intro p e s m args below meth c Q hQ S hr hlocks hP hK hN ls hl
  have hx := S.1; have hb := S.2.1; have hml := S.2.2.1; have hown := S.2.2.2.1; have hq := S.2.2.2.2
  have hl : lv_has ls 5 [(0, .ref (ga 0)), (1, .int p0)] := hl
  have h := hf
  unfold fX4_capacity at h
  have L14 : ∀ (n9 : Nat) (a9 : Int32 × Int32 × Int32) (b9 : Int32), itr (fun a : Int32 × Int32 × Int32 => fX4_capacity_s14 u a.1 a.2.1 a.2.2) n9 a9 = some b9 → (fun b : Int32 => ∀ ls : Array Slot, lv_has ls 5 [(3, .int b)] → W p l e rmX4_capacity s m args below meth c s.heap [] 0 0 Q (F0 m 40 ls [])) b9 → (fun a : Int32 × Int32 × Int32 => ∀ ls : Array Slot, lv_has ls 5 [(0, .ref (ga 0)), (2, .int a.1), (3, .int a.2.1), (4, .int a.2.2)] → W p l e rmX4_capacity s m args below meth c s.heap [] 0 0 Q (F0 m 14 ls [])) a9 := by
    refine itr_ind (Inv := (fun a : Int32 × Int32 × Int32 => ∀ ls : Array Slot, lv_has ls 5 [(0, .ref (ga 0)), (2, .int a.1), (3, .int a.2.1), (4, .int a.2.2)] → W p l e rmX4_capacity s m args below meth c s.heap [] 0 0 Q (F0 m 14 ls []))) (Ex := (fun b : Int32 => ∀ ls : Array Slot, lv_has ls 5 [(3, .int b)] → W p l e rmX4_capacity s m args below meth c s.heap [] 0 0 Q (F0 m 40 ls []))) ?_
    rintro ⟨x2, x3, x4⟩ z h hI hE
    have h : fX4_capacity_s14 u x2 x3 x4 = some z := h
    unfold fX4_capacity_s14 at h
    show ∀ ls : Array Slot, lv_has ls 5 [(0, .ref (ga 0)), (2, .int x2), (3, .int x3), (4, .int x4)] → W p l e rmX4_capacity s m args below meth c s.heap [] 0 0 Q (F0 m 14 ls [])
    intro ls hl
    refine lv_iload hx hb dX4_capacity_14 (lv_at hl 3 rfl) ?_
    refine lv_bipush (v := 8) hx hb dX4_capacity_16 (by decide) ?_
    refine lv_icmp_ge (tgt := 40) hx hb dX4_capacity_18 (by decide) (fun c1 => ?_) (fun c1 => ?_)
    · have h := (if_pos c1).symm.trans h
      exact hE _ (Option.some.inj h) _ (lv_sub hl [2] rfl)
    · have h := (if_neg c1).symm.trans h
      refine lv_iload_n hx hb dX4_capacity_21 rfl (lv_at hl 2 rfl) ?_
      refine lv_aload_n hx hb dX4_capacity_22 rfl (lv_at hl 0 rfl) ?_
      refine gf_X4_12 S hK hN hP 0 rfl (v := .ref (ga 1)) rfl dX4_capacity_23 ?_
      refine lv_iload hx hb dX4_capacity_26 (lv_at hl 3 rfl) ?_
      refine lv_iload_n hx hb dX4_capacity_28 rfl (lv_at hl 1 rfl) ?_
      obtain ⟨z2, e_z2, h⟩ := bnd h
      refine roI (cc_X4_205 (ga 1) (ga 2) (ga 3) (ga 4) (ga 5) S hK hN (hP.sub [1, 2, 3, 4, 5] rfl) e_z2 hl.1 (Nat.le_of_ble_eq_true rfl) ⟨Nat.le_of_ble_eq_true rfl, Nat.le_of_ble_eq_true rfl⟩ dX4_capacity_29 ⟨Nat.le_of_ble_eq_true rfl, Nat.le_of_ble_eq_true rfl⟩) ?_
      refine lv_iadd hx hb dX4_capacity_32 ?_
      refine lv_istore_n (lv' := [(3, .int (x3 + z2)), (0, .ref (ga 0)), (2, .int x2), (4, .int x4)]) hx hb dX4_capacity_33 rfl hl (by decide) rfl (fun ls hl => ?_)
      refine lv_iinc (v := (x4 + 1)) (lv' := [(4, .int (x4 + 1)), (3, .int (x3 + z2)), (0, .ref (ga 0)), (2, .int x2)]) hx hb dX4_capacity_34 hl (k := 3) rfl rfl (by decide) rfl (fun ls hl => ?_)
      refine lv_goto (tgt := 14) hx hb dX4_capacity_37 (by decide) ?_
      exact hI _ (Option.some.inj h) _ (lv_sub hl [2, 3, 1, 0] rfl)
  refine lv_iload_n hx hb dX4_capacity_0 rfl (lv_at hl 1 rfl) ?_
  obtain ⟨z3, e_z3, h⟩ := bnd h
  refine roV (cc_X4_191 S hK hN va_P0 e_z3 hl.1 (Nat.le_of_ble_eq_true rfl) ⟨Nat.le_of_ble_eq_true rfl, Nat.le_of_ble_eq_true rfl⟩ dX4_capacity_1 ⟨Nat.le_of_ble_eq_true rfl, Nat.le_of_ble_eq_true rfl⟩) ?_
  refine lv_iload_n hx hb dX4_capacity_4 rfl (lv_at hl 1 rfl) ?_
  obtain ⟨z4, e_z4, h⟩ := bnd h
  refine roI (cc_X4_78 S hK hN va_P0 e_z4 hl.1 (Nat.le_of_ble_eq_true rfl) ⟨Nat.le_of_ble_eq_true rfl, Nat.le_of_ble_eq_true rfl⟩ dX4_capacity_5 ⟨Nat.le_of_ble_eq_true rfl, Nat.le_of_ble_eq_true rfl⟩) ?_
  refine lv_istore_n (lv' := [(2, .int z4), (0, .ref (ga 0)), (1, .int p0)]) hx hb dX4_capacity_8 rfl hl (by decide) rfl (fun ls hl => ?_)
  refine lv_iconst (v := 0) hx hb dX4_capacity_9 (by decide) ?_
  refine lv_istore_n (lv' := [(3, .int (0 : Int32)), (2, .int z4), (0, .ref (ga 0)), (1, .int p0)]) hx hb dX4_capacity_10 rfl hl (by decide) rfl (fun ls hl => ?_)
  refine lv_iconst (v := 0) hx hb dX4_capacity_11 (by decide) ?_
  refine lv_istore (lv' := [(4, .int (0 : Int32)), (3, .int (0 : Int32)), (2, .int z4), (0, .ref (ga 0)), (1, .int p0)]) hx hb dX4_capacity_12 hl (by decide) rfl (fun ls hl => ?_)
  obtain ⟨b5, e_b5, h⟩ := bnd h
  refine L14 _ _ _ e_b5 ?_ _ (lv_sub hl [3, 2, 1, 0] rfl)
  intro ls hl
  refine lv_iload_n hx hb dX4_capacity_40 rfl (lv_at hl 0 rfl) ?_
  exact retR hQ S hr hlocks h dX4_capacity_41

def fX4_undo_j19 (u : THS) : Option (Int32 × THS) := none
def fX4_undo (u : THS) : Option (Int32 × THS) := (if u.1.2.2.2.2.2 ≤ 0 then fX4_undo_j19 u else (if u.1.2.2.2.2.2 ≤ (6 : Int32) then (if (u.1.2.2.2.2.2 - (1 : Int32)) = 0 then ((fX3_copyFrom (u.1.1.1, (u.2.1 0))).bind fun z4 => some ((u.1.2.2.2.2.2 - (1 : Int32)), ((z4.1, u.1.1.2), u.1.2.1, u.1.2.2.1, u.1.2.2.2.1, u.1.2.2.2.2.1, (u.1.2.2.2.2.2 - (1 : Int32))), (va_up u.2.1 0 z4.2), u.2.2)) else (if (u.1.2.2.2.2.2 - (1 : Int32)) = 1 then ((fX3_copyFrom (u.1.1.1, (u.2.1 1))).bind fun z6 => some ((u.1.2.2.2.2.2 - (1 : Int32)), ((z6.1, u.1.1.2), u.1.2.1, u.1.2.2.1, u.1.2.2.2.1, u.1.2.2.2.2.1, (u.1.2.2.2.2.2 - (1 : Int32))), (va_up u.2.1 1 z6.2), u.2.2)) else (if (u.1.2.2.2.2.2 - (1 : Int32)) = 2 then ((fX3_copyFrom (u.1.1.1, (u.2.1 2))).bind fun z8 => some ((u.1.2.2.2.2.2 - (1 : Int32)), ((z8.1, u.1.1.2), u.1.2.1, u.1.2.2.1, u.1.2.2.2.1, u.1.2.2.2.2.1, (u.1.2.2.2.2.2 - (1 : Int32))), (va_up u.2.1 2 z8.2), u.2.2)) else (if (u.1.2.2.2.2.2 - (1 : Int32)) = 3 then ((fX3_copyFrom (u.1.1.1, (u.2.1 3))).bind fun z10 => some ((u.1.2.2.2.2.2 - (1 : Int32)), ((z10.1, u.1.1.2), u.1.2.1, u.1.2.2.1, u.1.2.2.2.1, u.1.2.2.2.2.1, (u.1.2.2.2.2.2 - (1 : Int32))), (va_up u.2.1 3 z10.2), u.2.2)) else (if (u.1.2.2.2.2.2 - (1 : Int32)) = 4 then ((fX3_copyFrom (u.1.1.1, (u.2.1 4))).bind fun z12 => some ((u.1.2.2.2.2.2 - (1 : Int32)), ((z12.1, u.1.1.2), u.1.2.1, u.1.2.2.1, u.1.2.2.2.1, u.1.2.2.2.2.1, (u.1.2.2.2.2.2 - (1 : Int32))), (va_up u.2.1 4 z12.2), u.2.2)) else (if (u.1.2.2.2.2.2 - (1 : Int32)) = 5 then ((fX3_copyFrom (u.1.1.1, (u.2.1 5))).bind fun z14 => some ((u.1.2.2.2.2.2 - (1 : Int32)), ((z14.1, u.1.1.2), u.1.2.1, u.1.2.2.1, u.1.2.2.2.1, u.1.2.2.2.2.1, (u.1.2.2.2.2.2 - (1 : Int32))), (va_up u.2.1 5 z14.2), u.2.2)) else none)))))) else fX4_undo_j19 u))
abbrev rmX4_undo : Room := { frames := 2, cells := 0, slots := 0, locals := 81 }
set_option maxRecDepth 100000 in
set_option maxHeartbeats 4000000 in
theorem kX4_undo (l : Launch) (G : va_G) (cI cS : ClassId) (sv : Nat) (ga : Nat → Nat) (sz : Nat) (u : THS) (r : Int32 × THS) (hf : fX4_undo u = some r) : Met l yX4_undo (.code yX4_undo cX4_undo 1 (some .int) :: bw) rmX4_undo (va_Pc [.ref (ga 0)] (PreM G (tysW cI cS) (wHS cI cS sv ga u) sz)) (va_Qi (fun r' u' => (r', u') = r) (PoM G (tysW cI cS) (va_A (wHS cI cS sv ga u) sz) (wHS cI cS sv ga)) (va_A (wHS cI cS sv ga u) sz)) 0 0 (va_A (wHS cI cS sv ga u) sz) := by
  refine enterM (own := RX4) (by decide) rfl (Nat.le_of_ble_eq_true rfl) ?_
  intro p e s m args below meth c A Q hAe hQ S hr hlocks hP hK hN hD hA hS ls hl
  rw [hAe] at hQ
  have hx := S.1; have hb := S.2.1; have hml := S.2.2.1; have hown := S.2.2.2.1; have hq := S.2.2.2.2
  have hl : lv_has ls 1 [(0, .ref (ga 0))] := hl
  have h := hf
  unfold fX4_undo at h
  have J19 : ∀ (u : THS) , fX4_undo_j19 u = some r → ∀ (H : Heap) (locs : List Loc), va_P G vwCl (wHS cI cS sv ga u) H → va_D A (wHS cI cS sv ga u) → va_S A s.heap H locs → ∀ ls : Array Slot, lv_has ls 1 [] → W p l e rmX4_undo s m args below meth c H locs 0 0 Q (F0 m 19 ls []) := by
    intro u h
    unfold fX4_undo_j19 at h
    intro H locs hP hD hS ls hl
    cases h
  refine lv_aload_n hx hb dX4_undo_0 rfl (lv_at hl 0 rfl) ?_
  refine gf_X4_231 S hK hN hP 0 rfl (v := .int u.1.2.2.2.2.2) rfl dX4_undo_1 ?_
  refine lv_if_le (tgt := 19) hx hb dX4_undo_4 (by decide) (fun c1 => ?_) (fun c1 => ?_)
  · have h := (if_pos c1).symm.trans h
    exact J19 u h _ _ hP hD hS _ (lv_sub hl [] rfl)
  · have h := (if_neg c1).symm.trans h
    refine lv_aload_n hx hb dX4_undo_7 rfl (lv_at hl 0 rfl) ?_
    refine gf_X4_231 S hK hN hP 0 rfl (v := .int u.1.2.2.2.2.2) rfl dX4_undo_8 ?_
    refine lv_aload_n hx hb dX4_undo_11 rfl (lv_at hl 0 rfl) ?_
    refine gf_X4_45 S hK hN hP 0 rfl (v := .ref sv) rfl dX4_undo_12 ?_
    refine va_alen hx hb hK hP 13 1 rfl rfl (v := (6 : Int32)) rfl dX4_undo_15 ?_
    refine lv_icmp_le (tgt := 29) hx hb dX4_undo_16 (by decide) (fun c2 => ?_) (fun c2 => ?_)
    · have h := (if_pos c2).symm.trans h
      refine lv_aload_n hx hb dX4_undo_29 rfl (lv_at hl 0 rfl) ?_
      refine lv_dup hx hb dX4_undo_30 rfl ?_
      refine gf_X4_231 S hK hN hP 0 rfl (v := .int u.1.2.2.2.2.2) rfl dX4_undo_31 ?_
      refine lv_iconst (v := 1) hx hb dX4_undo_34 (by decide) ?_
      refine lv_isub hx hb dX4_undo_35 ?_
      refine pf_X4_231 S hK hN hP hD hS 0 rfl (Nat.le_of_ble_eq_true rfl) dX4_undo_36 (fun H locs hP hD hS => ?_)
      have hP : va_P G vwCl (wHS cI cS sv ga ((u.1.1, u.1.2.1, u.1.2.2.1, u.1.2.2.2.1, u.1.2.2.2.2.1, (u.1.2.2.2.2.2 - (1 : Int32))), u.2)) H := hP
      have hD : va_D A (wHS cI cS sv ga ((u.1.1, u.1.2.1, u.1.2.2.1, u.1.2.2.2.1, u.1.2.2.2.2.1, (u.1.2.2.2.2.2 - (1 : Int32))), u.2)) := hD
      refine lv_aload_n hx hb dX4_undo_39 rfl (lv_at hl 0 rfl) ?_
      refine gf_X4_20 S hK hN hP 0 rfl (v := .ref (ga 2)) rfl dX4_undo_40 ?_
      refine lv_aload_n hx hb dX4_undo_43 rfl (lv_at hl 0 rfl) ?_
      refine gf_X4_45 S hK hN hP 0 rfl (v := .ref sv) rfl dX4_undo_44 ?_
      refine lv_aload_n hx hb dX4_undo_47 rfl (lv_at hl 0 rfl) ?_
      refine gf_X4_231 S hK hN hP 0 rfl (v := .int (u.1.2.2.2.2.2 - (1 : Int32))) rfl dX4_undo_48 ?_
      by_cases c3 : (u.1.2.2.2.2.2 - (1 : Int32)) = 0
      · have h := (if_pos c3).symm.trans h
        refine aaO (f := (fun i => some (u.2.2.1 i))) (v := (u.2.2.1 0)) (ki := 0) hx hb hK hP 13 1 rfl rfl c3 (by decide) rfl dX4_undo_51 ?_
        obtain ⟨z4, e_z4, h⟩ := bnd h
        refine mjv (cc_X4_236 (ga 2) (ga 3) (u.2.2.1 0) (u.2.2.2 0) S hK hN (hP.sub [2, 3, 14, 15] rfl) (hD.sub [2, 3, 14, 15] (by decide) rfl) e_z4 hl.1 (Nat.le_of_ble_eq_true rfl) ⟨Nat.le_of_ble_eq_true rfl, Nat.le_of_ble_eq_true rfl⟩ dX4_undo_52 ⟨Nat.le_of_ble_eq_true rfl, Nat.le_of_ble_eq_true rfl⟩) hS hP hD hA [2, 3, 14, 15] [0, 1, 4, 5, 6, 7, 8, 9, 10, 11, 12, 13, 16, 17, 18, 19, 20, 21, 22, 23, 24, 25] rfl rfl (by decide) (by decide) [0, 1, 22, 23, 2, 3, 4, 5, 6, 7, 8, 9, 10, 11, 24, 25, 12, 13, 14, 15, 16, 17, 18, 19, 20, 21] (by decide) (wHS cI cS sv ga (((z4.1, u.1.1.2), u.1.2.1, u.1.2.2.1, u.1.2.2.2.1, u.1.2.2.2.2.1, (u.1.2.2.2.2.2 - (1 : Int32))), (va_up u.2.1 0 z4.2), u.2.2)) rfl (fun H locs hP hD hS => ?_)
        refine lv_aload_n hx hb dX4_undo_55 rfl (lv_at hl 0 rfl) ?_
        refine gf_X4_231 S hK hN hP 0 rfl (v := .int (u.1.2.2.2.2.2 - (1 : Int32))) rfl dX4_undo_56 ?_
        exact retMi hQ S hr hlocks hK hN hP hD hS h dX4_undo_59
      have h := (if_neg c3).symm.trans h
      by_cases c5 : (u.1.2.2.2.2.2 - (1 : Int32)) = 1
      · have h := (if_pos c5).symm.trans h
        refine aaO (f := (fun i => some (u.2.2.1 i))) (v := (u.2.2.1 1)) (ki := 1) hx hb hK hP 13 1 rfl rfl c5 (by decide) rfl dX4_undo_51 ?_
        obtain ⟨z6, e_z6, h⟩ := bnd h
        refine mjv (cc_X4_236 (ga 2) (ga 3) (u.2.2.1 1) (u.2.2.2 1) S hK hN (hP.sub [2, 3, 16, 17] rfl) (hD.sub [2, 3, 16, 17] (by decide) rfl) e_z6 hl.1 (Nat.le_of_ble_eq_true rfl) ⟨Nat.le_of_ble_eq_true rfl, Nat.le_of_ble_eq_true rfl⟩ dX4_undo_52 ⟨Nat.le_of_ble_eq_true rfl, Nat.le_of_ble_eq_true rfl⟩) hS hP hD hA [2, 3, 16, 17] [0, 1, 4, 5, 6, 7, 8, 9, 10, 11, 12, 13, 14, 15, 18, 19, 20, 21, 22, 23, 24, 25] rfl rfl (by decide) (by decide) [0, 1, 22, 23, 2, 3, 4, 5, 6, 7, 8, 9, 10, 11, 12, 13, 24, 25, 14, 15, 16, 17, 18, 19, 20, 21] (by decide) (wHS cI cS sv ga (((z6.1, u.1.1.2), u.1.2.1, u.1.2.2.1, u.1.2.2.2.1, u.1.2.2.2.2.1, (u.1.2.2.2.2.2 - (1 : Int32))), (va_up u.2.1 1 z6.2), u.2.2)) rfl (fun H locs hP hD hS => ?_)
        refine lv_aload_n hx hb dX4_undo_55 rfl (lv_at hl 0 rfl) ?_
        refine gf_X4_231 S hK hN hP 0 rfl (v := .int (u.1.2.2.2.2.2 - (1 : Int32))) rfl dX4_undo_56 ?_
        exact retMi hQ S hr hlocks hK hN hP hD hS h dX4_undo_59
      have h := (if_neg c5).symm.trans h
      by_cases c7 : (u.1.2.2.2.2.2 - (1 : Int32)) = 2
      · have h := (if_pos c7).symm.trans h
        refine aaO (f := (fun i => some (u.2.2.1 i))) (v := (u.2.2.1 2)) (ki := 2) hx hb hK hP 13 1 rfl rfl c7 (by decide) rfl dX4_undo_51 ?_
        obtain ⟨z8, e_z8, h⟩ := bnd h
        refine mjv (cc_X4_236 (ga 2) (ga 3) (u.2.2.1 2) (u.2.2.2 2) S hK hN (hP.sub [2, 3, 18, 19] rfl) (hD.sub [2, 3, 18, 19] (by decide) rfl) e_z8 hl.1 (Nat.le_of_ble_eq_true rfl) ⟨Nat.le_of_ble_eq_true rfl, Nat.le_of_ble_eq_true rfl⟩ dX4_undo_52 ⟨Nat.le_of_ble_eq_true rfl, Nat.le_of_ble_eq_true rfl⟩) hS hP hD hA [2, 3, 18, 19] [0, 1, 4, 5, 6, 7, 8, 9, 10, 11, 12, 13, 14, 15, 16, 17, 20, 21, 22, 23, 24, 25] rfl rfl (by decide) (by decide) [0, 1, 22, 23, 2, 3, 4, 5, 6, 7, 8, 9, 10, 11, 12, 13, 14, 15, 24, 25, 16, 17, 18, 19, 20, 21] (by decide) (wHS cI cS sv ga (((z8.1, u.1.1.2), u.1.2.1, u.1.2.2.1, u.1.2.2.2.1, u.1.2.2.2.2.1, (u.1.2.2.2.2.2 - (1 : Int32))), (va_up u.2.1 2 z8.2), u.2.2)) rfl (fun H locs hP hD hS => ?_)
        refine lv_aload_n hx hb dX4_undo_55 rfl (lv_at hl 0 rfl) ?_
        refine gf_X4_231 S hK hN hP 0 rfl (v := .int (u.1.2.2.2.2.2 - (1 : Int32))) rfl dX4_undo_56 ?_
        exact retMi hQ S hr hlocks hK hN hP hD hS h dX4_undo_59
      have h := (if_neg c7).symm.trans h
      by_cases c9 : (u.1.2.2.2.2.2 - (1 : Int32)) = 3
      · have h := (if_pos c9).symm.trans h
        refine aaO (f := (fun i => some (u.2.2.1 i))) (v := (u.2.2.1 3)) (ki := 3) hx hb hK hP 13 1 rfl rfl c9 (by decide) rfl dX4_undo_51 ?_
        obtain ⟨z10, e_z10, h⟩ := bnd h
        refine mjv (cc_X4_236 (ga 2) (ga 3) (u.2.2.1 3) (u.2.2.2 3) S hK hN (hP.sub [2, 3, 20, 21] rfl) (hD.sub [2, 3, 20, 21] (by decide) rfl) e_z10 hl.1 (Nat.le_of_ble_eq_true rfl) ⟨Nat.le_of_ble_eq_true rfl, Nat.le_of_ble_eq_true rfl⟩ dX4_undo_52 ⟨Nat.le_of_ble_eq_true rfl, Nat.le_of_ble_eq_true rfl⟩) hS hP hD hA [2, 3, 20, 21] [0, 1, 4, 5, 6, 7, 8, 9, 10, 11, 12, 13, 14, 15, 16, 17, 18, 19, 22, 23, 24, 25] rfl rfl (by decide) (by decide) [0, 1, 22, 23, 2, 3, 4, 5, 6, 7, 8, 9, 10, 11, 12, 13, 14, 15, 16, 17, 24, 25, 18, 19, 20, 21] (by decide) (wHS cI cS sv ga (((z10.1, u.1.1.2), u.1.2.1, u.1.2.2.1, u.1.2.2.2.1, u.1.2.2.2.2.1, (u.1.2.2.2.2.2 - (1 : Int32))), (va_up u.2.1 3 z10.2), u.2.2)) rfl (fun H locs hP hD hS => ?_)
        refine lv_aload_n hx hb dX4_undo_55 rfl (lv_at hl 0 rfl) ?_
        refine gf_X4_231 S hK hN hP 0 rfl (v := .int (u.1.2.2.2.2.2 - (1 : Int32))) rfl dX4_undo_56 ?_
        exact retMi hQ S hr hlocks hK hN hP hD hS h dX4_undo_59
      have h := (if_neg c9).symm.trans h
      by_cases c11 : (u.1.2.2.2.2.2 - (1 : Int32)) = 4
      · have h := (if_pos c11).symm.trans h
        refine aaO (f := (fun i => some (u.2.2.1 i))) (v := (u.2.2.1 4)) (ki := 4) hx hb hK hP 13 1 rfl rfl c11 (by decide) rfl dX4_undo_51 ?_
        obtain ⟨z12, e_z12, h⟩ := bnd h
        refine mjv (cc_X4_236 (ga 2) (ga 3) (u.2.2.1 4) (u.2.2.2 4) S hK hN (hP.sub [2, 3, 22, 23] rfl) (hD.sub [2, 3, 22, 23] (by decide) rfl) e_z12 hl.1 (Nat.le_of_ble_eq_true rfl) ⟨Nat.le_of_ble_eq_true rfl, Nat.le_of_ble_eq_true rfl⟩ dX4_undo_52 ⟨Nat.le_of_ble_eq_true rfl, Nat.le_of_ble_eq_true rfl⟩) hS hP hD hA [2, 3, 22, 23] [0, 1, 4, 5, 6, 7, 8, 9, 10, 11, 12, 13, 14, 15, 16, 17, 18, 19, 20, 21, 24, 25] rfl rfl (by decide) (by decide) [0, 1, 22, 23, 2, 3, 4, 5, 6, 7, 8, 9, 10, 11, 12, 13, 14, 15, 16, 17, 18, 19, 24, 25, 20, 21] (by decide) (wHS cI cS sv ga (((z12.1, u.1.1.2), u.1.2.1, u.1.2.2.1, u.1.2.2.2.1, u.1.2.2.2.2.1, (u.1.2.2.2.2.2 - (1 : Int32))), (va_up u.2.1 4 z12.2), u.2.2)) rfl (fun H locs hP hD hS => ?_)
        refine lv_aload_n hx hb dX4_undo_55 rfl (lv_at hl 0 rfl) ?_
        refine gf_X4_231 S hK hN hP 0 rfl (v := .int (u.1.2.2.2.2.2 - (1 : Int32))) rfl dX4_undo_56 ?_
        exact retMi hQ S hr hlocks hK hN hP hD hS h dX4_undo_59
      have h := (if_neg c11).symm.trans h
      by_cases c13 : (u.1.2.2.2.2.2 - (1 : Int32)) = 5
      · have h := (if_pos c13).symm.trans h
        refine aaO (f := (fun i => some (u.2.2.1 i))) (v := (u.2.2.1 5)) (ki := 5) hx hb hK hP 13 1 rfl rfl c13 (by decide) rfl dX4_undo_51 ?_
        obtain ⟨z14, e_z14, h⟩ := bnd h
        refine mjv (cc_X4_236 (ga 2) (ga 3) (u.2.2.1 5) (u.2.2.2 5) S hK hN (hP.sub [2, 3, 24, 25] rfl) (hD.sub [2, 3, 24, 25] (by decide) rfl) e_z14 hl.1 (Nat.le_of_ble_eq_true rfl) ⟨Nat.le_of_ble_eq_true rfl, Nat.le_of_ble_eq_true rfl⟩ dX4_undo_52 ⟨Nat.le_of_ble_eq_true rfl, Nat.le_of_ble_eq_true rfl⟩) hS hP hD hA [2, 3, 24, 25] [0, 1, 4, 5, 6, 7, 8, 9, 10, 11, 12, 13, 14, 15, 16, 17, 18, 19, 20, 21, 22, 23] rfl rfl (by decide) (by decide) [0, 1, 22, 23, 2, 3, 4, 5, 6, 7, 8, 9, 10, 11, 12, 13, 14, 15, 16, 17, 18, 19, 20, 21, 24, 25] (by decide) (wHS cI cS sv ga (((z14.1, u.1.1.2), u.1.2.1, u.1.2.2.1, u.1.2.2.2.1, u.1.2.2.2.2.1, (u.1.2.2.2.2.2 - (1 : Int32))), (va_up u.2.1 5 z14.2), u.2.2)) rfl (fun H locs hP hD hS => ?_)
        refine lv_aload_n hx hb dX4_undo_55 rfl (lv_at hl 0 rfl) ?_
        refine gf_X4_231 S hK hN hP 0 rfl (v := .int (u.1.2.2.2.2.2 - (1 : Int32))) rfl dX4_undo_56 ?_
        exact retMi hQ S hr hlocks hK hN hP hD hS h dX4_undo_59
      have h := (if_neg c13).symm.trans h
      cases h
    · have h := (if_neg c2).symm.trans h
      exact J19 u h _ _ hP hD hS _ (lv_sub hl [] rfl)

def fX4_savedStates (u : TH) : Option (Int32) := some u.2.2.2.2.2
abbrev rmX4_savedStates : Room := { frames := 0, cells := 0, slots := 0, locals := 0 }
set_option maxRecDepth 100000 in
set_option maxHeartbeats 4000000 in
theorem kX4_savedStates (l : Launch) (G : va_G) (cI cS : ClassId) (sv : Nat) (ga : Nat → Nat) (u : TH) (r : Int32) (hf : fX4_savedStates u = some r) : Met l yX4_savedStates (.code yX4_savedStates cX4_savedStates 1 (some .int) :: bw) rmX4_savedStates (va_Pc [.ref (ga 0)] (PreR G (tysW cI cS) (wH cI sv ga u))) (vp_Si (fun r' => r' = r)) 0 0 (fun _ => False) := by
  refine enterR (own := RX4) (by decide) rfl rfl (Nat.le_of_ble_eq_true rfl) ?_
  intro p e s m args below meth c Q hQ S hr hlocks hP hK hN ls hl
  have hx := S.1; have hb := S.2.1; have hml := S.2.2.1; have hown := S.2.2.2.1; have hq := S.2.2.2.2
  have hl : lv_has ls 1 [(0, .ref (ga 0))] := hl
  have h := hf
  unfold fX4_savedStates at h
  refine lv_aload_n hx hb dX4_savedStates_0 rfl (lv_at hl 0 rfl) ?_
  refine gf_X4_231 S hK hN hP 0 rfl (v := .int u.2.2.2.2.2) rfl dX4_savedStates_1 ?_
  exact retR hQ S hr hlocks h dX4_savedStates_4

theorem cc_X4_158 {p : Program} {l : Launch} {e : Env} {R : Room} {s : State} {m : MethodId} {args : Array Value} {below : List Frame} {meth : Method} {c : Code} {H : Heap} {locs : List Loc} {cells slots : Nat} {cc : ByteArray} {pc nL : Nat} {ls : Array Slot} {rest : List Value} {G : va_G} (g0 g1 : Nat) {cI cS : ClassId} {u : TS}  {p0 : Int32} {p1 : Int32} {r : Int32} (S : CallFix p m c cc nL s args bw RX4) (hK : va_K G vwCl (tysW cI cS) s) (hN : NW s) (hP : va_P G vwCl (wS cI g0 g1 u) H) (hf : fX3_byteAt u p0 p1 = some r) (hsz : ls.size = nL) (hst : (rest.map fun v => v.category).sum ≤ 8) (hR : rmX3_byteAt.frames + 1 ≤ R.frames ∧ 8 + (4 + 11) + rmX3_byteAt.locals ≤ R.locals) (hdg : decode cc pc = .ok (.invokevirtual 158, 3)) (hcs : cells + 0 ≤ R.cells ∧ slots + 0 ≤ R.slots) : va_Run p l e R s m args below meth c H locs cells slots 0 0 (F0 m pc ls (.int p1 :: .int p0 :: .ref g0 :: rest)) rest (vp_Si (fun r' => r' = r) (#[.ref g0, .int p0, .int p1] : Array Value)) (fun _ => False) :=
  va_runVN (As := [.int p0, .int p1]) (rest := rest) S (kX3_byteAt l G cI cS g0 g1 u p0 p1 r hf) ⟨va_cnB 2 S.2.2.2.2 (gdC q_57) rfl rfl rfl (hN _ nq_27) (S.2.2.2.2 _ q_35) (by decide +kernel) hR, S.2.2.2.2 _ q_59, S.2.2.2.2 _ q_60⟩ (pvR (q := (RX3, TX3, 5)) hK hN hP (ci := 3) (q0 := 0) rfl rfl) rfl rfl hsz rfl (lv_room hst) hdg hcs
theorem cc_X4_244 {p : Program} {l : Launch} {e : Env} {R : Room} {s : State} {m : MethodId} {args : Array Value} {below : List Frame} {meth : Method} {c : Code} {H : Heap} {locs : List Loc} {cells slots : Nat} {cc : ByteArray} {pc nL : Nat} {ls : Array Slot} {rest : List Value} {G : va_G} (sv : Nat) (ga : Nat → Nat) {cI cS : ClassId} {u : TH}  {r : Int32} (S : CallFix p m c cc nL s args bw RX4) (hK : va_K G vwCl (tysW cI cS) s) (hN : NW s) (hP : va_P G vwCl (wH cI sv ga u) H) (hf : fX4_rows u = some r) (hsz : ls.size = nL) (hst : (rest.map fun v => v.category).sum ≤ 8) (hR : rmX4_rows.frames + 1 ≤ R.frames ∧ 8 + (1 + 11) + rmX4_rows.locals ≤ R.locals) (hdg : decode cc pc = .ok (.invokevirtual 244, 3)) (hcs : cells + 0 ≤ R.cells ∧ slots + 0 ≤ R.slots) : va_Run p l e R s m args below meth c H locs cells slots 0 0 (F0 m pc ls (.ref (ga 0) :: rest)) rest (vp_Si (fun r' => r' = r) (#[.ref (ga 0)] : Array Value)) (fun _ => False) :=
  va_runV (As := []) (rest := rest) S (kX4_rows l G cI cS sv ga u r hf) (cwV 0 S.2.2.2.2 (gdV q_312 q_313 q_314 q_49 q_280) rfl rfl rfl (by decide +kernel) hR) (pvR (q := (RX4, TX4, 8)) hK hN hP (ci := 4) (q0 := 0) rfl rfl) rfl rfl hsz rfl (lv_room hst) hdg hcs
theorem cc_X4_247 {p : Program} {l : Launch} {e : Env} {R : Room} {s : State} {m : MethodId} {args : Array Value} {below : List Frame} {meth : Method} {c : Code} {H : Heap} {locs : List Loc} {cells slots : Nat} {cc : ByteArray} {pc nL : Nat} {ls : Array Slot} {rest : List Value} {G : va_G} (sv : Nat) (ga : Nat → Nat) {cI cS : ClassId} {u : TH}  {r : Int32} (S : CallFix p m c cc nL s args bw RX4) (hK : va_K G vwCl (tysW cI cS) s) (hN : NW s) (hP : va_P G vwCl (wH cI sv ga u) H) (hf : fX4_notes u = some r) (hsz : ls.size = nL) (hst : (rest.map fun v => v.category).sum ≤ 8) (hR : rmX4_notes.frames + 1 ≤ R.frames ∧ 8 + (1 + 11) + rmX4_notes.locals ≤ R.locals) (hdg : decode cc pc = .ok (.invokevirtual 247, 3)) (hcs : cells + 0 ≤ R.cells ∧ slots + 0 ≤ R.slots) : va_Run p l e R s m args below meth c H locs cells slots 0 0 (F0 m pc ls (.ref (ga 0) :: rest)) rest (vp_Si (fun r' => r' = r) (#[.ref (ga 0)] : Array Value)) (fun _ => False) :=
  va_runV (As := []) (rest := rest) S (kX4_notes l G cI cS sv ga u r hf) (cwV 0 S.2.2.2.2 (gdV q_315 q_316 q_317 q_49 q_292) rfl rfl rfl (by decide +kernel) hR) (pvR (q := (RX4, TX4, 8)) hK hN hP (ci := 4) (q0 := 0) rfl rfl) rfl rfl hsz rfl (lv_room hst) hdg hcs
theorem cc_X4_250 {p : Program} {l : Launch} {e : Env} {R : Room} {s : State} {m : MethodId} {args : Array Value} {below : List Frame} {meth : Method} {c : Code} {H : Heap} {locs : List Loc} {cells slots : Nat} {cc : ByteArray} {pc nL : Nat} {ls : Array Slot} {rest : List Value} {G : va_G} (sv : Nat) (ga : Nat → Nat) {cI cS : ClassId} {u : TH}  {r : UInt64} (S : CallFix p m c cc nL s args bw RX4) (hK : va_K G vwCl (tysW cI cS) s) (hN : NW s) (hP : va_P G vwCl (wH cI sv ga u) H) (hf : fX4_fillFactor u = some r) (hsz : ls.size = nL) (hst : (rest.map fun v => v.category).sum ≤ 8) (hR : rmX4_fillFactor.frames + 1 ≤ R.frames ∧ 8 + (3 + 11) + rmX4_fillFactor.locals ≤ R.locals) (hdg : decode cc pc = .ok (.invokevirtual 250, 3)) (hcs : cells + 0 ≤ R.cells ∧ slots + 0 ≤ R.slots) : va_Run p l e R s m args below meth c H locs cells slots 0 0 (F0 m pc ls (.ref (ga 0) :: rest)) rest (vp_Sd (fun r' => r' = r) (#[.ref (ga 0)] : Array Value)) (fun _ => False) :=
  va_runV (As := []) (rest := rest) S (kX4_fillFactor l G cI cS sv ga u r hf) (cwV 0 S.2.2.2.2 (gdV q_318 q_319 q_320 q_49 q_293) rfl rfl rfl (by decide +kernel) hR) (pvR (q := (RX4, TX4, 8)) hK hN hP (ci := 4) (q0 := 0) rfl rfl) rfl rfl hsz rfl (lv_room hst) hdg hcs
theorem cc_X4_254 {p : Program} {l : Launch} {e : Env} {R : Room} {s : State} {m : MethodId} {args : Array Value} {below : List Frame} {meth : Method} {c : Code} {H : Heap} {locs : List Loc} {cells slots : Nat} {cc : ByteArray} {pc nL : Nat} {ls : Array Slot} {rest : List Value} {G : va_G}  {cI cS : ClassId}  {p0 : UInt32} {r : Int32} (S : CallFix p m c cc nL s args bw RX4) (hK : va_K G vwCl (tysW cI cS) s) (hN : NW s) (hP : va_P G vwCl wE H) (hf : fX4_bitsOfFraction p0 = some r) (hsz : ls.size = nL) (hst : (rest.map fun v => v.category).sum ≤ 8) (hR : rmX4_bitsOfFraction.frames + 1 ≤ R.frames ∧ 8 + (4 + 11) + rmX4_bitsOfFraction.locals ≤ R.locals) (hdg : decode cc pc = .ok (.invokestatic 254, 3)) (hcs : cells + 0 ≤ R.cells ∧ slots + 0 ≤ R.slots) : va_Run p l e R s m args below meth c H locs cells slots 0 0 (F0 m pc ls (.float p0 :: rest)) rest (vp_Si (fun r' => r' = r) (#[.float p0] : Array Value)) (fun _ => False) :=
  va_runS (As := [.float p0]) (rest := rest) S (kX4_bitsOfFraction l G cI cS p0 r hf) (cwS 1 S.2.2.2.2 (gdS q_321 q_322 q_49 q_308) rfl rfl rfl (by decide +kernel) hR) (psR hK hN hP) rfl rfl hsz rfl (lv_room hst) hdg hcs
theorem gf_X4_185 {p : Program} {l : Launch} {e : Env} {R : Room} {s : State} {m : MethodId} {args : Array Value} {below : List Frame} {meth : Method} {c : Code} {H : Heap} {locs : List Loc} {cells slots : Nat} {cc : ByteArray} {pc nL : Nat} {ls : Array Slot} {rest : List Value} {G : va_G} {Q : State → Prop} {tys : List (ClassId × FieldType)} {ws : va_W} {a : Nat} (S : CallFix p m c cc nL s args bw RX4) (hK : va_K G vwCl tys s) (hN : NW s) (hP : va_P G vwCl ws H) (q0 : Nat) {fs : List Value} (he : ws[q0]? = some (a, .inr (3, fs))) {v : Value} (hv : fs[4]? = some v) (hdg : decode cc pc = .ok (.getfield 185, 3)) (kk : W p l e R s m args below meth c H locs cells slots Q (F0 m (pc + 3) ls (v :: rest))) : W p l e R s m args below meth c H locs cells slots Q (F0 m pc ls (.ref a :: rest)) :=
  va_getN (C := RX3) (T := TX3) (N := 5) S.1 S.2.1 S.2.2.2.2 bi_U3 S.2.2.2.1 hK hP q0 he rfl 4 (by decide) (va_Nw.use rfl (hN _ nq_7)) (fun _ h9 => h9) hv hdg kk
def fX4_digest_s144 (u : TH) (x1 : Int64) (x3 : Int32) (x4 : Int32) : Option ((Int64 × Int32 × Int32) ⊕ (Int64 × Int32)) := (if (128 : Int32) ≤ x4 then some (.inr (x1, x3)) else ((fX3_byteAt u.1.1 x3 x4).bind fun z2 => some (.inl ((((31 : Int64) * x1) + z2.toInt64), x3, (x4 + 1)))))
def fX4_digest_s90 (u : TH) (x1 : Int64) (x3 : Int32) : Option ((Int64 × Int32) ⊕ (Int64)) := (if u.1.1.1.1 ≤ x3 then some (.inr x1) else ((fX2_freeBytes u.1 x3).bind fun z4 => ((fX3_slotCount u.1.1 x3).bind fun z5 => ((fX2_gapWith u.1 x3 z5).bind fun z6 => ((itr (fun a : Int64 × Int32 × Int32 => fX4_digest_s144 u a.1 a.2.1 a.2.2) FU ((((31 : Int64) * (((31 : Int64) * x1) + z4.toInt64)) + z6.toInt64), x3, (0 : Int32))).bind fun b7 => some (.inl (b7.1, (b7.2 + 1))))))))
def fX4_digest (u : TH) : Option (Int64) := ((fX4_rows u).bind fun z8 => ((fX4_notes u).bind fun z9 => ((itr (fun a : Int64 × Int32 => fX4_digest_s90 u a.1 a.2) FU ((((31 : Int64) * (((31 : Int64) * (((31 : Int64) * (((31 : Int64) * (((31 : Int64) * (((31 : Int64) * (4436 : Int64)) + u.1.1.1.1.toInt64)) + z8.toInt64)) + z9.toInt64)) + u.1.1.1.2.1.toInt64)) + u.1.1.1.2.2.1.toInt64)) + u.1.1.1.2.2.2.toInt64), (0 : Int32))).bind fun b10 => ((fX4_fillFactor u).bind fun z11 => ((nf32 (FP.d2f z11)).bind fun z12 => ((fX4_bitsOfFraction z12).bind fun z13 => some (((31 : Int64) * b10) + z13.toInt64)))))))
abbrev rmX4_digest : Room := { frames := 5, cells := 0, slots := 0, locals := 115 }
set_option maxRecDepth 100000 in
set_option maxHeartbeats 4000000 in
theorem kX4_digest (l : Launch) (G : va_G) (cI cS : ClassId) (sv : Nat) (ga : Nat → Nat) (u : TH) (r : Int64) (hf : fX4_digest u = some r) : Met l yX4_digest (.code yX4_digest cX4_digest 5 (some .long) :: bw) rmX4_digest (va_Pc [.ref (ga 0)] (PreR G (tysW cI cS) (wH cI sv ga u))) (vp_Sl (fun r' => r' = r)) 0 0 (fun _ => False) := by
  refine enterG (own := RX4) (by decide) rfl (Nat.le_of_ble_eq_true rfl) ?_
  intro p e s m args below meth c Q hQ S hr hlocks hP hK hN ls hl
  have hx := S.1; have hb := S.2.1; have hml := S.2.2.1; have hown := S.2.2.2.1; have hq := S.2.2.2.2
  have hl : lv_has ls 5 [(0, .ref (ga 0))] := hl
  have h := hf
  unfold fX4_digest at h
  have L90 : ∀ (n9 : Nat) (a9 : Int64 × Int32) (b9 : Int64), itr (fun a : Int64 × Int32 => fX4_digest_s90 u a.1 a.2) n9 a9 = some b9 → (fun b : Int64 => ∀ ls : Array Slot, lv_has ls 5 [(0, .ref (ga 0)), (1, .long b)] → W p l e rmX4_digest s m args below meth c s.heap [] 0 0 Q (F0 m 182 ls [])) b9 → (fun a : Int64 × Int32 => ∀ ls : Array Slot, lv_has ls 5 [(0, .ref (ga 0)), (1, .long a.1), (3, .int a.2)] → W p l e rmX4_digest s m args below meth c s.heap [] 0 0 Q (F0 m 90 ls [])) a9 := by
    refine itr_ind (Inv := (fun a : Int64 × Int32 => ∀ ls : Array Slot, lv_has ls 5 [(0, .ref (ga 0)), (1, .long a.1), (3, .int a.2)] → W p l e rmX4_digest s m args below meth c s.heap [] 0 0 Q (F0 m 90 ls []))) (Ex := (fun b : Int64 => ∀ ls : Array Slot, lv_has ls 5 [(0, .ref (ga 0)), (1, .long b)] → W p l e rmX4_digest s m args below meth c s.heap [] 0 0 Q (F0 m 182 ls []))) ?_
    rintro ⟨x1, x3⟩ z h hI hE
    have h : fX4_digest_s90 u x1 x3 = some z := h
    unfold fX4_digest_s90 at h
    show ∀ ls : Array Slot, lv_has ls 5 [(0, .ref (ga 0)), (1, .long x1), (3, .int x3)] → W p l e rmX4_digest s m args below meth c s.heap [] 0 0 Q (F0 m 90 ls [])
    have L144 : ∀ (n9 : Nat) (a9 : Int64 × Int32 × Int32) (b9 : Int64 × Int32), itr (fun a : Int64 × Int32 × Int32 => fX4_digest_s144 u a.1 a.2.1 a.2.2) n9 a9 = some b9 → (fun b : Int64 × Int32 => ∀ ls : Array Slot, lv_has ls 5 [(0, .ref (ga 0)), (1, .long b.1), (3, .int b.2)] → W p l e rmX4_digest s m args below meth c s.heap [] 0 0 Q (F0 m 176 ls [])) b9 → (fun a : Int64 × Int32 × Int32 => ∀ ls : Array Slot, lv_has ls 5 [(0, .ref (ga 0)), (1, .long a.1), (3, .int a.2.1), (4, .int a.2.2)] → W p l e rmX4_digest s m args below meth c s.heap [] 0 0 Q (F0 m 144 ls [])) a9 := by
      refine itr_ind (Inv := (fun a : Int64 × Int32 × Int32 => ∀ ls : Array Slot, lv_has ls 5 [(0, .ref (ga 0)), (1, .long a.1), (3, .int a.2.1), (4, .int a.2.2)] → W p l e rmX4_digest s m args below meth c s.heap [] 0 0 Q (F0 m 144 ls []))) (Ex := (fun b : Int64 × Int32 => ∀ ls : Array Slot, lv_has ls 5 [(0, .ref (ga 0)), (1, .long b.1), (3, .int b.2)] → W p l e rmX4_digest s m args below meth c s.heap [] 0 0 Q (F0 m 176 ls []))) ?_
      rintro ⟨x1, x3, x4⟩ z h hI hE
      have h : fX4_digest_s144 u x1 x3 x4 = some z := h
      unfold fX4_digest_s144 at h
      show ∀ ls : Array Slot, lv_has ls 5 [(0, .ref (ga 0)), (1, .long x1), (3, .int x3), (4, .int x4)] → W p l e rmX4_digest s m args below meth c s.heap [] 0 0 Q (F0 m 144 ls [])
      intro ls hl
      refine lv_iload hx hb dX4_digest_144 (lv_at hl 3 rfl) ?_
      refine lv_sipush (v := 128) hx hb dX4_digest_146 (by decide) ?_
      refine lv_icmp_ge (tgt := 176) hx hb dX4_digest_149 (by decide) (fun c1 => ?_) (fun c1 => ?_)
      · have h := (if_pos c1).symm.trans h
        exact hE _ (Option.some.inj h) _ (lv_sub hl [0, 1, 2] rfl)
      · have h := (if_neg c1).symm.trans h
        refine lv_ldc2 (v := 31) hx hb hown (hq _ q_311) dX4_digest_152 ?_
        refine lv_lload_n hx hb dX4_digest_155 rfl (lv_at hl 1 rfl) ?_
        refine lv_lmul hx hb dX4_digest_156 ?_
        refine lv_aload_n hx hb dX4_digest_157 rfl (lv_at hl 0 rfl) ?_
        refine gf_X4_20 S hK hN hP 0 rfl (v := .ref (ga 2)) rfl dX4_digest_158 ?_
        refine lv_iload_n hx hb dX4_digest_161 rfl (lv_at hl 2 rfl) ?_
        refine lv_iload hx hb dX4_digest_162 (lv_at hl 3 rfl) ?_
        obtain ⟨z2, e_z2, h⟩ := bnd h
        refine roI (cc_X4_158 (ga 2) (ga 3) S hK hN (hP.sub [2, 3] rfl) e_z2 hl.1 (Nat.le_of_ble_eq_true rfl) ⟨Nat.le_of_ble_eq_true rfl, Nat.le_of_ble_eq_true rfl⟩ dX4_digest_164 ⟨Nat.le_of_ble_eq_true rfl, Nat.le_of_ble_eq_true rfl⟩) ?_
        refine lv_i2l hx hb dX4_digest_167 rfl ?_
        refine lv_ladd hx hb dX4_digest_168 ?_
        refine lv_lstore_n (lv' := [(1, .long (((31 : Int64) * x1) + z2.toInt64)), (0, .ref (ga 0)), (3, .int x3), (4, .int x4)]) hx hb dX4_digest_169 rfl hl (by decide) rfl (fun ls hl => ?_)
        refine lv_iinc (v := (x4 + 1)) (lv' := [(4, .int (x4 + 1)), (1, .long (((31 : Int64) * x1) + z2.toInt64)), (0, .ref (ga 0)), (3, .int x3)]) hx hb dX4_digest_170 hl (k := 3) rfl rfl (by decide) rfl (fun ls hl => ?_)
        refine lv_goto (tgt := 144) hx hb dX4_digest_173 (by decide) ?_
        exact hI _ (Option.some.inj h) _ (lv_sub hl [2, 1, 3, 0] rfl)
    intro ls hl
    refine lv_iload_n hx hb dX4_digest_90 rfl (lv_at hl 2 rfl) ?_
    refine lv_aload_n hx hb dX4_digest_91 rfl (lv_at hl 0 rfl) ?_
    refine gf_X4_20 S hK hN hP 0 rfl (v := .ref (ga 2)) rfl dX4_digest_92 ?_
    refine gf_X4_143 S hK hN hP 2 rfl (v := .int u.1.1.1.1) rfl dX4_digest_95 ?_
    refine lv_icmp_ge (tgt := 182) hx hb dX4_digest_98 (by decide) (fun c3 => ?_) (fun c3 => ?_)
    · have h := (if_pos c3).symm.trans h
      exact hE _ (Option.some.inj h) _ (lv_sub hl [0, 1] rfl)
    · have h := (if_neg c3).symm.trans h
      refine lv_ldc2 (v := 31) hx hb hown (hq _ q_311) dX4_digest_101 ?_
      refine lv_lload_n hx hb dX4_digest_104 rfl (lv_at hl 1 rfl) ?_
      refine lv_lmul hx hb dX4_digest_105 ?_
      refine lv_aload_n hx hb dX4_digest_106 rfl (lv_at hl 0 rfl) ?_
      refine gf_X4_12 S hK hN hP 0 rfl (v := .ref (ga 1)) rfl dX4_digest_107 ?_
      refine lv_iload_n hx hb dX4_digest_110 rfl (lv_at hl 2 rfl) ?_
      obtain ⟨z4, e_z4, h⟩ := bnd h
      refine roI (cc_X4_161 (ga 1) (ga 2) (ga 3) (ga 4) (ga 5) S hK hN (hP.sub [1, 2, 3, 4, 5] rfl) e_z4 hl.1 (Nat.le_of_ble_eq_true rfl) ⟨Nat.le_of_ble_eq_true rfl, Nat.le_of_ble_eq_true rfl⟩ dX4_digest_111 ⟨Nat.le_of_ble_eq_true rfl, Nat.le_of_ble_eq_true rfl⟩) ?_
      refine lv_i2l hx hb dX4_digest_114 rfl ?_
      refine lv_ladd hx hb dX4_digest_115 ?_
      refine lv_lstore_n (lv' := [(1, .long (((31 : Int64) * x1) + z4.toInt64)), (0, .ref (ga 0)), (3, .int x3)]) hx hb dX4_digest_116 rfl hl (by decide) rfl (fun ls hl => ?_)
      refine lv_ldc2 (v := 31) hx hb hown (hq _ q_311) dX4_digest_117 ?_
      refine lv_lload_n hx hb dX4_digest_120 rfl (lv_at hl 0 rfl) ?_
      refine lv_lmul hx hb dX4_digest_121 ?_
      refine lv_aload_n hx hb dX4_digest_122 rfl (lv_at hl 1 rfl) ?_
      refine gf_X4_12 S hK hN hP 0 rfl (v := .ref (ga 1)) rfl dX4_digest_123 ?_
      refine lv_iload_n hx hb dX4_digest_126 rfl (lv_at hl 2 rfl) ?_
      refine lv_aload_n hx hb dX4_digest_127 rfl (lv_at hl 1 rfl) ?_
      refine gf_X4_20 S hK hN hP 0 rfl (v := .ref (ga 2)) rfl dX4_digest_128 ?_
      refine lv_iload_n hx hb dX4_digest_131 rfl (lv_at hl 2 rfl) ?_
      obtain ⟨z5, e_z5, h⟩ := bnd h
      refine roI (cc_X4_146 (ga 2) (ga 3) S hK hN (hP.sub [2, 3] rfl) e_z5 hl.1 (Nat.le_of_ble_eq_true rfl) ⟨Nat.le_of_ble_eq_true rfl, Nat.le_of_ble_eq_true rfl⟩ dX4_digest_132 ⟨Nat.le_of_ble_eq_true rfl, Nat.le_of_ble_eq_true rfl⟩) ?_
      obtain ⟨z6, e_z6, h⟩ := bnd h
      refine roI (cc_X4_164 (ga 1) (ga 2) (ga 3) (ga 4) (ga 5) S hK hN (hP.sub [1, 2, 3, 4, 5] rfl) e_z6 hl.1 (Nat.le_of_ble_eq_true rfl) ⟨Nat.le_of_ble_eq_true rfl, Nat.le_of_ble_eq_true rfl⟩ dX4_digest_135 ⟨Nat.le_of_ble_eq_true rfl, Nat.le_of_ble_eq_true rfl⟩) ?_
      refine lv_i2l hx hb dX4_digest_138 rfl ?_
      refine lv_ladd hx hb dX4_digest_139 ?_
      refine lv_lstore_n (lv' := [(1, .long (((31 : Int64) * (((31 : Int64) * x1) + z4.toInt64)) + z6.toInt64)), (0, .ref (ga 0)), (3, .int x3)]) hx hb dX4_digest_140 rfl hl (by decide) rfl (fun ls hl => ?_)
      refine lv_iconst (v := 0) hx hb dX4_digest_141 (by decide) ?_
      refine lv_istore (lv' := [(4, .int (0 : Int32)), (1, .long (((31 : Int64) * (((31 : Int64) * x1) + z4.toInt64)) + z6.toInt64)), (0, .ref (ga 0)), (3, .int x3)]) hx hb dX4_digest_142 hl (by decide) rfl (fun ls hl => ?_)
      obtain ⟨b7, e_b7, h⟩ := bnd h
      refine L144 _ _ _ e_b7 ?_ _ (lv_sub hl [2, 1, 3, 0] rfl)
      intro ls hl
      refine lv_iinc (v := (b7.2 + 1)) (lv' := [(3, .int (b7.2 + 1)), (0, .ref (ga 0)), (1, .long b7.1)]) hx hb dX4_digest_176 hl (k := 2) rfl rfl (by decide) rfl (fun ls hl => ?_)
      refine lv_goto (tgt := 90) hx hb dX4_digest_179 (by decide) ?_
      exact hI _ (Option.some.inj h) _ (lv_sub hl [1, 2, 0] rfl)
  refine lv_ldc2 (v := 4436) hx hb hown (hq _ q_310) dX4_digest_0 ?_
  refine lv_lstore_n (lv' := [(1, .long (4436 : Int64)), (0, .ref (ga 0))]) hx hb dX4_digest_3 rfl hl (by decide) rfl (fun ls hl => ?_)
  refine lv_ldc2 (v := 31) hx hb hown (hq _ q_311) dX4_digest_4 ?_
  refine lv_lload_n hx hb dX4_digest_7 rfl (lv_at hl 0 rfl) ?_
  refine lv_lmul hx hb dX4_digest_8 ?_
  refine lv_aload_n hx hb dX4_digest_9 rfl (lv_at hl 1 rfl) ?_
  refine gf_X4_20 S hK hN hP 0 rfl (v := .ref (ga 2)) rfl dX4_digest_10 ?_
  refine gf_X4_143 S hK hN hP 2 rfl (v := .int u.1.1.1.1) rfl dX4_digest_13 ?_
  refine lv_i2l hx hb dX4_digest_16 rfl ?_
  refine lv_ladd hx hb dX4_digest_17 ?_
  refine lv_lstore_n (lv' := [(1, .long (((31 : Int64) * (4436 : Int64)) + u.1.1.1.1.toInt64)), (0, .ref (ga 0))]) hx hb dX4_digest_18 rfl hl (by decide) rfl (fun ls hl => ?_)
  refine lv_ldc2 (v := 31) hx hb hown (hq _ q_311) dX4_digest_19 ?_
  refine lv_lload_n hx hb dX4_digest_22 rfl (lv_at hl 0 rfl) ?_
  refine lv_lmul hx hb dX4_digest_23 ?_
  refine lv_aload_n hx hb dX4_digest_24 rfl (lv_at hl 1 rfl) ?_
  obtain ⟨z8, e_z8, h⟩ := bnd h
  refine roI (cc_X4_244 sv ga S hK hN hP e_z8 hl.1 (Nat.le_of_ble_eq_true rfl) ⟨Nat.le_of_ble_eq_true rfl, Nat.le_of_ble_eq_true rfl⟩ dX4_digest_25 ⟨Nat.le_of_ble_eq_true rfl, Nat.le_of_ble_eq_true rfl⟩) ?_
  refine lv_i2l hx hb dX4_digest_28 rfl ?_
  refine lv_ladd hx hb dX4_digest_29 ?_
  refine lv_lstore_n (lv' := [(1, .long (((31 : Int64) * (((31 : Int64) * (4436 : Int64)) + u.1.1.1.1.toInt64)) + z8.toInt64)), (0, .ref (ga 0))]) hx hb dX4_digest_30 rfl hl (by decide) rfl (fun ls hl => ?_)
  refine lv_ldc2 (v := 31) hx hb hown (hq _ q_311) dX4_digest_31 ?_
  refine lv_lload_n hx hb dX4_digest_34 rfl (lv_at hl 0 rfl) ?_
  refine lv_lmul hx hb dX4_digest_35 ?_
  refine lv_aload_n hx hb dX4_digest_36 rfl (lv_at hl 1 rfl) ?_
  obtain ⟨z9, e_z9, h⟩ := bnd h
  refine roI (cc_X4_247 sv ga S hK hN hP e_z9 hl.1 (Nat.le_of_ble_eq_true rfl) ⟨Nat.le_of_ble_eq_true rfl, Nat.le_of_ble_eq_true rfl⟩ dX4_digest_37 ⟨Nat.le_of_ble_eq_true rfl, Nat.le_of_ble_eq_true rfl⟩) ?_
  refine lv_i2l hx hb dX4_digest_40 rfl ?_
  refine lv_ladd hx hb dX4_digest_41 ?_
  refine lv_lstore_n (lv' := [(1, .long (((31 : Int64) * (((31 : Int64) * (((31 : Int64) * (4436 : Int64)) + u.1.1.1.1.toInt64)) + z8.toInt64)) + z9.toInt64)), (0, .ref (ga 0))]) hx hb dX4_digest_42 rfl hl (by decide) rfl (fun ls hl => ?_)
  refine lv_ldc2 (v := 31) hx hb hown (hq _ q_311) dX4_digest_43 ?_
  refine lv_lload_n hx hb dX4_digest_46 rfl (lv_at hl 0 rfl) ?_
  refine lv_lmul hx hb dX4_digest_47 ?_
  refine lv_aload_n hx hb dX4_digest_48 rfl (lv_at hl 1 rfl) ?_
  refine gf_X4_20 S hK hN hP 0 rfl (v := .ref (ga 2)) rfl dX4_digest_49 ?_
  refine gf_X4_179 S hK hN hP 2 rfl (v := .int u.1.1.1.2.1) rfl dX4_digest_52 ?_
  refine lv_i2l hx hb dX4_digest_55 rfl ?_
  refine lv_ladd hx hb dX4_digest_56 ?_
  refine lv_lstore_n (lv' := [(1, .long (((31 : Int64) * (((31 : Int64) * (((31 : Int64) * (((31 : Int64) * (4436 : Int64)) + u.1.1.1.1.toInt64)) + z8.toInt64)) + z9.toInt64)) + u.1.1.1.2.1.toInt64)), (0, .ref (ga 0))]) hx hb dX4_digest_57 rfl hl (by decide) rfl (fun ls hl => ?_)
  refine lv_ldc2 (v := 31) hx hb hown (hq _ q_311) dX4_digest_58 ?_
  refine lv_lload_n hx hb dX4_digest_61 rfl (lv_at hl 0 rfl) ?_
  refine lv_lmul hx hb dX4_digest_62 ?_
  refine lv_aload_n hx hb dX4_digest_63 rfl (lv_at hl 1 rfl) ?_
  refine gf_X4_20 S hK hN hP 0 rfl (v := .ref (ga 2)) rfl dX4_digest_64 ?_
  refine gf_X4_182 S hK hN hP 2 rfl (v := .int u.1.1.1.2.2.1) rfl dX4_digest_67 ?_
  refine lv_i2l hx hb dX4_digest_70 rfl ?_
  refine lv_ladd hx hb dX4_digest_71 ?_
  refine lv_lstore_n (lv' := [(1, .long (((31 : Int64) * (((31 : Int64) * (((31 : Int64) * (((31 : Int64) * (((31 : Int64) * (4436 : Int64)) + u.1.1.1.1.toInt64)) + z8.toInt64)) + z9.toInt64)) + u.1.1.1.2.1.toInt64)) + u.1.1.1.2.2.1.toInt64)), (0, .ref (ga 0))]) hx hb dX4_digest_72 rfl hl (by decide) rfl (fun ls hl => ?_)
  refine lv_ldc2 (v := 31) hx hb hown (hq _ q_311) dX4_digest_73 ?_
  refine lv_lload_n hx hb dX4_digest_76 rfl (lv_at hl 0 rfl) ?_
  refine lv_lmul hx hb dX4_digest_77 ?_
  refine lv_aload_n hx hb dX4_digest_78 rfl (lv_at hl 1 rfl) ?_
  refine gf_X4_20 S hK hN hP 0 rfl (v := .ref (ga 2)) rfl dX4_digest_79 ?_
  refine gf_X4_185 S hK hN hP 2 rfl (v := .int u.1.1.1.2.2.2) rfl dX4_digest_82 ?_
  refine lv_i2l hx hb dX4_digest_85 rfl ?_
  refine lv_ladd hx hb dX4_digest_86 ?_
  refine lv_lstore_n (lv' := [(1, .long (((31 : Int64) * (((31 : Int64) * (((31 : Int64) * (((31 : Int64) * (((31 : Int64) * (((31 : Int64) * (4436 : Int64)) + u.1.1.1.1.toInt64)) + z8.toInt64)) + z9.toInt64)) + u.1.1.1.2.1.toInt64)) + u.1.1.1.2.2.1.toInt64)) + u.1.1.1.2.2.2.toInt64)), (0, .ref (ga 0))]) hx hb dX4_digest_87 rfl hl (by decide) rfl (fun ls hl => ?_)
  refine lv_iconst (v := 0) hx hb dX4_digest_88 (by decide) ?_
  refine lv_istore_n (lv' := [(3, .int (0 : Int32)), (1, .long (((31 : Int64) * (((31 : Int64) * (((31 : Int64) * (((31 : Int64) * (((31 : Int64) * (((31 : Int64) * (4436 : Int64)) + u.1.1.1.1.toInt64)) + z8.toInt64)) + z9.toInt64)) + u.1.1.1.2.1.toInt64)) + u.1.1.1.2.2.1.toInt64)) + u.1.1.1.2.2.2.toInt64)), (0, .ref (ga 0))]) hx hb dX4_digest_89 rfl hl (by decide) rfl (fun ls hl => ?_)
  obtain ⟨b10, e_b10, h⟩ := bnd h
  refine L90 _ _ _ e_b10 ?_ _ (lv_sub hl [2, 1, 0] rfl)
  intro ls hl
  refine lv_ldc2 (v := 31) hx hb hown (hq _ q_311) dX4_digest_182 ?_
  refine lv_lload_n hx hb dX4_digest_185 rfl (lv_at hl 1 rfl) ?_
  refine lv_lmul hx hb dX4_digest_186 ?_
  refine lv_aload_n hx hb dX4_digest_187 rfl (lv_at hl 0 rfl) ?_
  obtain ⟨z11, e_z11, h⟩ := bnd h
  refine roD (cc_X4_250 sv ga S hK hN hP e_z11 hl.1 (Nat.le_of_ble_eq_true rfl) ⟨Nat.le_of_ble_eq_true rfl, Nat.le_of_ble_eq_true rfl⟩ dX4_digest_188 ⟨Nat.le_of_ble_eq_true rfl, Nat.le_of_ble_eq_true rfl⟩) ?_
  obtain ⟨z12, e_z12, h⟩ := bnd h
  refine dfO hx hb e_z12 dX4_digest_191 ?_
  obtain ⟨z13, e_z13, h⟩ := bnd h
  refine roI (cc_X4_254 S hK hN va_P0 e_z13 hl.1 (Nat.le_of_ble_eq_true rfl) ⟨Nat.le_of_ble_eq_true rfl, Nat.le_of_ble_eq_true rfl⟩ dX4_digest_192 ⟨Nat.le_of_ble_eq_true rfl, Nat.le_of_ble_eq_true rfl⟩) ?_
  refine lv_i2l hx hb dX4_digest_195 rfl ?_
  refine lv_ladd hx hb dX4_digest_196 ?_
  exact retRl hQ S hr hlocks h dX4_digest_197
