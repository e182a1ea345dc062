def fX4_bitsOfFraction_j40 (x1 : Int32) (x2 : UInt32) : Option (Int32) := ((nf32 (FP.fsub x2 FP.fconst1)).bind fun z1 => ((nf32 (FP.fmul z1 (1258291200 : UInt32))).bind fun z2 => some ((x1 <<< ((23 : Int32) &&& 31)) + (FP.f2i z2))))
def fX4_bitsOfFraction_s15 (x1 : Int32) (x2 : UInt32) (x3 : Int32) : Option ((Int32 × UInt32 × Int32) ⊕ (Int32 × UInt32)) := (if (126 : Int32) ≤ x3 then some (.inr (x1, x2)) else (if 0 ≤ (Op.cmpValue (FP.fcmp x2 FP.fconst1) .g) then some (.inr (x1, x2)) else ((nf32 (FP.fmul x2 FP.fconst2)).bind fun z5 => some (.inl ((x1 + (-1)), z5, (x3 + 1))))))
def fX4_bitsOfFraction (p0 : UInt32) : Option (Int32) := (if 0 < (Op.cmpValue (FP.fcmp p0 FP.fconst0) .l) then ((itr (fun a : Int32 × UInt32 × Int32 => fX4_bitsOfFraction_s15 a.1 a.2.1 a.2.2) FU ((127 : Int32), p0, (0 : Int32))).bind fun b7 => fX4_bitsOfFraction_j40 b7.1 b7.2) else some (0 : Int32))
abbrev rmX4_bitsOfFraction : Room := { frames := 0, cells := 0, slots := 0, locals := 0 }
set_option maxRecDepth 100000 in
set_option maxHeartbeats 4000000 in
theorem kX4_bitsOfFraction (l : Launch) (G : va_G) (cI cS : ClassId) (p0 : UInt32) (r : Int32) (hf : fX4_bitsOfFraction p0 = some r) : Met l yX4_bitsOfFraction (.code yX4_bitsOfFraction cX4_bitsOfFraction 4 (some .int) :: bw) rmX4_bitsOfFraction (va_Pc [.float p0] (PreR G (tysW cI cS) wE)) (vp_Si (fun r' => r' = r)) 0 0 (fun _ => False) := by
  refine enterR (own := RX4) (by decide) rfl rfl (Nat.le_of_ble_eq_true rfl) ?_
  intro p e s m args below meth c Q hQ S hr hlocks hP hK hN ls hl
  have hx := S.1; have hb := S.2.1; have hml := S.2.2.1; have hown := S.2.2.2.1; have hq := S.2.2.2.2
  have hl : lv_has ls 4 [(0, .float p0)] := hl
  have h := hf
  unfold fX4_bitsOfFraction at h
  have J40 : ∀ (x1 : Int32) (x2 : UInt32) , fX4_bitsOfFraction_j40 x1 x2 = some r → ∀ ls : Array Slot, lv_has ls 4 [(1, .int x1), (2, .float x2)] → W p l e rmX4_bitsOfFraction s m args below meth c s.heap [] 0 0 Q (F0 m 40 ls []) := by
    intro x1 x2 h
    unfold fX4_bitsOfFraction_j40 at h
    intro ls hl
    refine lv_iload_n hx hb dX4_bitsOfFraction_40 rfl (lv_at hl 0 rfl) ?_
    refine lv_bipush (v := 23) hx hb dX4_bitsOfFraction_41 (by decide) ?_
    refine lv_ishl hx hb dX4_bitsOfFraction_43 ?_
    refine lv_fload_n hx hb dX4_bitsOfFraction_44 rfl (lv_at hl 1 rfl) ?_
    refine lv_fconst1 hx hb dX4_bitsOfFraction_45 ?_
    obtain ⟨z1, e_z1, h⟩ := bnd h
    refine fsO hx hb e_z1 dX4_bitsOfFraction_46 ?_
    refine ldcwF (v := 1258291200) hx hb hown (hq _ q_309) dX4_bitsOfFraction_47 ?_
    obtain ⟨z2, e_z2, h⟩ := bnd h
    refine fmO hx hb e_z2 dX4_bitsOfFraction_50 ?_
    refine lv_f2i hx hb dX4_bitsOfFraction_51 ?_
    refine lv_iadd hx hb dX4_bitsOfFraction_52 ?_
    exact retR hQ S hr hlocks h dX4_bitsOfFraction_53
  have L15 : ∀ (n9 : Nat) (a9 : Int32 × UInt32 × Int32) (b9 : Int32 × UInt32), itr (fun a : Int32 × UInt32 × Int32 => fX4_bitsOfFraction_s15 a.1 a.2.1 a.2.2) n9 a9 = some b9 → (fun b : Int32 × UInt32 => ∀ ls : Array Slot, lv_has ls 4 [(1, .int b.1), (2, .float b.2)] → W p l e rmX4_bitsOfFraction s m args below meth c s.heap [] 0 0 Q (F0 m 40 ls [])) b9 → (fun a : Int32 × UInt32 × Int32 => ∀ ls : Array Slot, lv_has ls 4 [(1, .int a.1), (2, .float a.2.1), (3, .int a.2.2)] → W p l e rmX4_bitsOfFraction s m args below meth c s.heap [] 0 0 Q (F0 m 15 ls [])) a9 := by
    refine itr_ind (Inv := (fun a : Int32 × UInt32 × Int32 => ∀ ls : Array Slot, lv_has ls 4 [(1, .int a.1), (2, .float a.2.1), (3, .int a.2.2)] → W p l e rmX4_bitsOfFraction s m args below meth c s.heap [] 0 0 Q (F0 m 15 ls []))) (Ex := (fun b : Int32 × UInt32 => ∀ ls : Array Slot, lv_has ls 4 [(1, .int b.1), (2, .float b.2)] → W p l e rmX4_bitsOfFraction s m args below meth c s.heap [] 0 0 Q (F0 m 40 ls []))) ?_
    rintro ⟨x1, x2, x3⟩ z h hI hE
    have h : fX4_bitsOfFraction_s15 x1 x2 x3 = some z := h
    unfold fX4_bitsOfFraction_s15 at h
    show ∀ ls : Array Slot, lv_has ls 4 [(1, .int x1), (2, .float x2), (3, .int x3)] → W p l e rmX4_bitsOfFraction s m args below meth c s.heap [] 0 0 Q (F0 m 15 ls [])
    intro ls hl
    refine lv_iload_n hx hb dX4_bitsOfFraction_15 rfl (lv_at hl 2 rfl) ?_
    refine lv_bipush (v := 126) hx hb dX4_bitsOfFraction_16 (by decide) ?_
    refine lv_icmp_ge (tgt := 40) hx hb dX4_bitsOfFraction_18 (by decide) (fun c3 => ?_) (fun c3 => ?_)
    · have h := (if_pos c3).symm.trans h
      exact hE _ (Option.some.inj h) _ (lv_sub hl [0, 1] rfl)
    · have h := (if_neg c3).symm.trans h
      refine lv_fload_n hx hb dX4_bitsOfFraction_21 rfl (lv_at hl 1 rfl) ?_
      refine lv_fconst1 hx hb dX4_bitsOfFraction_22 ?_
      refine lv_fcmp hx hb dX4_bitsOfFraction_23 ?_
      refine lv_if_ge (tgt := 40) hx hb dX4_bitsOfFraction_24 (by decide) (fun c4 => ?_) (fun c4 => ?_)
      · have h := (if_pos c4).symm.trans h
        exact hE _ (Option.some.inj h) _ (lv_sub hl [0, 1] rfl)
      · have h := (if_neg c4).symm.trans h
        refine lv_fload_n hx hb dX4_bitsOfFraction_27 rfl (lv_at hl 1 rfl) ?_
        refine lv_fconst2 hx hb dX4_bitsOfFraction_28 ?_
        obtain ⟨z5, e_z5, h⟩ := bnd h
        refine fmO hx hb e_z5 dX4_bitsOfFraction_29 ?_
        refine lv_fstore_n (lv' := [(2, .float z5), (1, .int x1), (3, .int x3)]) hx hb dX4_bitsOfFraction_30 rfl hl (by decide) rfl (fun ls hl => ?_)
        refine lv_iinc (v := (x1 + (-1))) (lv' := [(1, .int (x1 + (-1))), (2, .float z5), (3, .int x3)]) hx hb dX4_bitsOfFraction_31 hl (k := 1) rfl rfl (by decide) rfl (fun ls hl => ?_)
        refine lv_iinc (v := (x3 + 1)) (lv' := [(3, .int (x3 + 1)), (1, .int (x1 + (-1))), (2, .float z5)]) hx hb dX4_bitsOfFraction_34 hl (k := 2) rfl rfl (by decide) rfl (fun ls hl => ?_)
        refine lv_goto (tgt := 15) hx hb dX4_bitsOfFraction_37 (by decide) ?_
        exact hI _ (Option.some.inj h) _ (lv_sub hl [1, 2, 0] rfl)
  refine lv_fload_n hx hb dX4_bitsOfFraction_0 rfl (lv_at hl 0 rfl) ?_
  refine lv_fconst0 hx hb dX4_bitsOfFraction_1 ?_
  refine lv_fcmp hx hb dX4_bitsOfFraction_2 ?_
  refine lv_if_gt (tgt := 8) hx hb dX4_bitsOfFraction_3 (by decide) (fun c6 => ?_) (fun c6 => ?_)
  · have h := (if_pos c6).symm.trans h
    refine lv_bipush (v := 127) hx hb dX4_bitsOfFraction_8 (by decide) ?_
    refine lv_istore_n (lv' := [(1, .int (127 : Int32)), (0, .float p0)]) hx hb dX4_bitsOfFraction_10 rfl hl (by decide) rfl (fun ls hl => ?_)
    refine lv_fload_n hx hb dX4_bitsOfFraction_11 rfl (lv_at hl 1 rfl) ?_
    refine lv_fstore_n (lv' := [(2, .float p0), (1, .int (127 : Int32)), (0, .float p0)]) hx hb dX4_bitsOfFraction_12 rfl hl (by decide) rfl (fun ls hl => ?_)
    refine lv_iconst (v := 0) hx hb dX4_bitsOfFraction_13 (by decide) ?_
    refine lv_istore_n (lv' := [(3, .int (0 : Int32)), (2, .float p0), (1, .int (127 : Int32)), (0, .float p0)]) hx hb dX4_bitsOfFraction_14 rfl hl (by decide) rfl (fun ls hl => ?_)
    obtain ⟨b7, e_b7, h⟩ := bnd h
    refine L15 _ _ _ e_b7 ?_ _ (lv_sub hl [2, 1, 0] rfl)
    intro ls hl
    exact J40 b7.1 b7.2 h _ (lv_sub hl [0, 1] rfl)
  · have h := (if_neg c6).symm.trans h
    refine lv_iconst (v := 0) hx hb dX4_bitsOfFraction_6 (by decide) ?_
    exact retR hQ S hr hlocks h dX4_bitsOfFraction_7

def fX4_requireLength_j10 : Option (Unit) := none
def fX4_requireLength (p0 : Int32) : Option (Unit) := (if p0 < 0 then fX4_requireLength_j10 else (if p0 ≤ (60 : Int32) then some () else fX4_requireLength_j10))
abbrev rmX4_requireLength : Room := { frames := 0, cells := 0, slots := 0, locals := 0 }
set_option maxRecDepth 100000 in
set_option maxHeartbeats 4000000 in
theorem kX4_requireLength (l : Launch) (G : va_G) (cI cS : ClassId) (p0 : Int32) (r : Unit) (hf : fX4_requireLength p0 = some r) : Met l yX4_requireLength (.code yX4_requireLength cX4_requireLength 1 none :: bw) rmX4_requireLength (va_Pc [.int p0] (PreR G (tysW cI cS) wE)) vw_Sv 0 0 (fun _ => False) := by
  refine enterG (own := RX4) (by decide) rfl (Nat.le_of_ble_eq_true rfl) ?_
  intro p e s m args below meth c Q hQ S hr hlocks hP hK hN ls hl
  have hx := S.1; have hb := S.2.1; have hml := S.2.2.1; have hown := S.2.2.2.1; have hq := S.2.2.2.2
  have hl : lv_has ls 1 [(0, .int p0)] := hl
  have h := hf
  unfold fX4_requireLength at h
  have J10 : fX4_requireLength_j10 = some r → ∀ ls : Array Slot, lv_has ls 1 [] → W p l e rmX4_requireLength s m args below meth c s.heap [] 0 0 Q (F0 m 10 ls []) := by
    intro h
    unfold fX4_requireLength_j10 at h
    intro ls hl
    cases h
  refine lv_iload_n hx hb dX4_requireLength_0 rfl (lv_at hl 0 rfl) ?_
  refine lv_if_lt (tgt := 10) hx hb dX4_requireLength_1 (by decide) (fun c1 => ?_) (fun c1 => ?_)
  · have h := (if_pos c1).symm.trans h
    exact J10  h _ (lv_sub hl [] rfl)
  · have h := (if_neg c1).symm.trans h
    refine lv_iload_n hx hb dX4_requireLength_4 rfl (lv_at hl 0 rfl) ?_
    refine lv_bipush (v := 60) hx hb dX4_requireLength_5 (by decide) ?_
    refine lv_icmp_le (tgt := 21) hx hb dX4_requireLength_7 (by decide) (fun c2 => ?_) (fun c2 => ?_)
    · have h := (if_pos c2).symm.trans h
      exact retRv hQ S hr hlocks dX4_requireLength_21
    · have h := (if_neg c2).symm.trans h
      exact J10  h _ (lv_sub hl [] rfl)

def fX4_placeAt (p0 : Int32) (p1 : Int32) : Option (Int32) := some (((100 : Int32) * p0) + p1)
abbrev rmX4_placeAt : Room := { frames := 0, cells := 0, slots := 0, locals := 0 }
set_option maxRecDepth 100000 in
set_option maxHeartbeats 4000000 in
theorem kX4_placeAt (l : Launch) (G : va_G) (cI cS : ClassId) (p0 : Int32) (p1 : Int32) (r : Int32) (hf : fX4_placeAt p0 p1 = some r) : Met l yX4_placeAt (.code yX4_placeAt cX4_placeAt 2 (some .int) :: bw) rmX4_placeAt (va_Pc [.int p0, .int p1] (PreR G (tysW cI cS) wE)) (vp_Si (fun r' => r' = r)) 0 0 (fun _ => False) := by
  refine enterR (own := RX4) (by decide) rfl rfl (Nat.le_of_ble_eq_true rfl) ?_
  intro p e s m args below meth c Q hQ S hr hlocks hP hK hN ls hl
  have hx := S.1; have hb := S.2.1; have hml := S.2.2.1; have hown := S.2.2.2.1; have hq := S.2.2.2.2
  have hl : lv_has ls 2 [(0, .int p0), (1, .int p1)] := hl
  have h := hf
  unfold fX4_placeAt at h
  refine lv_bipush (v := 100) hx hb dX4_placeAt_0 (by decide) ?_
  refine lv_iload_n hx hb dX4_placeAt_2 rfl (lv_at hl 0 rfl) ?_
  refine lv_imul hx hb dX4_placeAt_3 ?_
  refine lv_iload_n hx hb dX4_placeAt_4 rfl (lv_at hl 1 rfl) ?_
  refine lv_iadd hx hb dX4_placeAt_5 ?_
  exact retR hQ S hr hlocks h dX4_placeAt_6

def fX4_pageIn (p0 : Int32) : Option (Int32) := some (p0 / (100 : Int32))
abbrev rmX4_pageIn : Room := { frames := 0, cells := 0, slots := 0, locals := 0 }
set_option maxRecDepth 100000 in
set_option maxHeartbeats 4000000 in
theorem kX4_pageIn (l : Launch) (G : va_G) (cI cS : ClassId) (p0 : Int32) (r : Int32) (hf : fX4_pageIn p0 = some r) : Met l yX4_pageIn (.code yX4_pageIn cX4_pageIn 1 (some .int) :: bw) rmX4_pageIn (va_Pc [.int p0] (PreR G (tysW cI cS) wE)) (vp_Si (fun r' => r' = r)) 0 0 (fun _ => False) := by
  refine enterR (own := RX4) (by decide) rfl rfl (Nat.le_of_ble_eq_true rfl) ?_
  intro p e s m args below meth c Q hQ S hr hlocks hP hK hN ls hl
  have hx := S.1; have hb := S.2.1; have hml := S.2.2.1; have hown := S.2.2.2.1; have hq := S.2.2.2.2
  have hl : lv_has ls 1 [(0, .int p0)] := hl
  have h := hf
  unfold fX4_pageIn at h
  refine lv_iload_n hx hb dX4_pageIn_0 rfl (lv_at hl 0 rfl) ?_
  refine lv_bipush (v := 100) hx hb dX4_pageIn_1 (by decide) ?_
  refine lv_idiv hx hb dX4_pageIn_3 (by decide) ?_
  exact retR hQ S hr hlocks h dX4_pageIn_4

def fX4_slotIn (p0 : Int32) : Option (Int32) := some (p0 - p0 / (100 : Int32) * (100 : Int32))
abbrev rmX4_slotIn : Room := { frames := 0, cells := 0, slots := 0, locals := 0 }
set_option maxRecDepth 100000 in
set_option maxHeartbeats 4000000 in
theorem kX4_slotIn (l : Launch) (G : va_G) (cI cS : ClassId) (p0 : Int32) (r : Int32) (hf : fX4_slotIn p0 = some r) : Met l yX4_slotIn (.code yX4_slotIn cX4_slotIn 1 (some .int) :: bw) rmX4_slotIn (va_Pc [.int p0] (PreR G (tysW cI cS) wE)) (vp_Si (fun r' => r' = r)) 0 0 (fun _ => False) := by
  refine enterR (own := RX4) (by decide) rfl rfl (Nat.le_of_ble_eq_true rfl) ?_
  intro p e s m args below meth c Q hQ S hr hlocks hP hK hN ls hl
  have hx := S.1; have hb := S.2.1; have hml := S.2.2.1; have hown := S.2.2.2.1; have hq := S.2.2.2.2
  have hl : lv_has ls 1 [(0, .int p0)] := hl
  have h := hf
  unfold fX4_slotIn at h
  refine lv_iload_n hx hb dX4_slotIn_0 rfl (lv_at hl 0 rfl) ?_
  refine lv_bipush (v := 100) hx hb dX4_slotIn_1 (by decide) ?_
  refine lv_irem hx hb dX4_slotIn_3 (by decide) ?_
  exact retR hQ S hr hlocks h dX4_slotIn_4

def fX4_homeSize (p0 : Int32) : Option (Int32) := some (if (3 : Int32) < (p0 + (1 : Int32)) then (p0 + (1 : Int32)) else (3 : Int32))
abbrev rmX4_homeSize : Room := { frames := 1, cells := 0, slots := 0, locals := 40 }
set_option maxRecDepth 100000 in
set_option maxHeartbeats 4000000 in
theorem kX4_homeSize (l : Launch) (G : va_G) (cI cS : ClassId) (p0 : Int32) (r : Int32) (hf : fX4_homeSize p0 = some r) : Met l yX4_homeSize (.code yX4_homeSize cX4_homeSize 1 (some .int) :: bw) rmX4_homeSize (va_Pc [.int p0] (PreR G (tysW cI cS) wE)) (vp_Si (fun r' => r' = r)) 0 0 (fun _ => False) := by
  refine enterR (own := RX4) (by decide) rfl rfl (Nat.le_of_ble_eq_true rfl) ?_
  intro p e s m args below meth c Q hQ S hr hlocks hP hK hN ls hl
  have hx := S.1; have hb := S.2.1; have hml := S.2.2.1; have hown := S.2.2.2.1; have hq := S.2.2.2.2
  have hl : lv_has ls 1 [(0, .int p0)] := hl
  have h := hf
  unfold fX4_homeSize at h
  refine lv_iconst (v := 3) hx hb dX4_homeSize_0 (by decide) ?_
  refine lv_iload_n hx hb dX4_homeSize_1 rfl (lv_at hl 0 rfl) ?_
  refine lv_iconst (v := 1) hx hb dX4_homeSize_2 (by decide) ?_
  refine lv_iadd hx hb dX4_homeSize_3 ?_
  refine va_mmax hx hb (by rw [hml]; exact hl.1.symm) hown (hq _ q_143) (hq _ q_5) (hq _ q_6) (hq _ q_7) (Nat.le_of_ble_eq_true rfl) (Nat.le_of_ble_eq_true rfl) (Nat.le_of_ble_eq_true rfl) (Nat.le_of_ble_eq_true rfl) dX4_homeSize_4 ?_
  exact retR hQ S hr hlocks h dX4_homeSize_7

def fX4_movedSize (p0 : Int32) : Option (Int32) := some (p0 + (3 : Int32))
abbrev rmX4_movedSize : Room := { frames := 0, cells := 0, slots := 0, locals := 0 }
set_option maxRecDepth 100000 in
set_option maxHeartbeats 4000000 in
theorem kX4_movedSize (l : Launch) (G : va_G) (cI cS : ClassId) (p0 : Int32) (r : Int32) (hf : fX4_movedSize p0 = some r) : Met l yX4_movedSize (.code yX4_movedSize cX4_movedSize 1 (some .int) :: bw) rmX4_movedSize (va_Pc [.int p0] (PreR G (tysW cI cS) wE)) (vp_Si (fun r' => r' = r)) 0 0 (fun _ => False) := by
  refine enterR (own := RX4) (by decide) rfl rfl (Nat.le_of_ble_eq_true rfl) ?_
  intro p e s m args below meth c Q hQ S hr hlocks hP hK hN ls hl
  have hx := S.1; have hb := S.2.1; have hml := S.2.2.1; have hown := S.2.2.2.1; have hq := S.2.2.2.2
  have hl : lv_has ls 1 [(0, .int p0)] := hl
  have h := hf
  unfold fX4_movedSize at h
  refine lv_iload_n hx hb dX4_movedSize_0 rfl (lv_at hl 0 rfl) ?_
  refine lv_iconst (v := 3) hx hb dX4_movedSize_1 (by decide) ?_
  refine lv_iadd hx hb dX4_movedSize_2 ?_
  exact retR hQ S hr hlocks h dX4_movedSize_3

def fX4_slotOffset (p0 : Int32) : Option (Int32) := some ((2 : Int32) + ((2 : Int32) * p0))
abbrev rmX4_slotOffset : Room := { frames := 0, cells := 0, slots := 0, locals := 0 }
set_option maxRecDepth 100000 in
set_option maxHeartbeats 4000000 in
theorem kX4_slotOffset (l : Launch) (G : va_G) (cI cS : ClassId) (p0 : Int32) (r : Int32) (hf : fX4_slotOffset p0 = some r) : Met l yX4_slotOffset (.code yX4_slotOffset cX4_slotOffset 1 (some .int) :: bw) rmX4_slotOffset (va_Pc [.int p0] (PreR G (tysW cI cS) wE)) (vp_Si (fun r' => r' = r)) 0 0 (fun _ => False) := by
  refine enterR (own := RX4) (by decide) rfl rfl (Nat.le_of_ble_eq_true rfl) ?_
  intro p e s m args below meth c Q hQ S hr hlocks hP hK hN ls hl
  have hx := S.1; have hb := S.2.1; have hml := S.2.2.1; have hown := S.2.2.2.1; have hq := S.2.2.2.2
  have hl : lv_has ls 1 [(0, .int p0)] := hl
  have h := hf
  unfold fX4_slotOffset at h
  refine lv_iconst (v := 2) hx hb dX4_slotOffset_0 (by decide) ?_
  refine lv_iconst (v := 2) hx hb dX4_slotOffset_1 (by decide) ?_
  refine lv_iload_n hx hb dX4_slotOffset_2 rfl (lv_at hl 0 rfl) ?_
  refine lv_imul hx hb dX4_slotOffset_3 ?_
  refine lv_iadd hx hb dX4_slotOffset_4 ?_
  exact retR hQ S hr hlocks h dX4_slotOffset_5

theorem gf_X3_9 {p : Program} {l : Launch} {e : Env} {R : Room} {s : State} {m : MethodId} {args : Array Value} {below : List Frame} {meth : Method} {c : Code} {H : Heap} {locs : List Loc} {cells slots : Nat} {cc : ByteArray} {pc nL : Nat} {ls : Array Slot} {rest : List Value} {G : va_G} {Q : State → Prop} {tys : List (ClassId × FieldType)} {ws : va_W} {a : Nat} (S : CallFix p m c cc nL s args bw RX3) (hK : va_K G vwCl tys s) (hN : NW s) (hP : va_P G vwCl ws H) (q0 : Nat) {fs : List Value} (he : ws[q0]? = some (a, .inr (3, fs))) {v : Value} (hv : fs[0]? = some v) (hdg : decode cc pc = .ok (.getfield 9, 3)) (kk : W p l e R s m args below meth c H locs cells slots Q (F0 m (pc + 3) ls (v :: rest))) : W p l e R s m args below meth c H locs cells slots Q (F0 m pc ls (.ref a :: rest)) :=
  va_get (C := RX3) (T := TX3) (N := 5) S.1 S.2.1 S.2.2.2.2 bi_U3 S.2.2.2.1 hK hP q0 he rfl 0 (by decide) (S.2.2.2.2 _ q_30) (fun _ h9 => h9) hv hdg kk
def fX3_byteAt (u : TS) (p0 : Int32) (p1 : Int32) : Option (Int32) := (if (((128 : Int32) * p0) + p1) < 0 then some (0 : Int32) else (if (1024 : Int32) ≤ (((128 : Int32) * p0) + p1) then some (0 : Int32) else ((rd u.2 1024 (((128 : Int32) * p0) + p1)).bind fun z3 => some z3)))
abbrev rmX3_byteAt : Room := { frames := 0, cells := 0, slots := 0, locals := 0 }
set_option maxRecDepth 100000 in
set_option maxHeartbeats 4000000 in
theorem kX3_byteAt (l : Launch) (G : va_G) (cI cS : ClassId) (g0 g1 : Nat) (u : TS) (p0 : Int32) (p1 : Int32) (r : Int32) (hf : fX3_byteAt u p0 p1 = some r) : Met l yX3_byteAt (.code yX3_byteAt cX3_byteAt 4 (some .int) :: bw) rmX3_byteAt (va_Pc [.ref g0, .int p0, .int p1] (PreR G (tysW cI cS) (wS cI g0 g1 u))) (vp_Si (fun r' => r' = r)) 0 0 (fun _ => False) := by
  refine enterR (own := RX3) (by decide) rfl rfl (Nat.le_of_ble_eq_true rfl) ?_
  intro p e s m args below meth c Q hQ S hr hlocks hP hK hN ls hl
  have hx := S.1; have hb := S.2.1; have hml := S.2.2.1; have hown := S.2.2.2.1; have hq := S.2.2.2.2
  have hl : lv_has ls 4 [(0, .ref g0), (1, .int p0), (2, .int p1)] := hl
  have h := hf
  unfold fX3_byteAt at h
  refine lv_sipush (v := 128) hx hb dX3_byteAt_0 (by decide) ?_
  refine lv_iload_n hx hb dX3_byteAt_3 rfl (lv_at hl 1 rfl) ?_
  refine lv_imul hx hb dX3_byteAt_4 ?_
  refine lv_iload_n hx hb dX3_byteAt_5 rfl (lv_at hl 2 rfl) ?_
  refine lv_iadd hx hb dX3_byteAt_6 ?_
  refine lv_istore_n (lv' := [(3, .int (((128 : Int32) * p0) + p1)), (0, .ref g0), (1, .int p0), (2, .int p1)]) hx hb dX3_byteAt_7 rfl hl (by decide) rfl (fun ls hl => ?_)
  refine lv_iload_n hx hb dX3_byteAt_8 rfl (lv_at hl 0 rfl) ?_
  refine lv_if_lt (tgt := 30) hx hb dX3_byteAt_9 (by decide) (fun c1 => ?_) (fun c1 => ?_)
  · have h := (if_pos c1).symm.trans h
    refine lv_iconst (v := 0) hx hb dX3_byteAt_30 (by decide) ?_
    exact retR hQ S hr hlocks h dX3_byteAt_31
  · have h := (if_neg c1).symm.trans h
    refine lv_iload_n hx hb dX3_byteAt_12 rfl (lv_at hl 0 rfl) ?_
    refine lv_aload_n hx hb dX3_byteAt_13 rfl (lv_at hl 1 rfl) ?_
    refine gf_X3_9 S hK hN hP 0 rfl (v := .ref g1) rfl dX3_byteAt_14 ?_
    refine va_alen hx hb hK hP 1 0 rfl rfl (v := (1024 : Int32)) rfl dX3_byteAt_17 ?_
    refine lv_icmp_ge (tgt := 30) hx hb dX3_byteAt_18 (by decide) (fun c2 => ?_) (fun c2 => ?_)
    · have h := (if_pos c2).symm.trans h
      refine lv_iconst (v := 0) hx hb dX3_byteAt_30 (by decide) ?_
      exact retR hQ S hr hlocks h dX3_byteAt_31
    · have h := (if_neg c2).symm.trans h
      refine lv_aload_n hx hb dX3_byteAt_21 rfl (lv_at hl 1 rfl) ?_
      refine gf_X3_9 S hK hN hP 0 rfl (v := .ref g1) rfl dX3_byteAt_22 ?_
      refine lv_iload_n hx hb dX3_byteAt_25 rfl (lv_at hl 0 rfl) ?_
      obtain ⟨z3, e_z3, h⟩ := bnd h
      refine iaO (f := u.2) hx hb hK hP 1 0 rfl rfl e_z3 dX3_byteAt_26 ?_
      refine lv_goto (tgt := 31) hx hb dX3_byteAt_27 (by decide) ?_
      exact retR hQ S hr hlocks h dX3_byteAt_31

def fX3_slotCount (u : TS) (p0 : Int32) : Option (Int32) := (if (((128 : Int32) * p0) + (0 : Int32)) < 0 then some (0 : Int32) else (if (1024 : Int32) ≤ (((128 : Int32) * p0) + (0 : Int32)) then some (0 : Int32) else ((rd u.2 1024 (((128 : Int32) * p0) + (0 : Int32))).bind fun z3 => some z3)))
abbrev rmX3_slotCount : Room := { frames := 0, cells := 0, slots := 0, locals := 0 }
set_option maxRecDepth 100000 in
set_option maxHeartbeats 4000000 in
theorem kX3_slotCount (l : Launch) (G : va_G) (cI cS : ClassId) (g0 g1 : Nat) (u : TS) (p0 : Int32) (r : Int32) (hf : fX3_slotCount u p0 = some r) : Met l yX3_slotCount (.code yX3_slotCount cX3_slotCount 3 (some .int) :: bw) rmX3_slotCount (va_Pc [.ref g0, .int p0] (PreR G (tysW cI cS) (wS cI g0 g1 u))) (vp_Si (fun r' => r' = r)) 0 0 (fun _ => False) := by
  refine enterR (own := RX3) (by decide) rfl rfl (Nat.le_of_ble_eq_true rfl) ?_
  intro p e s m args below meth c Q hQ S hr hlocks hP hK hN ls hl
  have hx := S.1; have hb := S.2.1; have hml := S.2.2.1; have hown := S.2.2.2.1; have hq := S.2.2.2.2
  have hl : lv_has ls 3 [(0, .ref g0), (1, .int p0)] := hl
  have h := hf
  unfold fX3_slotCount at h
  refine lv_sipush (v := 128) hx hb dX3_slotCount_0 (by decide) ?_
  refine lv_iload_n hx hb dX3_slotCount_3 rfl (lv_at hl 1 rfl) ?_
  refine lv_imul hx hb dX3_slotCount_4 ?_
  refine lv_iconst (v := 0) hx hb dX3_slotCount_5 (by decide) ?_
  refine lv_iadd hx hb dX3_slotCount_6 ?_
  refine lv_istore_n (lv' := [(2, .int (((128 : Int32) * p0) + (0 : Int32))), (0, .ref g0), (1, .int p0)]) hx hb dX3_slotCount_7 rfl hl (by decide) rfl (fun ls hl => ?_)
  refine lv_iload_n hx hb dX3_slotCount_8 rfl (lv_at hl 0 rfl) ?_
  refine lv_if_lt (tgt := 30) hx hb dX3_slotCount_9 (by decide) (fun c1 => ?_) (fun c1 => ?_)
  · have h := (if_pos c1).symm.trans h
    refine lv_iconst (v := 0) hx hb dX3_slotCount_30 (by decide) ?_
    exact retR hQ S hr hlocks h dX3_slotCount_31
  · have h := (if_neg c1).symm.trans h
    refine lv_iload_n hx hb dX3_slotCount_12 rfl (lv_at hl 0 rfl) ?_
    refine lv_aload_n hx hb dX3_slotCount_13 rfl (lv_at hl 1 rfl) ?_
    refine gf_X3_9 S hK hN hP 0 rfl (v := .ref g1) rfl dX3_slotCount_14 ?_
    refine va_alen hx hb hK hP 1 0 rfl rfl (v := (1024 : Int32)) rfl dX3_slotCount_17 ?_
    refine lv_icmp_ge (tgt := 30) hx hb dX3_slotCount_18 (by decide) (fun c2 => ?_) (fun c2 => ?_)
    · have h := (if_pos c2).symm.trans h
      refine lv_iconst (v := 0) hx hb dX3_slotCount_30 (by decide) ?_
      exact retR hQ S hr hlocks h dX3_slotCount_31
    · have h := (if_neg c2).symm.trans h
      refine lv_aload_n hx hb dX3_slotCount_21 rfl (lv_at hl 1 rfl) ?_
      refine gf_X3_9 S hK hN hP 0 rfl (v := .ref g1) rfl dX3_slotCount_22 ?_
      refine lv_iload_n hx hb dX3_slotCount_25 rfl (lv_at hl 0 rfl) ?_
      obtain ⟨z3, e_z3, h⟩ := bnd h
      refine iaO (f := u.2) hx hb hK hP 1 0 rfl rfl e_z3 dX3_slotCount_26 ?_
      refine lv_goto (tgt := 31) hx hb dX3_slotCount_27 (by decide) ?_
      exact retR hQ S hr hlocks h dX3_slotCount_31

def fX3_offsetOf (u : TS) (p0 : Int32) (p1 : Int32) : Option (Int32) := (if ((((128 : Int32) * p0) + (2 : Int32)) + ((2 : Int32) * p1)) < 0 then some (0 : Int32) else (if (1024 : Int32) ≤ ((((128 : Int32) * p0) + (2 : Int32)) + ((2 : Int32) * p1)) then some (0 : Int32) else ((rd u.2 1024 ((((128 : Int32) * p0) + (2 : Int32)) + ((2 : Int32) * p1))).bind fun z3 => some z3)))
abbrev rmX3_offsetOf : Room := { frames := 0, cells := 0, slots := 0, locals := 0 }
set_option maxRecDepth 100000 in
set_option maxHeartbeats 4000000 in
theorem kX3_offsetOf (l : Launch) (G : va_G) (cI cS : ClassId) (g0 g1 : Nat) (u : TS) (p0 : Int32) (p1 : Int32) (r : Int32) (hf : fX3_offsetOf u p0 p1 = some r) : Met l yX3_offsetOf (.code yX3_offsetOf cX3_offsetOf 4 (some .int) :: bw) rmX3_offsetOf (va_Pc [.ref g0, .int p0, .int p1] (PreR G (tysW cI cS) (wS cI g0 g1 u))) (vp_Si (fun r' => r' = r)) 0 0 (fun _ => False) := by
  refine enterR (own := RX3) (by decide) rfl rfl (Nat.le_of_ble_eq_true rfl) ?_
  intro p e s m args below meth c Q hQ S hr hlocks hP hK hN ls hl
  have hx := S.1; have hb := S.2.1; have hml := S.2.2.1; have hown := S.2.2.2.1; have hq := S.2.2.2.2
  have hl : lv_has ls 4 [(0, .ref g0), (1, .int p0), (2, .int p1)] := hl
  have h := hf
  unfold fX3_offsetOf at h
  refine lv_sipush (v := 128) hx hb dX3_offsetOf_0 (by decide) ?_
  refine lv_iload_n hx hb dX3_offsetOf_3 rfl (lv_at hl 1 rfl) ?_
  refine lv_imul hx hb dX3_offsetOf_4 ?_
  refine lv_iconst (v := 2) hx hb dX3_offsetOf_5 (by decide) ?_
  refine lv_iadd hx hb dX3_offsetOf_6 ?_
  refine lv_iconst (v := 2) hx hb dX3_offsetOf_7 (by decide) ?_
  refine lv_iload_n hx hb dX3_offsetOf_8 rfl (lv_at hl 2 rfl) ?_
  refine lv_imul hx hb dX3_offsetOf_9 ?_
  refine lv_iadd hx hb dX3_offsetOf_10 ?_
  refine lv_istore_n (lv' := [(3, .int ((((128 : Int32) * p0) + (2 : Int32)) + ((2 : Int32) * p1))), (0, .ref g0), (1, .int p0), (2, .int p1)]) hx hb dX3_offsetOf_11 rfl hl (by decide) rfl (fun ls hl => ?_)
  refine lv_iload_n hx hb dX3_offsetOf_12 rfl (lv_at hl 0 rfl) ?_
  refine lv_if_lt (tgt := 34) hx hb dX3_offsetOf_13 (by decide) (fun c1 => ?_) (fun c1 => ?_)
  · have h := (if_pos c1).symm.trans h
    refine lv_iconst (v := 0) hx hb dX3_offsetOf_34 (by decide) ?_
    exact retR hQ S hr hlocks h dX3_offsetOf_35
  · have h := (if_neg c1).symm.trans h
    refine lv_iload_n hx hb dX3_offsetOf_16 rfl (lv_at hl 0 rfl) ?_
    refine lv_aload_n hx hb dX3_offsetOf_17 rfl (lv_at hl 1 rfl) ?_
    refine gf_X3_9 S hK hN hP 0 rfl (v := .ref g1) rfl dX3_offsetOf_18 ?_
    refine va_alen hx hb hK hP 1 0 rfl rfl (v := (1024 : Int32)) rfl dX3_offsetOf_21 ?_
    refine lv_icmp_ge (tgt := 34) hx hb dX3_offsetOf_22 (by decide) (fun c2 => ?_) (fun c2 => ?_)
    · have h := (if_pos c2).symm.trans h
      refine lv_iconst (v := 0) hx hb dX3_offsetOf_34 (by decide) ?_
      exact retR hQ S hr hlocks h dX3_offsetOf_35
    · have h := (if_neg c2).symm.trans h
      refine lv_aload_n hx hb dX3_offsetOf_25 rfl (lv_at hl 1 rfl) ?_
      refine gf_X3_9 S hK hN hP 0 rfl (v := .ref g1) rfl dX3_offsetOf_26 ?_
      refine lv_iload_n hx hb dX3_offsetOf_29 rfl (lv_at hl 0 rfl) ?_
      obtain ⟨z3, e_z3, h⟩ := bnd h
      refine iaO (f := u.2) hx hb hK hP 1 0 rfl rfl e_z3 dX3_offsetOf_30 ?_
      refine lv_goto (tgt := 35) hx hb dX3_offsetOf_31 (by decide) ?_
      exact retR hQ S hr hlocks h dX3_offsetOf_35

def fX3_sizeOf (u : TS) (p0 : Int32) (p1 : Int32) : Option (Int32) := (if (((((128 : Int32) * p0) + (2 : Int32)) + ((2 : Int32) * p1)) + (1 : Int32)) < 0 then some (0 : Int32) else (if (1024 : Int32) ≤ (((((128 : Int32) * p0) + (2 : Int32)) + ((2 : Int32) * p1)) + (1 : Int32)) then some (0 : Int32) else ((rd u.2 1024 (((((128 : Int32) * p0) + (2 : Int32)) + ((2 : Int32) * p1)) + (1 : Int32))).bind fun z3 => some z3)))
abbrev rmX3_sizeOf : Room := { frames := 0, cells := 0, slots := 0, locals := 0 }
set_option maxRecDepth 100000 in
set_option maxHeartbeats 4000000 in
theorem kX3_sizeOf (l : Launch) (G : va_G) (cI cS : ClassId) (g0 g1 : Nat) (u : TS) (p0 : Int32) (p1 : Int32) (r : Int32) (hf : fX3_sizeOf u p0 p1 = some r) : Met l yX3_sizeOf (.code yX3_sizeOf cX3_sizeOf 4 (some .int) :: bw) rmX3_sizeOf (va_Pc [.ref g0, .int p0, .int p1] (PreR G (tysW cI cS) (wS cI g0 g1 u))) (vp_Si (fun r' => r' = r)) 0 0 (fun _ => False) := by
  refine enterR (own := RX3) (by decide) rfl rfl (Nat.le_of_ble_eq_true rfl) ?_
  intro p e s m args below meth c Q hQ S hr hlocks hP hK hN ls hl
  have hx := S.1; have hb := S.2.1; have hml := S.2.2.1; have hown := S.2.2.2.1; have hq := S.2.2.2.2
  have hl : lv_has ls 4 [(0, .ref g0), (1, .int p0), (2, .int p1)] := hl
  have h := hf
  unfold fX3_sizeOf at h
  refine lv_sipush (v := 128) hx hb dX3_sizeOf_0 (by decide) ?_
  refine lv_iload_n hx hb dX3_sizeOf_3 rfl (lv_at hl 1 rfl) ?_
  refine lv_imul hx hb dX3_sizeOf_4 ?_
  refine lv_iconst (v := 2) hx hb dX3_sizeOf_5 (by decide) ?_
  refine lv_iadd hx hb dX3_sizeOf_6 ?_
  refine lv_iconst (v := 2) hx hb dX3_sizeOf_7 (by decide) ?_
  refine lv_iload_n hx hb dX3_sizeOf_8 rfl (lv_at hl 2 rfl) ?_
  refine lv_imul hx hb dX3_sizeOf_9 ?_
  refine lv_iadd hx hb dX3_sizeOf_10 ?_
  refine lv_iconst (v := 1) hx hb dX3_sizeOf_11 (by decide) ?_
  refine lv_iadd hx hb dX3_sizeOf_12 ?_
  refine lv_istore_n (lv' := [(3, .int (((((128 : Int32) * p0) + (2 : Int32)) + ((2 : Int32) * p1)) + (1 : Int32))), (0, .ref g0), (1, .int p0), (2, .int p1)]) hx hb dX3_sizeOf_13 rfl hl (by decide) rfl (fun ls hl => ?_)
  refine lv_iload_n hx hb dX3_sizeOf_14 rfl (lv_at hl 0 rfl) ?_
  refine lv_if_lt (tgt := 36) hx hb dX3_sizeOf_15 (by decide) (fun c1 => ?_) (fun c1 => ?_)
  · have h := (if_pos c1).symm.trans h
    refine lv_iconst (v := 0) hx hb dX3_sizeOf_36 (by decide) ?_
    exact retR hQ S hr hlocks h dX3_sizeOf_37
  · have h := (if_neg c1).symm.trans h
    refine lv_iload_n hx hb dX3_sizeOf_18 rfl (lv_at hl 0 rfl) ?_
    refine lv_aload_n hx hb dX3_sizeOf_19 rfl (lv_at hl 1 rfl) ?_
    refine gf_X3_9 S hK hN hP 0 rfl (v := .ref g1) rfl dX3_sizeOf_20 ?_
    refine va_alen hx hb hK hP 1 0 rfl rfl (v := (1024 : Int32)) rfl dX3_sizeOf_23 ?_
    refine lv_icmp_ge (tgt := 36) hx hb dX3_sizeOf_24 (by decide) (fun c2 => ?_) (fun c2 => ?_)
    · have h := (if_pos c2).symm.trans h
      refine lv_iconst (v := 0) hx hb dX3_sizeOf_36 (by decide) ?_
      exact retR hQ S hr hlocks h dX3_sizeOf_37
    · have h := (if_neg c2).symm.trans h
      refine lv_aload_n hx hb dX3_sizeOf_27 rfl (lv_at hl 1 rfl) ?_
      refine gf_X3_9 S hK hN hP 0 rfl (v := .ref g1) rfl dX3_sizeOf_28 ?_
      refine lv_iload_n hx hb dX3_sizeOf_31 rfl (lv_at hl 0 rfl) ?_
      obtain ⟨z3, e_z3, h⟩ := bnd h
      refine iaO (f := u.2) hx hb hK hP 1 0 rfl rfl e_z3 dX3_sizeOf_32 ?_
      refine lv_goto (tgt := 37) hx hb dX3_sizeOf_33 (by decide) ?_
      exact retR hQ S hr hlocks h dX3_sizeOf_37

theorem cc_X3_15 {p : Program} {l : Launch} {e : Env} {R : Room} {s : State} {m : MethodId} {args : Array Value} {below : List Frame} {meth : Method} {c : Code} {H : Heap} {locs : List Loc} {cells slots : Nat} {cc : ByteArray} {pc nL : Nat} {ls : Array Slot} {rest : List Value} {G : va_G} (g0 g1 : Nat) {cI cS : ClassId} {u : TS}  {p0 : Int32} {p1 : Int32} {r : Int32} (S : CallFix p m c cc nL s args bw RX3) (hK : va_K G vwCl (tysW cI cS) s) (hN : NW s) (hP : va_P G vwCl (wS cI g0 g1 u) H) (hf : fX3_offsetOf u p0 p1 = some r) (hsz : ls.size = nL) (hst : (rest.map fun v => v.category).sum ≤ 8) (hR : rmX3_offsetOf.frames + 1 ≤ R.frames ∧ 8 + (4 + 11) + rmX3_offsetOf.locals ≤ R.locals) (hdg : decode cc pc = .ok (.invokevirtual 15, 3)) (hcs : cells + 0 ≤ R.cells ∧ slots + 0 ≤ R.slots) : va_Run p l e R s m args below meth c H locs cells slots 0 0 (F0 m pc ls (.int p1 :: .int p0 :: .ref g0 :: rest)) rest (vp_Si (fun r' => r' = r) (#[.ref g0, .int p0, .int p1] : Array Value)) (fun _ => False) :=
  va_runV (As := [.int p0, .int p1]) (rest := rest) S (kX3_offsetOf l G cI cS g0 g1 u p0 p1 r hf) (cwV 2 S.2.2.2.2 (gdV q_100 q_80 q_81 q_35 q_75) rfl rfl rfl (by decide +kernel) hR) (pvR (q := (RX3, TX3, 5)) hK hN hP (ci := 3) (q0 := 0) rfl rfl) rfl rfl hsz rfl (lv_room hst) hdg hcs
theorem cc_X3_19 {p : Program} {l : Launch} {e : Env} {R : Room} {s : State} {m : MethodId} {args : Array Value} {below : List Frame} {meth : Method} {c : Code} {H : Heap} {locs : List Loc} {cells slots : Nat} {cc : ByteArray} {pc nL : Nat} {ls : Array Slot} {rest : List Value} {G : va_G} (g0 g1 : Nat) {cI cS : ClassId} {u : TS}  {p0 : Int32} {p1 : Int32} {r : Int32} (S : CallFix p m c cc nL s args bw RX3) (hK : va_K G vwCl (tysW cI cS) s) (hN : NW s) (hP : va_P G vwCl (wS cI g0 g1 u) H) (hf : fX3_byteAt u p0 p1 = some r) (hsz : ls.size = nL) (hst : (rest.map fun v => v.category).sum ≤ 8) (hR : rmX3_byteAt.frames + 1 ≤ R.frames ∧ 8 + (4 + 11) + rmX3_byteAt.locals ≤ R.locals) (hdg : decode cc pc = .ok (.invokevirtual 19, 3)) (hcs : cells + 0 ≤ R.cells ∧ slots + 0 ≤ R.slots) : va_Run p l e R s m args below meth c H locs cells slots 0 0 (F0 m pc ls (.int p1 :: .int p0 :: .ref g0 :: rest)) rest (vp_Si (fun r' => r' = r) (#[.ref g0, .int p0, .int p1] : Array Value)) (fun _ => False) :=
  va_runV (As := [.int p0, .int p1]) (rest := rest) S (kX3_byteAt l G cI cS g0 g1 u p0 p1 r hf) (cwV 2 S.2.2.2.2 (gdV q_101 q_59 q_60 q_35 q_57) rfl rfl rfl (by decide +kernel) hR) (pvR (q := (RX3, TX3, 5)) hK hN hP (ci := 3) (q0 := 0) rfl rfl) rfl rfl hsz rfl (lv_room hst) hdg hcs
def fX3_recordByte (u : TS) (p0 : Int32) (p1 : Int32) (p2 : Int32) : Option (Int32) := ((fX3_offsetOf u p0 p1).bind fun z1 => ((fX3_byteAt u p0 (z1 + p2)).bind fun z2 => some z2))
abbrev rmX3_recordByte : Room := { frames := 1, cells := 0, slots := 0, locals := 23 }
set_option maxRecDepth 100000 in
set_option maxHeartbeats 4000000 in
theorem kX3_recordByte (l : Launch) (G : va_G) (cI cS : ClassId) (g0 g1 : Nat) (u : TS) (p0 : Int32) (p1 : Int32) (p2 : Int32) (r : Int32) (hf : fX3_recordByte u p0 p1 p2 = some r) : Met l yX3_recordByte (.code yX3_recordByte cX3_recordByte 4 (some .int) :: bw) rmX3_recordByte (va_Pc [.ref g0, .int p0, .int p1, .int p2] (PreR G (tysW cI cS) (wS cI g0 g1 u))) (vp_Si (fun r' => r' = r)) 0 0 (fun _ => False) := by
  refine enterR (own := RX3) (by decide) rfl rfl (Nat.le_of_ble_eq_true rfl) ?_
  intro p e s m args below meth c Q hQ S hr hlocks hP hK hN ls hl
  have hx := S.1; have hb := S.2.1; have hml := S.2.2.1; have hown := S.2.2.2.1; have hq := S.2.2.2.2
  have hl : lv_has ls 4 [(0, .ref g0), (1, .int p0), (2, .int p1), (3, .int p2)] := hl
  have h := hf
  unfold fX3_recordByte at h
  refine lv_aload_n hx hb dX3_recordByte_0 rfl (lv_at hl 0 rfl) ?_
  refine lv_iload_n hx hb dX3_recordByte_1 rfl (lv_at hl 1 rfl) ?_
  refine lv_aload_n hx hb dX3_recordByte_2 rfl (lv_at hl 0 rfl) ?_
  refine lv_iload_n hx hb dX3_recordByte_3 rfl (lv_at hl 1 rfl) ?_
  refine lv_iload_n hx hb dX3_recordByte_4 rfl (lv_at hl 2 rfl) ?_
  obtain ⟨z1, e_z1, h⟩ := bnd h
  refine roI (cc_X3_15 g0 g1 S hK hN hP e_z1 hl.1 (Nat.le_of_ble_eq_true rfl) ⟨Nat.le_of_ble_eq_true rfl, Nat.le_of_ble_eq_true rfl⟩ dX3_recordByte_5 ⟨Nat.le_of_ble_eq_true rfl, Nat.le_of_ble_eq_true rfl⟩) ?_
  refine lv_iload_n hx hb dX3_recordByte_8 rfl (lv_at hl 3 rfl) ?_
  refine lv_iadd hx hb dX3_recordByte_9 ?_
  obtain ⟨z2, e_z2, h⟩ := bnd h
  refine roI (cc_X3_19 g0 g1 S hK hN hP e_z2 hl.1 (Nat.le_of_ble_eq_true rfl) ⟨Nat.le_of_ble_eq_true rfl, Nat.le_of_ble_eq_true rfl⟩ dX3_recordByte_10 ⟨Nat.le_of_ble_eq_true rfl, Nat.le_of_ble_eq_true rfl⟩) ?_
  exact retR hQ S hr hlocks h dX3_recordByte_13

def fX3_setByte (u : TS) (p0 : Int32) (p1 : Int32) (p2 : Int32) : Option (TS) := (if (((128 : Int32) * p0) + p1) < 0 then some u else (if (1024 : Int32) ≤ (((128 : Int32) * p0) + p1) then some u else ((wr u.2 1024 (((128 : Int32) * p0) + p1) p2).bind fun z3 => some (u.1, z3))))
abbrev rmX3_setByte : Room := { frames := 0, cells := 0, slots := 0, locals := 0 }
set_option maxRecDepth 100000 in
set_option maxHeartbeats 4000000 in
theorem kX3_setByte (l : Launch) (G : va_G) (cI cS : ClassId) (g0 g1 : Nat) (sz : Nat) (u : TS) (p0 : Int32) (p1 : Int32) (p2 : Int32) (r : TS) (hf : fX3_setByte u p0 p1 p2 = some r) : Met l yX3_setByte (.code yX3_setByte cX3_setByte 5 none :: bw) rmX3_setByte (va_Pc [.ref g0, .int p0, .int p1, .int p2] (PreM G (tysW cI cS) (wS cI g0 g1 u) sz)) (va_Qv (fun u' => u' = r) (PoM G (tysW cI cS) (va_A (wS cI g0 g1 u) sz) (wS cI g0 g1)) (va_A (wS cI g0 g1 u) sz)) 0 0 (va_A (wS cI g0 g1 u) sz) := by
  refine enterM (own := RX3) (by decide) rfl (Nat.le_of_ble_eq_true rfl) ?_
  intro p e s m args below meth c A Q hAe hQ S hr hlocks hP hK hN hD hA hS ls hl
  rw [hAe] at hQ
  have hx := S.1; have hb := S.2.1; have hml := S.2.2.1; have hown := S.2.2.2.1; have hq := S.2.2.2.2
  have hl : lv_has ls 5 [(0, .ref g0), (1, .int p0), (2, .int p1), (3, .int p2)] := hl
  have h := hf
  unfold fX3_setByte at h
  refine lv_sipush (v := 128) hx hb dX3_setByte_0 (by decide) ?_
  refine lv_iload_n hx hb dX3_setByte_3 rfl (lv_at hl 1 rfl) ?_
  refine lv_imul hx hb dX3_setByte_4 ?_
  refine lv_iload_n hx hb dX3_setByte_5 rfl (lv_at hl 2 rfl) ?_
  refine lv_iadd hx hb dX3_setByte_6 ?_
  refine lv_istore (lv' := [(4, .int (((128 : Int32) * p0) + p1)), (0, .ref g0), (1, .int p0), (2, .int p1), (3, .int p2)]) hx hb dX3_setByte_7 hl (by decide) rfl (fun ls hl => ?_)
  refine lv_iload hx hb dX3_setByte_9 (lv_at hl 0 rfl) ?_
  refine lv_if_lt (tgt := 32) hx hb dX3_setByte_11 (by decide) (fun c1 => ?_) (fun c1 => ?_)
  · have h := (if_pos c1).symm.trans h
    exact retMv hQ S hr hlocks hK hN hP hD hS h dX3_setByte_32
  · have h := (if_neg c1).symm.trans h
    refine lv_iload hx hb dX3_setByte_14 (lv_at hl 0 rfl) ?_
    refine lv_aload_n hx hb dX3_setByte_16 rfl (lv_at hl 1 rfl) ?_
    refine gf_X3_9 S hK hN hP 0 rfl (v := .ref g1) rfl dX3_setByte_17 ?_
    refine va_alen hx hb hK hP 1 0 rfl rfl (v := (1024 : Int32)) rfl dX3_setByte_20 ?_
    refine lv_icmp_ge (tgt := 32) hx hb dX3_setByte_21 (by decide) (fun c2 => ?_) (fun c2 => ?_)
    · have h := (if_pos c2).symm.trans h
      exact retMv hQ S hr hlocks hK hN hP hD hS h dX3_setByte_32
    · have h := (if_neg c2).symm.trans h
      refine lv_aload_n hx hb dX3_setByte_24 rfl (lv_at hl 1 rfl) ?_
      refine gf_X3_9 S hK hN hP 0 rfl (v := .ref g1) rfl dX3_setByte_25 ?_
      refine lv_iload hx hb dX3_setByte_28 (lv_at hl 0 rfl) ?_
      refine lv_iload_n hx hb dX3_setByte_30 rfl (lv_at hl 4 rfl) ?_
      obtain ⟨z3, e_z3, h⟩ := bnd h
      refine iaS (f := u.2) hx hb hK hP hD hS 1 0 rfl rfl e_z3 dX3_setByte_31 (fun H locs hP hD hS => ?_)
      have hP : va_P G vwCl (wS cI g0 g1 (u.1, z3)) H := hP
      have hD : va_D A (wS cI g0 g1 (u.1, z3)) := hD
      exact retMv hQ S hr hlocks hK hN hP hD hS h dX3_setByte_32

theorem cc_X3_22 {p : Program} {l : Launch} {e : Env} {R : Room} {s : State} {m : MethodId} {args : Array Value} {below : List Frame} {meth : Method} {c : Code} {H : Heap} {locs : List Loc} {cells slots : Nat} {cc : ByteArray} {pc nL : Nat} {ls : Array Slot} {rest : List Value} {G : va_G} {A : Nat → Prop} (g0 g1 : Nat) {cI cS : ClassId} {u : TS}  {p0 : Int32} {p1 : Int32} {p2 : Int32} {r : TS} (S : CallFix p m c cc nL s args bw RX3) (hK : va_K G vwCl (tysW cI cS) s) (hN : NW s) (hP : va_P G vwCl (wS cI g0 g1 u) H) (hD : va_D A (wS cI g0 g1 u)) (hf : fX3_setByte u p0 p1 p2 = some r) (hsz : ls.size = nL) (hst : (rest.map fun v => v.category).sum ≤ 8) (hR : rmX3_setByte.frames + 1 ≤ R.frames ∧ 8 + (5 + 11) + rmX3_setByte.locals ≤ R.locals) (hdg : decode cc pc = .ok (.invokevirtual 22, 3)) (hcs : cells + 0 ≤ R.cells ∧ slots + 0 ≤ R.slots) : va_Run p l e R s m args below meth c H locs cells slots 0 0 (F0 m pc ls (.int p2 :: .int p1 :: .int p0 :: .ref g0 :: rest)) rest (va_Qv (fun u' => u' = r) (PoM G (tysW cI cS) (va_A (wS cI g0 g1 u) H.size) (wS cI g0 g1)) (va_A (wS cI g0 g1 u) H.size) (#[.ref g0, .int p0, .int p1, .int p2] : Array Value)) (va_A (wS cI g0 g1 u) H.size) :=
  va_runV (As := [.int p0, .int p1, .int p2]) (rest := rest) S (kX3_setByte l G cI cS g0 g1 H.size u p0 p1 p2 r hf) (cwV 3 S.2.2.2.2 (gdV q_103 q_72 q_73 q_35 q_70) rfl rfl rfl (by decide +kernel) hR) (pvM (q := (RX3, TX3, 5)) hK hN hP hD (ci := 3) (q0 := 0) rfl rfl) rfl rfl hsz rfl (lv_room hst) hdg hcs
def fX3_setRecordByte (u : TS) (p0 : Int32) (p1 : Int32) (p2 : Int32) (p3 : Int32) : Option (TS) := ((fX3_offsetOf u p0 p1).bind fun z1 => ((fX3_setByte u p0 (z1 + p2) p3).bind fun z2 => some z2))
abbrev rmX3_setRecordByte : Room := { frames := 1, cells := 0, slots := 0, locals := 24 }
set_option maxRecDepth 100000 in
set_option maxHeartbeats 4000000 in
theorem kX3_setRecordByte (l : Launch) (G : va_G) (cI cS : ClassId) (g0 g1 : Nat) (sz : Nat) (u : TS) (p0 : Int32) (p1 : Int32) (p2 : Int32) (p3 : Int32) (r : TS) (hf : fX3_setRecordByte u p0 p1 p2 p3 = some r) : Met l yX3_setRecordByte (.code yX3_setRecordByte cX3_setRecordByte 5 none :: bw) rmX3_setRecordByte (va_Pc [.ref g0, .int p0, .int p1, .int p2, .int p3] (PreM G (tysW cI cS) (wS cI g0 g1 u) sz)) (va_Qv (fun u' => u' = r) (PoM G (tysW cI cS) (va_A (wS cI g0 g1 u) sz) (wS cI g0 g1)) (va_A (wS cI g0 g1 u) sz)) 0 0 (va_A (wS cI g0 g1 u) sz) := by
  refine enterM (own := RX3) (by decide) rfl (Nat.le_of_ble_eq_true rfl) ?_
  intro p e s m args below meth c A Q hAe hQ S hr hlocks hP hK hN hD hA hS ls hl
  rw [hAe] at hQ
  have hx := S.1; have hb := S.2.1; have hml := S.2.2.1; have hown := S.2.2.2.1; have hq := S.2.2.2.2
  have hl : lv_has ls 5 [(0, .ref g0), (1, .int p0), (2, .int p1), (3, .int p2), (4, .int p3)] := hl
  have h := hf
  unfold fX3_setRecordByte at h
  refine lv_aload_n hx hb dX3_setRecordByte_0 rfl (lv_at hl 0 rfl) ?_
  refine lv_iload_n hx hb dX3_setRecordByte_1 rfl (lv_at hl 1 rfl) ?_
  refine lv_aload_n hx hb dX3_setRecordByte_2 rfl (lv_at hl 0 rfl) ?_
  refine lv_iload_n hx hb dX3_setRecordByte_3 rfl (lv_at hl 1 rfl) ?_
  refine lv_iload_n hx hb dX3_setRecordByte_4 rfl (lv_at hl 2 rfl) ?_
  obtain ⟨z1, e_z1, h⟩ := bnd h
  refine roI (cc_X3_15 g0 g1 S hK hN hP e_z1 hl.1 (Nat.le_of_ble_eq_true rfl) ⟨Nat.le_of_ble_eq_true rfl, Nat.le_of_ble_eq_true rfl⟩ dX3_setRecordByte_5 ⟨Nat.le_of_ble_eq_true rfl, Nat.le_of_ble_eq_true rfl⟩) ?_
  refine lv_iload_n hx hb dX3_setRecordByte_8 rfl (lv_at hl 3 rfl) ?_
  refine lv_iadd hx hb dX3_setRecordByte_9 ?_
  refine lv_iload hx hb dX3_setRecordByte_10 (lv_at hl 4 rfl) ?_
  obtain ⟨z2, e_z2, h⟩ := bnd h
  refine muv (cc_X3_22 g0 g1 S hK hN hP hD e_z2 hl.1 (Nat.le_of_ble_eq_true rfl) ⟨Nat.le_of_ble_eq_true rfl, Nat.le_of_ble_eq_true rfl⟩ dX3_setRecordByte_12 ⟨Nat.le_of_ble_eq_true rfl, Nat.le_of_ble_eq_true rfl⟩) hS hD (va_free hD hS hA [0, 1] rfl) (fun H locs hP hD hS => ?_)
  have hP : va_P G vwCl (wS cI g0 g1 z2) H := hP
  have hD : va_D A (wS cI g0 g1 z2) := hD
  exact retMv hQ S hr hlocks hK hN hP hD hS h dX3_setRecordByte_15

theorem gf_X3_37 {p : Program} {l : Launch} {e : Env} {R : Room} {s : State} {m : MethodId} {args : Array Value} {below : List Frame} {meth : Method} {c : Code} {H : Heap} {locs : List Loc} {cells slots : Nat} {cc : ByteArray} {pc nL : Nat} {ls : Array Slot} {rest : List Value} {G : va_G} {Q : State → Prop} {tys : List (ClassId × FieldType)} {ws : va_W} {a : Nat} (S : CallFix p m c cc nL s args bw RX3) (hK : va_K G vwCl tys s) (hN : NW s) (hP : va_P G vwCl ws H) (q0 : Nat) {fs : List Value} (he : ws[q0]? = some (a, .inr (3, fs))) {v : Value} (hv : fs[1]? = some v) (hdg : decode cc pc = .ok (.getfield 37, 3)) (kk : W p l e R s m args below meth c H locs cells slots Q (F0 m (pc + 3) ls (v :: rest))) : W p l e R s m args below meth c H locs cells slots Q (F0 m pc ls (.ref a :: rest)) :=
  va_get (C := RX3) (T := TX3) (N := 5) S.1 S.2.1 S.2.2.2.2 bi_U3 S.2.2.2.1 hK hP q0 he rfl 1 (by decide) (S.2.2.2.2 _ q_110) (fun _ h9 => h9) hv hdg kk
theorem gf_X3_41 {p : Program} {l : Launch} {e : Env} {R : Room} {s : State} {m : MethodId} {args : Array Value} {below : List Frame} {meth : Method} {c : Code} {H : Heap} {locs : List Loc} {cells slots : Nat} {cc : ByteArray} {pc nL : Nat} {ls : Array Slot} {rest : List Value} {G : va_G} {Q : State → Prop} {tys : List (ClassId × FieldType)} {ws : va_W} {a : Nat} (S : CallFix p m c cc nL s args bw RX3) (hK : va_K G vwCl tys s) (hN : NW s) (hP : va_P G vwCl ws H) (q0 : Nat) {fs : List Value} (he : ws[q0]? = some (a, .inr (3, fs))) {v : Value} (hv : fs[2]? = some v) (hdg : decode cc pc = .ok (.getfield 41, 3)) (kk : W p l e R s m args below meth c H locs cells slots Q (F0 m (pc + 3) ls (v :: rest))) : W p l e R s m args below meth c H locs cells slots Q (F0 m pc ls (.ref a :: rest)) :=
  va_get (C := RX3) (T := TX3) (N := 5) S.1 S.2.1 S.2.2.2.2 bi_U3 S.2.2.2.1 hK hP q0 he rfl 2 (by decide) (S.2.2.2.2 _ q_111) (fun _ h9 => h9) hv hdg kk
theorem gf_X3_44 {p : Program} {l : Launch} {e : Env} {R : Room} {s : State} {m : MethodId} {args : Array Value} {below : List Frame} {meth : Method} {c : Code} {H : Heap} {locs : List Loc} {cells slots : Nat} {cc : ByteArray} {pc nL : Nat} {ls : Array Slot} {rest : List Value} {G : va_G} {Q : State → Prop} {tys : List (ClassId × FieldType)} {ws : va_W} {a : Nat} (S : CallFix p m c cc nL s args bw RX3) (hK : va_K G vwCl tys s) (hN : NW s) (hP : va_P G vwCl ws H) (q0 : Nat) {fs : List Value} (he : ws[q0]? = some (a, .inr (3, fs))) {v : Value} (hv : fs[3]? = some v) (hdg : decode cc pc = .ok (.getfield 44, 3)) (kk : W p l e R s m args below meth c H locs cells slots Q (F0 m (pc + 3) ls (v :: rest))) : W p l e R s m args below meth c H locs cells slots Q (F0 m pc ls (.ref a :: rest)) :=
  va_get (C := RX3) (T := TX3) (N := 5) S.1 S.2.1 S.2.2.2.2 bi_U3 S.2.2.2.1 hK hP q0 he rfl 3 (by decide) (S.2.2.2.2 _ q_112) (fun _ h9 => h9) hv hdg kk
theorem gf_X3_47 {p : Program} {l : Launch} {e : Env} {R : Room} {s : State} {m : MethodId} {args : Array Value} {below : List Frame} {meth : Method} {c : Code} {H : Heap} {locs : List Loc} {cells slots : Nat} {cc : ByteArray} {pc nL : Nat} {ls : Array Slot} {rest : List Value} {G : va_G} {Q : State → Prop} {tys : List (ClassId × FieldType)} {ws : va_W} {a : Nat} (S : CallFix p m c cc nL s args bw RX3) (hK : va_K G vwCl tys s) (hN : NW s) (hP : va_P G vwCl ws H) (q0 : Nat) {fs : List Value} (he : ws[q0]? = some (a, .inr (3, fs))) {v : Value} (hv : fs[4]? = some v) (hdg : decode cc pc = .ok (.getfield 47, 3)) (kk : W p l e R s m args below meth c H locs cells slots Q (F0 m (pc + 3) ls (v :: rest))) : W p l e R s m args below meth c H locs cells slots Q (F0 m pc ls (.ref a :: rest)) :=
  va_get (C := RX3) (T := TX3) (N := 5) S.1 S.2.1 S.2.2.2.2 bi_U3 S.2.2.2.1 hK hP q0 he rfl 4 (by decide) (S.2.2.2.2 _ q_113) (fun _ h9 => h9) hv hdg kk
theorem pf_X3_37 {p : Program} {l : Launch} {e : Env} {R : Room} {s : State} {m : MethodId} {args : Array Value} {below : List Frame} {meth : Method} {c : Code} {H : Heap} {locs : List Loc} {cells slots : Nat} {cc : ByteArray} {pc nL : Nat} {ls : Array Slot} {rest : List Value} {G : va_G} {Q : State → Prop} {tys : List (ClassId × FieldType)} {ws : va_W} {a : Nat} {A : Nat → Prop} {H0 : Heap} {x : Int32} (S : CallFix p m c cc nL s args bw RX3) (hK : va_K G vwCl tys s) (hN : NW s) (hP : va_P G vwCl ws H) (hD : va_D A ws) (hS : va_S A H0 H locs) (q0 : Nat) {fs : List Value} (he : ws[q0]? = some (a, .inr (3, fs))) (hl : 1 < fs.length) (hdg : decode cc pc = .ok (.putfield 37, 3)) (kk : ∀ (H1 : Heap) (locs1 : List Loc), va_P G vwCl (ws.set q0 (a, .inr (3, fs.set 1 (.int x)))) H1 → va_D A (ws.set q0 (a, .inr (3, fs.set 1 (.int x)))) → va_S A H0 H1 locs1 → W p l e R s m args below meth c H1 locs1 cells slots Q (F0 m (pc + 3) ls rest)) : W p l e R s m args below meth c H locs cells slots Q (F0 m pc ls (.int x :: .ref a :: rest)) :=
  va_put (ty := .int) (v := .int x) (C := RX3) (T := TX3) (N := 5) S.1 S.2.1 S.2.2.2.2 bi_U3 tyX3 tyX3_ok nmX3 S.2.2.2.1 hK hP hD hS q0 he rfl 1 (by decide) (S.2.2.2.2 _ q_110) (fun _ h9 => h9) rfl rfl rfl rfl hl hdg kk
theorem pf_X3_41 {p : Program} {l : Launch} {e : Env} {R : Room} {s : State} {m : MethodId} {args : Array Value} {below : List Frame} {meth : Method} {c : Code} {H : Heap} {locs : List Loc} {cells slots : Nat} {cc : ByteArray} {pc nL : Nat} {ls : Array Slot} {rest : List Value} {G : va_G} {Q : State → Prop} {tys : List (ClassId × FieldType)} {ws : va_W} {a : Nat} {A : Nat → Prop} {H0 : Heap} {x : Int32} (S : CallFix p m c cc nL s args bw RX3) (hK : va_K G vwCl tys s) (hN : NW s) (hP : va_P G vwCl ws H) (hD : va_D A ws) (hS : va_S A H0 H locs) (q0 : Nat) {fs : List Value} (he : ws[q0]? = some (a, .inr (3, fs))) (hl : 2 < fs.length) (hdg : decode cc pc = .ok (.putfield 41, 3)) (kk : ∀ (H1 : Heap) (locs1 : List Loc), va_P G vwCl (ws.set q0 (a, .inr (3, fs.set 2 (.int x)))) H1 → va_D A (ws.set q0 (a, .inr (3, fs.set 2 (.int x)))) → va_S A H0 H1 locs1 → W p l e R s m args below meth c H1 locs1 cells slots Q (F0 m (pc + 3) ls rest)) : W p l e R s m args below meth c H locs cells slots Q (F0 m pc ls (.int x :: .ref a :: rest)) :=
  va_put (ty := .int) (v := .int x) (C := RX3) (T := TX3) (N := 5) S.1 S.2.1 S.2.2.2.2 bi_U3 tyX3 tyX3_ok nmX3 S.2.2.2.1 hK hP hD hS q0 he rfl 2 (by decide) (S.2.2.2.2 _ q_111) (fun _ h9 => h9) rfl rfl rfl rfl hl hdg kk
theorem pf_X3_44 {p : Program} {l : Launch} {e : Env} {R : Room} {s : State} {m : MethodId} {args : Array Value} {below : List Frame} {meth : Method} {c : Code} {H : Heap} {locs : List Loc} {cells slots : Nat} {cc : ByteArray} {pc nL : Nat} {ls : Array Slot} {rest : List Value} {G : va_G} {Q : State → Prop} {tys : List (ClassId × FieldType)} {ws : va_W} {a : Nat} {A : Nat → Prop} {H0 : Heap} {x : Int32} (S : CallFix p m c cc nL s args bw RX3) (hK : va_K G vwCl tys s) (hN : NW s) (hP : va_P G vwCl ws H) (hD : va_D A ws) (hS : va_S A H0 H locs) (q0 : Nat) {fs : List Value} (he : ws[q0]? = some (a, .inr (3, fs))) (hl : 3 < fs.length) (hdg : decode cc pc = .ok (.putfield 44, 3)) (kk : ∀ (H1 : Heap) (locs1 : List Loc), va_P G vwCl (ws.set q0 (a, .inr (3, fs.set 3 (.int x)))) H1 → va_D A (ws.set q0 (a, .inr (3, fs.set 3 (.int x)))) → va_S A H0 H1 locs1 → W p l e R s m args below meth c H1 locs1 cells slots Q (F0 m (pc + 3) ls rest)) : W p l e R s m args below meth c H locs cells slots Q (F0 m pc ls (.int x :: .ref a :: rest)) :=
  va_put (ty := .int) (v := .int x) (C := RX3) (T := TX3) (N := 5) S.1 S.2.1 S.2.2.2.2 bi_U3 tyX3 tyX3_ok nmX3 S.2.2.2.1 hK hP hD hS q0 he rfl 3 (by decide) (S.2.2.2.2 _ q_112) (fun _ h9 => h9) rfl rfl rfl rfl hl hdg kk
theorem pf_X3_47 {p : Program} {l : Launch} {e : Env} {R : Room} {s : State} {m : MethodId} {args : Array Value} {below : List Frame} {meth : Method} {c : Code} {H : Heap} {locs : List Loc} {cells slots : Nat} {cc : ByteArray} {pc nL : Nat} {ls : Array Slot} {rest : List Value} {G : va_G} {Q : State → Prop} {tys : List (ClassId × FieldType)} {ws : va_W} {a : Nat} {A : Nat → Prop} {H0 : Heap} {x : Int32} (S : CallFix p m c cc nL s args bw RX3) (hK : va_K G vwCl tys s) (hN : NW s) (hP : va_P G vwCl ws H) (hD : va_D A ws) (hS : va_S A H0 H locs) (q0 : Nat) {fs : List Value} (he : ws[q0]? = some (a, .inr (3, fs))) (hl : 4 < fs.length) (hdg : decode cc pc = .ok (.putfield 47, 3)) (kk : ∀ (H1 : Heap) (locs1 : List Loc), va_P G vwCl (ws.set q0 (a, .inr (3, fs.set 4 (.int x)))) H1 → va_D A (ws.set q0 (a, .inr (3, fs.set 4 (.int x)))) → va_S A H0 H1 locs1 → W p l e R s m args below meth c H1 locs1 cells slots Q (F0 m (pc + 3) ls rest)) : W p l e R s m args below meth c H locs cells slots Q (F0 m pc ls (.int x :: .ref a :: rest)) :=
  va_put (ty := .int) (v := .int x) (C := RX3) (T := TX3) (N := 5) S.1 S.2.1 S.2.2.2.2 bi_U3 tyX3 tyX3_ok nmX3 S.2.2.2.1 hK hP hD hS q0 he rfl 4 (by decide) (S.2.2.2.2 _ q_113) (fun _ h9 => h9) rfl rfl rfl rfl hl hdg kk
def fX3_copyFrom (u : TS × TS) : Option (TS × TS) := some ((u.2.1, (va_cpy u.2.2 u.1.2 (0 : Int32).toNatClampNeg (0 : Int32).toNatClampNeg (if (1024 : Int32) < (1024 : Int32) then (1024 : Int32) else (1024 : Int32)).toNatClampNeg)), u.2)
abbrev rmX3_copyFrom : Room := { frames := 1, cells := 0, slots := 0, locals := 60 }
set_option maxRecDepth 100000 in
set_option maxHeartbeats 4000000 in
theorem kX3_copyFrom (l : Launch) (G : va_G) (cI cS : ClassId) (g0 g1 g2 g3 : Nat) (sz : Nat) (u : TS × TS) (r : TS × TS) (hf : fX3_copyFrom u = some r) : Met l yX3_copyFrom (.code yX3_copyFrom cX3_copyFrom 2 none :: bw) rmX3_copyFrom (va_Pc [.ref g0, .ref g2] (PreM G (tysW cI cS) (wSS cI g0 g1 g2 g3 u) sz)) (va_Qv (fun u' => u' = r) (PoM G (tysW cI cS) (va_A (wSS cI g0 g1 g2 g3 u) sz) (wSS cI g0 g1 g2 g3)) (va_A (wSS cI g0 g1 g2 g3 u) sz)) 0 0 (va_A (wSS cI g0 g1 g2 g3 u) sz) := by
  refine enterM (own := RX3) (by decide) rfl (Nat.le_of_ble_eq_true rfl) ?_
  intro p e s m args below meth c A Q hAe hQ S hr hlocks hP hK hN hD hA hS ls hl
  rw [hAe] at hQ
  have hx := S.1; have hb := S.2.1; have hml := S.2.2.1; have hown := S.2.2.2.1; have hq := S.2.2.2.2
  have hl : lv_has ls 2 [(0, .ref g0), (1, .ref g2)] := hl
  have h := hf
  unfold fX3_copyFrom at h
  refine lv_aload_n hx hb dX3_copyFrom_0 rfl (lv_at hl 1 rfl) ?_
  refine lv_ifnonnull (tgt := 5) hx hb dX3_copyFrom_1 (by decide) ?_
  refine lv_aload_n hx hb dX3_copyFrom_5 rfl (lv_at hl 1 rfl) ?_
  refine gf_X3_9 S hK hN hP 2 rfl (v := .ref g3) rfl dX3_copyFrom_6 ?_
  refine lv_iconst (v := 0) hx hb dX3_copyFrom_9 (by decide) ?_
  refine lv_aload_n hx hb dX3_copyFrom_10 rfl (lv_at hl 0 rfl) ?_
  refine gf_X3_9 S hK hN hP 0 rfl (v := .ref g1) rfl dX3_copyFrom_11 ?_
  refine lv_iconst (v := 0) hx hb dX3_copyFrom_14 (by decide) ?_
  refine lv_aload_n hx hb dX3_copyFrom_15 rfl (lv_at hl 1 rfl) ?_
  refine gf_X3_9 S hK hN hP 2 rfl (v := .ref g3) rfl dX3_copyFrom_16 ?_
  refine va_alen hx hb hK hP 3 0 rfl rfl (v := (1024 : Int32)) rfl dX3_copyFrom_19 ?_
  refine lv_aload_n hx hb dX3_copyFrom_20 rfl (lv_at hl 0 rfl) ?_
  refine gf_X3_9 S hK hN hP 0 rfl (v := .ref g1) rfl dX3_copyFrom_21 ?_
  refine va_alen hx hb hK hP 1 0 rfl rfl (v := (1024 : Int32)) rfl dX3_copyFrom_24 ?_
  refine va_mmin hx hb (by rw [hml]; exact hl.1.symm) hown (hq _ q_105) (hq _ q_78) (hq _ q_6) (hq _ q_79) (Nat.le_of_ble_eq_true rfl) (Nat.le_of_ble_eq_true rfl) (Nat.le_of_ble_eq_true rfl) (Nat.le_of_ble_eq_true rfl) dX3_copyFrom_25 ?_
  refine va_copyi (ty := .int) hx hb (by rw [hml]; exact hl.1.symm) hown (hq _ q_106) (hq _ q_107) (hq _ q_108) (hq _ q_109) hK hP hD hS 3 1 0 0 rfl rfl rfl rfl rfl (by decide) (by decide) (by decide) (by decide) (by decide) (fun _ _ => rfl) (Nat.le_of_ble_eq_true rfl) (by decide +kernel) dX3_copyFrom_28 (fun H locs hP hD hS => ?_)
  have hP : va_P G vwCl (wSS cI g0 g1 g2 g3 ((u.1.1, (va_cpy u.2.2 u.1.2 (0 : Int32).toNatClampNeg (0 : Int32).toNatClampNeg (if (1024 : Int32) < (1024 : Int32) then (1024 : Int32) else (1024 : Int32)).toNatClampNeg)), u.2)) H := hP
  have hD : va_D A (wSS cI g0 g1 g2 g3 ((u.1.1, (va_cpy u.2.2 u.1.2 (0 : Int32).toNatClampNeg (0 : Int32).toNatClampNeg (if (1024 : Int32) < (1024 : Int32) then (1024 : Int32) else (1024 : Int32)).toNatClampNeg)), u.2)) := hD
  refine lv_aload_n hx hb dX3_copyFrom_31 rfl (lv_at hl 0 rfl) ?_
  refine lv_aload_n hx hb dX3_copyFrom_32 rfl (lv_at hl 1 rfl) ?_
  refine gf_X3_37 S hK hN hP 2 rfl (v := .int u.2.1.1) rfl dX3_copyFrom_33 ?_
  refine pf_X3_37 S hK hN hP hD hS 0 rfl (Nat.le_of_ble_eq_true rfl) dX3_copyFrom_36 (fun H locs hP hD hS => ?_)
  have hP : va_P G vwCl (wSS cI g0 g1 g2 g3 (((u.2.1.1, u.1.1.2), (va_cpy u.2.2 u.1.2 (0 : Int32).toNatClampNeg (0 : Int32).toNatClampNeg (if (1024 : Int32) < (1024 : Int32) then (1024 : Int32) else (1024 : Int32)).toNatClampNeg)), u.2)) H := hP
  have hD : va_D A (wSS cI g0 g1 g2 g3 (((u.2.1.1, u.1.1.2), (va_cpy u.2.2 u.1.2 (0 : Int32).toNatClampNeg (0 : Int32).toNatClampNeg (if (1024 : Int32) < (1024 : Int32) then (1024 : Int32) else (1024 : Int32)).toNatClampNeg)), u.2)) := hD
  refine lv_aload_n hx hb dX3_copyFrom_39 rfl (lv_at hl 0 rfl) ?_
  refine lv_aload_n hx hb dX3_copyFrom_40 rfl (lv_at hl 1 rfl) ?_
  refine gf_X3_41 S hK hN hP 2 rfl (v := .int u.2.1.2.1) rfl dX3_copyFrom_41 ?_
  refine pf_X3_41 S hK hN hP hD hS 0 rfl (Nat.le_of_ble_eq_true rfl) dX3_copyFrom_44 (fun H locs hP hD hS => ?_)
  have hP : va_P G vwCl (wSS cI g0 g1 g2 g3 (((u.2.1.1, u.2.1.2.1, u.1.1.2.2), (va_cpy u.2.2 u.1.2 (0 : Int32).toNatClampNeg (0 : Int32).toNatClampNeg (if (1024 : Int32) < (1024 : Int32) then (1024 : Int32) else (1024 : Int32)).toNatClampNeg)), u.2)) H := hP
  have hD : va_D A (wSS cI g0 g1 g2 g3 (((u.2.1.1, u.2.1.2.1, u.1.1.2.2), (va_cpy u.2.2 u.1.2 (0 : Int32).toNatClampNeg (0 : Int32).toNatClampNeg (if (1024 : Int32) < (1024 : Int32) then (1024 : Int32) else (1024 : Int32)).toNatClampNeg)), u.2)) := hD
  refine lv_aload_n hx hb dX3_copyFrom_47 rfl (lv_at hl 0 rfl) ?_
  refine lv_aload_n hx hb dX3_copyFrom_48 rfl (lv_at hl 1 rfl) ?_
  refine gf_X3_44 S hK hN hP 2 rfl (v := .int u.2.1.2.2.1) rfl dX3_copyFrom_49 ?_
  refine pf_X3_44 S hK hN hP hD hS 0 rfl (Nat.le_of_ble_eq_true rfl) dX3_copyFrom_52 (fun H locs hP hD hS => ?_)
  have hP : va_P G vwCl (wSS cI g0 g1 g2 g3 (((u.2.1.1, u.2.1.2.1, u.2.1.2.2.1, u.1.1.2.2.2), (va_cpy u.2.2 u.1.2 (0 : Int32).toNatClampNeg (0 : Int32).toNatClampNeg (if (1024 : Int32) < (1024 : Int32) then (1024 : Int32) else (1024 : Int32)).toNatClampNeg)), u.2)) H := hP
  have hD : va_D A (wSS cI g0 g1 g2 g3 (((u.2.1.1, u.2.1.2.1, u.2.1.2.2.1, u.1.1.2.2.2), (va_cpy u.2.2 u.1.2 (0 : Int32).toNatClampNeg (0 : Int32).toNatClampNeg (if (1024 : Int32) < (1024 : Int32) then (1024 : Int32) else (1024 : Int32)).toNatClampNeg)), u.2)) := hD
  refine lv_aload_n hx hb dX3_copyFrom_55 rfl (lv_at hl 0 rfl) ?_
  refine lv_aload_n hx hb dX3_copyFrom_56 rfl (lv_at hl 1 rfl) ?_
  refine gf_X3_47 S hK hN hP 2 rfl (v := .int u.2.1.2.2.2) rfl dX3_copyFrom_57 ?_
  refine pf_X3_47 S hK hN hP hD hS 0 rfl (Nat.le_of_ble_eq_true rfl) dX3_copyFrom_60 (fun H locs hP hD hS => ?_)
  have hP : va_P G vwCl (wSS cI g0 g1 g2 g3 ((u.2.1, (va_cpy u.2.2 u.1.2 (0 : Int32).toNatClampNeg (0 : Int32).toNatClampNeg (if (1024 : Int32) < (1024 : Int32) then (1024 : Int32) else (1024 : Int32)).toNatClampNeg)), u.2)) H := hP
  have hD : va_D A (wSS cI g0 g1 g2 g3 ((u.2.1, (va_cpy u.2.2 u.1.2 (0 : Int32).toNatClampNeg (0 : Int32).toNatClampNeg (if (1024 : Int32) < (1024 : Int32) then (1024 : Int32) else (1024 : Int32)).toNatClampNeg)), u.2)) := hD
  exact retMv hQ S hr hlocks hK hN hP hD hS h dX3_copyFrom_63
