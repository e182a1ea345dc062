theorem fbK2 {G : va_G} {tys : List (ClassId × FieldType)} {ws : va_W} {sz : Nat} {As : List Value} : FrameBlind (va_Pc As (fun U => PreM G tys ws sz U ∧ va_AO RX3 U)) := by
  intro a U g mk q
  obtain ⟨q0, qM, qA⟩ := q
  exact ⟨q0, (fbM a U g mk ⟨q0, qM⟩).2, va_AO.moved (u := U) (U := U.calling g mk a) (Vm.Alike.refl U.vm) qA⟩
def fL_step (u : THS × TM × OutR) (a0 a1 a2 : Int32) : Option (THS × TM × OutR) := (if (a0 &&& 63) = 0 then fLc_0 u a1 a2 else (if (a0 &&& 63) = 1 then fLc_1 u a1 a2 else (if (a0 &&& 63) = 2 then fLc_2 u a1 a2 else (if (a0 &&& 63) = 3 then fLc_3 u a1 a2 else (if (a0 &&& 63) = 4 then fLc_4 u a1 a2 else (if (a0 &&& 63) = 5 then fLc_5 u a1 a2 else (if (a0 &&& 63) = 6 then fLc_6 u a1 a2 else (if (a0 &&& 63) = 7 then fLc_7 u a1 a2 else (if (a0 &&& 63) = 8 then fLc_8 u a1 a2 else (if (a0 &&& 63) = 9 then fLc_9 u a1 a2 else (if (a0 &&& 63) = 10 then fLc_10 u a1 a2 else (if (a0 &&& 63) = 11 then fLc_11 u a1 a2 else (if (a0 &&& 63) = 12 then fLc_12 u a1 a2 else (if (a0 &&& 63) = 13 then fLc_13 u a1 a2 else (if (a0 &&& 63) = 14 then fLc_14 u a1 a2 else (if (a0 &&& 63) = 15 then fLc_15 u a1 a2 else (if (a0 &&& 63) = 16 then fLc_16 u a1 a2 else (if (a0 &&& 63) = 17 then fLc_17 u a1 a2 else (if (a0 &&& 63) = 18 then fLc_18 u a1 a2 else (if (a0 &&& 63) = 19 then fLc_19 u a1 a2 else (if (a0 &&& 63) = 20 then fLc_20 u a1 a2 else (if (a0 &&& 63) = 21 then fLc_21 u a1 a2 else (if (a0 &&& 63) = 22 then fLc_22 u a1 a2 else (if (a0 &&& 63) = 23 then fLc_23 u a1 a2 else (if (a0 &&& 63) = 24 then fLc_24 u a1 a2 else (if (a0 &&& 63) = 25 then fLc_25 u a1 a2 else (if (a0 &&& 63) = 26 then fLc_26 u a1 a2 else (if (a0 &&& 63) = 27 then fLc_27 u a1 a2 else (if (a0 &&& 63) = 28 then fLc_28 u a1 a2 else (if (a0 &&& 63) = 29 then fLc_29 u a1 a2 else (if (a0 &&& 63) = 30 then fLc_30 u a1 a2 else (if (a0 &&& 63) = 31 then fLc_31 u a1 a2 else (if (a0 &&& 63) = 32 then fLc_32 u a1 a2 else (if (a0 &&& 63) = 33 then fLc_33 u a1 a2 else some u))))))))))))))))))))))))))))))))))
set_option maxRecDepth 100000 in
set_option maxHeartbeats 4000000 in
theorem law_round {p : Program} {l : Launch} {e : Env} {s : State} {m : MethodId} {args : Array Value} {below : List Frame} {meth : Method} {c : Code} {Q : State → Prop} {b L : Nat} {xs : Nat → Int32} {G : va_G} {cI cS cL : ClassId} {A : Nat → Prop} {B0 : Nat} (C0 : LawC p l s m args c b L xs G cI cS cL A B0) (sv : Nat) (gx gm : Nat → Nat) (og : Nat) (u : THS × TM × OutR) (x4 a0 a1 a2 : Int32) (u' : THS × TM × OutR) (hf : fL_step u a0 a1 a2 = some u') (hin0 : vp_in x4 L) (hin1 : vp_in (x4 + (1 : Int32)) L) (hin2 : vp_in (x4 + (2 : Int32)) L) (hs0 : xs x4.toNatClampNeg = a0) (hs1 : xs (x4 + (1 : Int32)).toNatClampNeg = a1) (hs2 : xs (x4 + (2 : Int32)).toNatClampNeg = a2) (cells slots : Nat) (hc9 : cells + 2 ≤ 601024) (hs9 : slots + 12 ≤ 7293034)
    (K : ∀ (v : THS × TM × OutR), v = u' → ∀ (H : Heap) (locs : List Loc) (ls : Array Slot) (cells' slots' : Nat), cells' ≤ cells + 2 → slots' ≤ slots + 12 → va_P G vwCl (wW cI cS cL sv gx gm og v) H → va_D A (wW cI cS cL sv gx gm og v) → va_S A s.heap H locs → lv_has ls 9 [(0, .ref b), (1, .ref (gx 0)), (2, .ref (gm 0)), (3, .ref og), (4, .int x4)] → W p l e room_1 s m args below meth c H locs cells' slots' Q (F0 m 1493 ls []))
    (H : Heap) (locs : List Loc) (ls : Array Slot) (hP : va_P G vwCl (wW cI cS cL sv gx gm og u) H) (hD : va_D A (wW cI cS cL sv gx gm og u)) (hS : va_S A s.heap H locs) (hl : lv_has ls 9 [(0, .ref b), (1, .ref (gx 0)), (2, .ref (gm 0)), (3, .ref og), (4, .int x4)]) : W p l e room_1 s m args below meth c H locs cells slots Q (F0 m 32 ls []) := by
  obtain ⟨hst, S, hK, hN, hC, hA, hAB, hB, hX, hX0, hbl, hbA⟩ := id C0
  have hx := S.1; have hb := S.2.1; have hml := S.2.2.1; have hown := S.2.2.2.1; have hq := S.2.2.2.2
  have h := hf
  unfold fL_step at h
  refine lv_aload_n hx hb dL_law_32 rfl (lv_at hl 0 rfl) ?_
  refine lv_iload hx hb dL_law_33 (lv_at hl 4 rfl) ?_
  refine sldO hx hb hX0 hbl hbA hS hin0 hs0 dL_law_35 ?_
  refine lv_bipush (v := 63) hx hb dL_law_36 (by decide) ?_
  refine lv_iand hx hb dL_law_38 ?_
  by_cases c0 : (a0 &&& 63) = 0
  · have h := (if_pos c0).symm.trans h
    refine lv_tableIn (off := 149) (tgt := 188) hx hb dL_law_39 (by rw [c0]; decide) (by rw [c0]; decide) (by rw [c0]; rfl) (by decide) ?_
    exact kLc_0 C0 sv gx gm og u x4 a1 a2 u' h hin1 hin2 hs1 hs2 cells slots hc9 hs9 K H locs ls hP hD hS hl
  have h := (if_neg c0).symm.trans h
  by_cases c1 : (a0 &&& 63) = 1
  · have h := (if_pos c1).symm.trans h
    refine lv_tableIn (off := 205) (tgt := 244) hx hb dL_law_39 (by rw [c1]; decide) (by rw [c1]; decide) (by rw [c1]; rfl) (by decide) ?_
    exact kLc_1 C0 sv gx gm og u x4 a1 a2 u' h hin1 hin2 hs1 hs2 cells slots hc9 hs9 K H locs ls hP hD hS hl
  have h := (if_neg c1).symm.trans h
  by_cases c2 : (a0 &&& 63) = 2
  · have h := (if_pos c2).symm.trans h
    refine lv_tableIn (off := 273) (tgt := 312) hx hb dL_law_39 (by rw [c2]; decide) (by rw [c2]; decide) (by rw [c2]; rfl) (by decide) ?_
    exact kLc_2 C0 sv gx gm og u x4 a1 a2 u' h hin1 hin2 hs1 hs2 cells slots hc9 hs9 K H locs ls hP hD hS hl
  have h := (if_neg c2).symm.trans h
  by_cases c3 : (a0 &&& 63) = 3
  · have h := (if_pos c3).symm.trans h
    refine lv_tableIn (off := 286) (tgt := 325) hx hb dL_law_39 (by rw [c3]; decide) (by rw [c3]; decide) (by rw [c3]; rfl) (by decide) ?_
    exact kLc_3 C0 sv gx gm og u x4 a1 a2 u' h hin1 hin2 hs1 hs2 cells slots hc9 hs9 K H locs ls hP hD hS hl
  have h := (if_neg c3).symm.trans h
  by_cases c4 : (a0 &&& 63) = 4
  · have h := (if_pos c4).symm.trans h
    refine lv_tableIn (off := 330) (tgt := 369) hx hb dL_law_39 (by rw [c4]; decide) (by rw [c4]; decide) (by rw [c4]; rfl) (by decide) ?_
    exact kLc_4 C0 sv gx gm og u x4 a1 a2 u' h hin1 hin2 hs1 hs2 cells slots hc9 hs9 K H locs ls hP hD hS hl
  have h := (if_neg c4).symm.trans h
  by_cases c5 : (a0 &&& 63) = 5
  · have h := (if_pos c5).symm.trans h
    refine lv_tableIn (off := 386) (tgt := 425) hx hb dL_law_39 (by rw [c5]; decide) (by rw [c5]; decide) (by rw [c5]; rfl) (by decide) ?_
    exact kLc_5 C0 sv gx gm og u x4 a1 a2 u' h hin1 hin2 hs1 hs2 cells slots hc9 hs9 K H locs ls hP hD hS hl
  have h := (if_neg c5).symm.trans h
  by_cases c6 : (a0 &&& 63) = 6
  · have h := (if_pos c6).symm.trans h
    refine lv_tableIn (off := 442) (tgt := 481) hx hb dL_law_39 (by rw [c6]; decide) (by rw [c6]; decide) (by rw [c6]; rfl) (by decide) ?_
    exact kLc_6 C0 sv gx gm og u x4 a1 a2 u' h hin1 hin2 hs1 hs2 cells slots hc9 hs9 K H locs ls hP hD hS hl
  have h := (if_neg c6).symm.trans h
  by_cases c7 : (a0 &&& 63) = 7
  · have h := (if_pos c7).symm.trans h
    refine lv_tableIn (off := 455) (tgt := 494) hx hb dL_law_39 (by rw [c7]; decide) (by rw [c7]; decide) (by rw [c7]; rfl) (by decide) ?_
    exact kLc_7 C0 sv gx gm og u x4 a1 a2 u' h hin1 hin2 hs1 hs2 cells slots hc9 hs9 K H locs ls hP hD hS hl
  have h := (if_neg c7).symm.trans h
  by_cases c8 : (a0 &&& 63) = 8
  · have h := (if_pos c8).symm.trans h
    refine lv_tableIn (off := 511) (tgt := 550) hx hb dL_law_39 (by rw [c8]; decide) (by rw [c8]; decide) (by rw [c8]; rfl) (by decide) ?_
    exact kLc_8 C0 sv gx gm og u x4 a1 a2 u' h hin1 hin2 hs1 hs2 cells slots hc9 hs9 K H locs ls hP hD hS hl
  have h := (if_neg c8).symm.trans h
  by_cases c9 : (a0 &&& 63) = 9
  · have h := (if_pos c9).symm.trans h
    refine lv_tableIn (off := 524) (tgt := 563) hx hb dL_law_39 (by rw [c9]; decide) (by rw [c9]; decide) (by rw [c9]; rfl) (by decide) ?_
    exact kLc_9 C0 sv gx gm og u x4 a1 a2 u' h hin1 hin2 hs1 hs2 cells slots hc9 hs9 K H locs ls hP hD hS hl
  have h := (if_neg c9).symm.trans h
  by_cases c10 : (a0 &&& 63) = 10
  · have h := (if_pos c10).symm.trans h
    refine lv_tableIn (off := 549) (tgt := 588) hx hb dL_law_39 (by rw [c10]; decide) (by rw [c10]; decide) (by rw [c10]; rfl) (by decide) ?_
    exact kLc_10 C0 sv gx gm og u x4 a1 a2 u' h hin1 hin2 hs1 hs2 cells slots hc9 hs9 K H locs ls hP hD hS hl
  have h := (if_neg c10).symm.trans h
  by_cases c11 : (a0 &&& 63) = 11
  · have h := (if_pos c11).symm.trans h
    refine lv_tableIn (off := 605) (tgt := 644) hx hb dL_law_39 (by rw [c11]; decide) (by rw [c11]; decide) (by rw [c11]; rfl) (by decide) ?_
    exact kLc_11 C0 sv gx gm og u x4 a1 a2 u' h hin1 hin2 hs1 hs2 cells slots hc9 hs9 K H locs ls hP hD hS hl
  have h := (if_neg c11).symm.trans h
  by_cases c12 : (a0 &&& 63) = 12
  · have h := (if_pos c12).symm.trans h
    refine lv_tableIn (off := 673) (tgt := 712) hx hb dL_law_39 (by rw [c12]; decide) (by rw [c12]; decide) (by rw [c12]; rfl) (by decide) ?_
    exact kLc_12 C0 sv gx gm og u x4 a1 a2 u' h hin1 hin2 hs1 hs2 cells slots hc9 hs9 K H locs ls hP hD hS hl
  have h := (if_neg c12).symm.trans h
  by_cases c13 : (a0 &&& 63) = 13
  · have h := (if_pos c13).symm.trans h
    refine lv_tableIn (off := 729) (tgt := 768) hx hb dL_law_39 (by rw [c13]; decide) (by rw [c13]; decide) (by rw [c13]; rfl) (by decide) ?_
    exact kLc_13 C0 sv gx gm og u x4 a1 a2 u' h hin1 hin2 hs1 hs2 cells slots hc9 hs9 K H locs ls hP hD hS hl
  have h := (if_neg c13).symm.trans h
  by_cases c14 : (a0 &&& 63) = 14
  · have h := (if_pos c14).symm.trans h
    refine lv_tableIn (off := 754) (tgt := 793) hx hb dL_law_39 (by rw [c14]; decide) (by rw [c14]; decide) (by rw [c14]; rfl) (by decide) ?_
    exact kLc_14 C0 sv gx gm og u x4 a1 a2 u' h hin1 hin2 hs1 hs2 cells slots hc9 hs9 K H locs ls hP hD hS hl
  have h := (if_neg c14).symm.trans h
  by_cases c15 : (a0 &&& 63) = 15
  · have h := (if_pos c15).symm.trans h
    refine lv_tableIn (off := 779) (tgt := 818) hx hb dL_law_39 (by rw [c15]; decide) (by rw [c15]; decide) (by rw [c15]; rfl) (by decide) ?_
    exact kLc_15 C0 sv gx gm og u x4 a1 a2 u' h hin1 hin2 hs1 hs2 cells slots hc9 hs9 K H locs ls hP hD hS hl
  have h := (if_neg c15).symm.trans h
  by_cases c16 : (a0 &&& 63) = 16
  · have h := (if_pos c16).symm.trans h
    refine lv_tableIn (off := 792) (tgt := 831) hx hb dL_law_39 (by rw [c16]; decide) (by rw [c16]; decide) (by rw [c16]; rfl) (by decide) ?_
    exact kLc_16 C0 sv gx gm og u x4 a1 a2 u' h hin1 hin2 hs1 hs2 cells slots hc9 hs9 K H locs ls hP hD hS hl
  have h := (if_neg c16).symm.trans h
  by_cases c17 : (a0 &&& 63) = 17
  · have h := (if_pos c17).symm.trans h
    refine lv_tableIn (off := 860) (tgt := 899) hx hb dL_law_39 (by rw [c17]; decide) (by rw [c17]; decide) (by rw [c17]; rfl) (by decide) ?_
    exact kLc_17 C0 sv gx gm og u x4 a1 a2 u' h hin1 hin2 hs1 hs2 cells slots hc9 hs9 K H locs ls hP hD hS hl
  have h := (if_neg c17).symm.trans h
  by_cases c18 : (a0 &&& 63) = 18
  · have h := (if_pos c18).symm.trans h
    refine lv_tableIn (off := 916) (tgt := 955) hx hb dL_law_39 (by rw [c18]; decide) (by rw [c18]; decide) (by rw [c18]; rfl) (by decide) ?_
    exact kLc_18 C0 sv gx gm og u x4 a1 a2 u' h hin1 hin2 hs1 hs2 cells slots hc9 hs9 K H locs ls hP hD hS hl
  have h := (if_neg c18).symm.trans h
  by_cases c19 : (a0 &&& 63) = 19
  · have h := (if_pos c19).symm.trans h
    refine lv_tableIn (off := 972) (tgt := 1011) hx hb dL_law_39 (by rw [c19]; decide) (by rw [c19]; decide) (by rw [c19]; rfl) (by decide) ?_
    exact kLc_19 C0 sv gx gm og u x4 a1 a2 u' h hin1 hin2 hs1 hs2 cells slots hc9 hs9 K H locs ls hP hD hS hl
  have h := (if_neg c19).symm.trans h
  by_cases c20 : (a0 &&& 63) = 20
  · have h := (if_pos c20).symm.trans h
    refine lv_tableIn (off := 997) (tgt := 1036) hx hb dL_law_39 (by rw [c20]; decide) (by rw [c20]; decide) (by rw [c20]; rfl) (by decide) ?_
    exact kLc_20 C0 sv gx gm og u x4 a1 a2 u' h hin1 hin2 hs1 hs2 cells slots hc9 hs9 K H locs ls hP hD hS hl
  have h := (if_neg c20).symm.trans h
  by_cases c21 : (a0 &&& 63) = 21
  · have h := (if_pos c21).symm.trans h
    refine lv_tableIn (off := 1010) (tgt := 1049) hx hb dL_law_39 (by rw [c21]; decide) (by rw [c21]; decide) (by rw [c21]; rfl) (by decide) ?_
    exact kLc_21 C0 sv gx gm og u x4 a1 a2 u' h hin1 hin2 hs1 hs2 cells slots hc9 hs9 K H locs ls hP hD hS hl
  have h := (if_neg c21).symm.trans h
  by_cases c22 : (a0 &&& 63) = 22
  · have h := (if_pos c22).symm.trans h
    refine lv_tableIn (off := 1023) (tgt := 1062) hx hb dL_law_39 (by rw [c22]; decide) (by rw [c22]; decide) (by rw [c22]; rfl) (by decide) ?_
    exact kLc_22 C0 sv gx gm og u x4 a1 a2 u' h hin1 hin2 hs1 hs2 cells slots hc9 hs9 K H locs ls hP hD hS hl
  have h := (if_neg c22).symm.trans h
  by_cases c23 : (a0 &&& 63) = 23
  · have h := (if_pos c23).symm.trans h
    refine lv_tableIn (off := 1036) (tgt := 1075) hx hb dL_law_39 (by rw [c23]; decide) (by rw [c23]; decide) (by rw [c23]; rfl) (by decide) ?_
    exact kLc_23 C0 sv gx gm og u x4 a1 a2 u' h hin1 hin2 hs1 hs2 cells slots hc9 hs9 K H locs ls hP hD hS hl
  have h := (if_neg c23).symm.trans h
  by_cases c24 : (a0 &&& 63) = 24
  · have h := (if_pos c24).symm.trans h
    refine lv_tableIn (off := 1049) (tgt := 1088) hx hb dL_law_39 (by rw [c24]; decide) (by rw [c24]; decide) (by rw [c24]; rfl) (by decide) ?_
    exact kLc_24 C0 sv gx gm og u x4 a1 a2 u' h hin1 hin2 hs1 hs2 cells slots hc9 hs9 K H locs ls hP hD hS hl
  have h := (if_neg c24).symm.trans h
  by_cases c25 : (a0 &&& 63) = 25
  · have h := (if_pos c25).symm.trans h
    refine lv_tableIn (off := 1090) (tgt := 1129) hx hb dL_law_39 (by rw [c25]; decide) (by rw [c25]; decide) (by rw [c25]; rfl) (by decide) ?_
    exact kLc_25 C0 sv gx gm og u x4 a1 a2 u' h hin1 hin2 hs1 hs2 cells slots hc9 hs9 K H locs ls hP hD hS hl
  have h := (if_neg c25).symm.trans h
  by_cases c26 : (a0 &&& 63) = 26
  · have h := (if_pos c26).symm.trans h
    refine lv_tableIn (off := 1146) (tgt := 1185) hx hb dL_law_39 (by rw [c26]; decide) (by rw [c26]; decide) (by rw [c26]; rfl) (by decide) ?_
    exact kLc_26 C0 sv gx gm og u x4 a1 a2 u' h hin1 hin2 hs1 hs2 cells slots hc9 hs9 K H locs ls hP hD hS hl
  have h := (if_neg c26).symm.trans h
  by_cases c27 : (a0 &&& 63) = 27
  · have h := (if_pos c27).symm.trans h
    refine lv_tableIn (off := 1214) (tgt := 1253) hx hb dL_law_39 (by rw [c27]; decide) (by rw [c27]; decide) (by rw [c27]; rfl) (by decide) ?_
    exact kLc_27 C0 sv gx gm og u x4 a1 a2 u' h hin1 hin2 hs1 hs2 cells slots hc9 hs9 K H locs ls hP hD hS hl
  have h := (if_neg c27).symm.trans h
  by_cases c28 : (a0 &&& 63) = 28
  · have h := (if_pos c28).symm.trans h
    refine lv_tableIn (off := 1270) (tgt := 1309) hx hb dL_law_39 (by rw [c28]; decide) (by rw [c28]; decide) (by rw [c28]; rfl) (by decide) ?_
    exact kLc_28 C0 sv gx gm og u x4 a1 a2 u' h hin1 hin2 hs1 hs2 cells slots hc9 hs9 K H locs ls hP hD hS hl
  have h := (if_neg c28).symm.trans h
  by_cases c29 : (a0 &&& 63) = 29
  · have h := (if_pos c29).symm.trans h
    refine lv_tableIn (off := 1326) (tgt := 1365) hx hb dL_law_39 (by rw [c29]; decide) (by rw [c29]; decide) (by rw [c29]; rfl) (by decide) ?_
    exact kLc_29 C0 sv gx gm og u x4 a1 a2 u' h hin1 hin2 hs1 hs2 cells slots hc9 hs9 K H locs ls hP hD hS hl
  have h := (if_neg c29).symm.trans h
  by_cases c30 : (a0 &&& 63) = 30
  · have h := (if_pos c30).symm.trans h
    refine lv_tableIn (off := 1339) (tgt := 1378) hx hb dL_law_39 (by rw [c30]; decide) (by rw [c30]; decide) (by rw [c30]; rfl) (by decide) ?_
    exact kLc_30 C0 sv gx gm og u x4 a1 a2 u' h hin1 hin2 hs1 hs2 cells slots hc9 hs9 K H locs ls hP hD hS hl
  have h := (if_neg c30).symm.trans h
  by_cases c31 : (a0 &&& 63) = 31
  · have h := (if_pos c31).symm.trans h
    refine lv_tableIn (off := 1383) (tgt := 1422) hx hb dL_law_39 (by rw [c31]; decide) (by rw [c31]; decide) (by rw [c31]; rfl) (by decide) ?_
    exact kLc_31 C0 sv gx gm og u x4 a1 a2 u' h hin1 hin2 hs1 hs2 cells slots hc9 hs9 K H locs ls hP hD hS hl
  have h := (if_neg c31).symm.trans h
  by_cases c32 : (a0 &&& 63) = 32
  · have h := (if_pos c32).symm.trans h
    refine lv_tableIn (off := 1427) (tgt := 1466) hx hb dL_law_39 (by rw [c32]; decide) (by rw [c32]; decide) (by rw [c32]; rfl) (by decide) ?_
    exact kLc_32 C0 sv gx gm og u x4 a1 a2 u' h hin1 hin2 hs1 hs2 cells slots hc9 hs9 K H locs ls hP hD hS hl
  have h := (if_neg c32).symm.trans h
  by_cases c33 : (a0 &&& 63) = 33
  · have h := (if_pos c33).symm.trans h
    refine lv_tableIn (off := 1440) (tgt := 1479) hx hb dL_law_39 (by rw [c33]; decide) (by rw [c33]; decide) (by rw [c33]; rfl) (by decide) ?_
    exact kLc_33 C0 sv gx gm og u x4 a1 a2 u' h hin1 hin2 hs1 hs2 cells slots hc9 hs9 K H locs ls hP hD hS hl
  have h := (if_neg c33).symm.trans h
  refine lv_tableOut (tgt := 1493) hx hb dL_law_39 (by have w0 := i32ne (a := 0) c0 (by decide); have w1 := i32ne (a := 1) c1 (by decide); have w2 := i32ne (a := 2) c2 (by decide); have w3 := i32ne (a := 3) c3 (by decide); have w4 := i32ne (a := 4) c4 (by decide); have w5 := i32ne (a := 5) c5 (by decide); have w6 := i32ne (a := 6) c6 (by decide); have w7 := i32ne (a := 7) c7 (by decide); have w8 := i32ne (a := 8) c8 (by decide); have w9 := i32ne (a := 9) c9 (by decide); have w10 := i32ne (a := 10) c10 (by decide); have w11 := i32ne (a := 11) c11 (by decide); have w12 := i32ne (a := 12) c12 (by decide); have w13 := i32ne (a := 13) c13 (by decide); have w14 := i32ne (a := 14) c14 (by decide); have w15 := i32ne (a := 15) c15 (by decide); have w16 := i32ne (a := 16) c16 (by decide); have w17 := i32ne (a := 17) c17 (by decide); have w18 := i32ne (a := 18) c18 (by decide); have w19 := i32ne (a := 19) c19 (by decide); have w20 := i32ne (a := 20) c20 (by decide); have w21 := i32ne (a := 21) c21 (by decide); have w22 := i32ne (a := 22) c22 (by decide); have w23 := i32ne (a := 23) c23 (by decide); have w24 := i32ne (a := 24) c24 (by decide); have w25 := i32ne (a := 25) c25 (by decide); have w26 := i32ne (a := 26) c26 (by decide); have w27 := i32ne (a := 27) c27 (by decide); have w28 := i32ne (a := 28) c28 (by decide); have w29 := i32ne (a := 29) c29 (by decide); have w30 := i32ne (a := 30) c30 (by decide); have w31 := i32ne (a := 31) c31 (by decide); have w32 := i32ne (a := 32) c32 (by decide); have w33 := i32ne (a := 33) c33 (by decide); omega) (by decide) ?_
  exact K _ (Option.some.inj h) _ _ _ _ _ (by omega) (by omega) hP hD hS hl
theorem nI_3 (j : Nat) : nI (3 * j) + (3 : Int32) = nI (3 * (j + 1)) := by
  rw [show (3 : Int32) = nI 3 from rfl, nI_add]; rfl
set_option maxRecDepth 100000 in
set_option maxHeartbeats 4000000 in
theorem law_loop {p : Program} {l : Launch} {e : Env} {s : State} {m : MethodId} {below : List Frame} {meth : Method} {c : Code} {b L : Nat} {xs : Nat → Int32} {G : va_G} {cI cS cL : ClassId} {B0 : Nat} (hL : L ≤ 1536) (C0 : LawC p l s m #[Value.ref b] c b L xs G cI cS cL (fun q => s.heap.size ≤ q) B0) (hr : meth.sig.returnType = ret) (hlocks : meth.locks = false) (Inv : THS × TM × OutR → Prop) (hst9 : ∀ u a0 a1 a2, Inv u → ∃ u', fL_step u a0 a1 a2 = some u' ∧ Inv u') (sv : Nat) (gx gm : Nat → Nat) (og : Nat) :
    ∀ (n j : Nat) (x4 : Int32), L + 3 ≤ 3 * j + 3 * n → x4 = nI (3 * j) → 3 * j ≤ L + 2 → ∀ (u : THS × TM × OutR), Inv u → ∀ (cells slots : Nat), cells + 2 * n ≤ 601000 → slots + 12 * n ≤ 7293000 → ∀ (H : Heap) (locs : List Loc) (ls : Array Slot), va_P G vwCl (wW cI cS cL sv gx gm og u) H → va_D (fun q : Nat => s.heap.size ≤ q) (wW cI cS cL sv gx gm og u) → va_S (fun q : Nat => s.heap.size ≤ q) s.heap H locs → lv_has ls 9 [(0, .ref b), (1, .ref (gx 0)), (2, .ref (gm 0)), (3, .ref og), (4, .int x4)] → W p l e room_1 s m #[Value.ref b] below meth c H locs cells slots (lw_Z below #[Value.ref b] s) (F0 m 23 ls []) := by
  obtain ⟨hst, S, hK, hN, hC, hA, hAB, hB, hX, hX0, hbl, hbA⟩ := id C0
  have hx := S.1; have hb := S.2.1; have hml := S.2.2.1; have hown := S.2.2.2.1; have hq := S.2.2.2.2
  intro n
  induction n with
  | zero => intro j x4 h1 h2 h3; omega
  | succ n ih =>
    intro j x4 h1 h2 h3 u hu cells slots hc hs H locs ls hP hD hS hl
    refine lv_iload hx hb dL_law_23 (lv_at hl 4 rfl) ?_
    refine lv_aload_n hx hb dL_law_25 rfl (lv_at hl 0 rfl) ?_
    refine va_slen hx hb hX0 hbl hbA hS dL_law_26 ?_
    refine lv_iconst (v := 3) hx hb dL_law_27 (by decide) ?_
    refine lv_isub hx hb dL_law_28 ?_
    refine lv_icmp_gt (tgt := 1499) hx hb dL_law_29 (by decide) (fun c1 => ?_) (fun c1 => ?_)
    · refine lv_iconst (v := 1) hx hb dL_law_1499 (by decide) ?_
      refine va_forget (fun q hq => hS.2.2 q hq) ?_
      refine W.widen (k := 601024) (n := 7293034) (by omega) (by omega) ?_
      exact lw_ret (Drawn.sameBut.refl s.drawn lw_cs) hx hb hr hlocks dL_law_1500
    · have hle : 3 * j + 3 ≤ L := by
        have e3 : (Int32.ofNat L - 3 : Int32).toInt = (L : Int) - 3 := pk_sub_toInt (a := L) (b := 3) (by omega) (by omega)
        have e4 : x4.toInt = ((3 * j : Nat) : Int) := by rw [h2]; exact nI_toInt (by omega)
        have e5 : ¬ (Int32.ofNat L - 3 : Int32).toInt < x4.toInt := fun q => c1 (Int32.lt_iff_toInt_lt.mpr q)
        rw [e3, e4] at e5
        omega
      have i0 : vp_in x4 L := by rw [h2]; exact vp_in_nI (by omega) (by omega)
      have e1 : x4 + (1 : Int32) = nI (3 * j + 1) := by rw [h2]; exact nI_1 (3 * j)
      have e2 : x4 + (2 : Int32) = nI (3 * j + 2) := by rw [h2, show (2 : Int32) = nI 2 from rfl, nI_add]
      have i1 : vp_in (x4 + (1 : Int32)) L := by rw [e1]; exact vp_in_nI (by omega) (by omega)
      have i2 : vp_in (x4 + (2 : Int32)) L := by rw [e2]; exact vp_in_nI (by omega) (by omega)
      obtain ⟨u', hu1, hu2⟩ := hst9 u (xs x4.toNatClampNeg) (xs (x4 + (1 : Int32)).toNatClampNeg) (xs (x4 + (2 : Int32)).toNatClampNeg) hu
      refine law_round C0 sv gx gm og u x4 _ _ _ u' hu1 i0 i1 i2 rfl rfl rfl cells slots (by omega) (by omega) ?_ H locs ls hP hD hS hl
      intro v hv H locs ls cells' slots' hc' hs' hP hD hS hl
      subst hv
      refine lv_iinc (v := x4 + 3) (lv' := [(4, .int (x4 + 3)), (0, .ref b), (1, .ref (gx 0)), (2, .ref (gm 0)), (3, .ref og)]) hx hb dL_law_1493 hl (k := 4) rfl rfl (by decide) rfl (fun ls hl => ?_)
      refine lv_goto (tgt := 23) hx hb dL_law_1496 (by decide) ?_
      exact ih (j + 1) (x4 + 3) (by omega) (by rw [h2]; exact nI_3 j) (by omega) v hu2 cells' slots' (by omega) (by omega) H locs ls hP hD hS (lv_sub hl [1, 2, 3, 4, 0] rfl)

def zTM : TM := ((0, 0, 0, 0, 0, 0, 0, 0), (fun _ => 0), (fun _ => 0), (fun _ => 0), fun _ => 0)
set_option maxRecDepth 100000 in
set_option maxHeartbeats 8000000 in
theorem start_inv {p : Program} {e : Env} {s : State} {m : MethodId} {below : List Frame} {meth : Method} {c : Code} (l : Launch) (hflags : l.flags = flags0) {b L : Nat} {xs : Nat → Int32} (hL : L ≤ 1536) (C0 : lw_At p s m meth c b L xs) (Inv : THS × TM × OutR → Prop) (h09 : ∀ rf ra : Nat → Nat, Inv ((zTH, (fun _ => zTS), rf, ra), zTM, fun _ => 0)) (hst9 : ∀ u a0 a1 a2, Inv u → ∃ u', fL_step u a0 a1 a2 = some u' ∧ Inv u') : W p l e room_1 s m #[Value.ref b] below meth c s.heap [] 0 0 (lw_Z below #[Value.ref b] s) (entryFrame m ([Value.ref b] : List Value).toArray 9) := by
  obtain ⟨hx, hb, hr, hml, hown, hts, hX0, hbl, hlocks, hgv⟩ := id C0
  have hq : ∀ w ∈ bwL, w.before #[Value.ref b] s = true := fun w h => hts w (bwL_tbl w h)
  have S : CallFix p m c code 9 s #[Value.ref b] bwL RL := ⟨hx, hb, hml, hown, hq⟩
  have hst : l.stackTraces = false := by rw [Launch.stackTraces, hflags]; rfl
  have hfl := flat_of_before _ hgv
  have hN : NW s := fun w hw => va_Nw.of (List.all_eq_true.mp nests_on w hw) (hts w (nests_tbl w hw))
  have hC : NC s := ⟨va_Nc.of (hfl _ (by decide +kernel)), va_Nc.of (hfl _ (by decide +kernel)), va_Nc.of (hfl _ (by decide +kernel))⟩
  have hA : ∀ q : Nat, s.heap.size ≤ q → (fun q : Nat => s.heap.size ≤ q) q := fun _ h => h
  have hbA : ¬ (fun q : Nat => s.heap.size ≤ q) b := Nat.not_le.mpr hbl
  have hold : ∀ a : Nat, a < s.heap.size → ¬ s.heap.size ≤ a := fun a h => Nat.not_le.mpr h
  have hstr : ∀ q ∈ strs, ∃ a, vk_R RX4 q.1 q.2 a s := by
    have key : ∀ (k : Nat) (tx : String), Cond.stringRef RX4 k tx ∈ lw_tbl → (Cond.exactly (.string RX4 k) "java/lang/String").before #[Value.ref b] s = true → ∃ a, vk_R RX4 k tx a s := by
      intro k tx h1 h2
      obtain ⟨a, c9, cell, k9, q1, -⟩ := Cond.exactly_spec h2
      exact ⟨a, vk_R.of (hts _ h1) q1⟩
    intro q hq9
    simp only [strs, List.mem_cons, List.not_mem_nil, or_false] at hq9
    rcases hq9 with rfl | rfl | rfl | rfl | rfl | rfl | rfl | rfl | rfl | rfl | rfl <;> exact key _ _ (by decide +kernel) (hfl _ (by decide +kernel))
  have hX : XT s.heap.size s s.heap := by
    refine ⟨vx_Zqof (args := #[Value.ref b]) (hts _ (by decide +kernel)) (hts _ (by decide +kernel)) (hfl _ (by decide +kernel)) hold, vx_Zqof (args := #[Value.ref b]) (hts _ (by decide +kernel)) (hts _ (by decide +kernel)) (hfl _ (by decide +kernel)) hold, hstr, ?_, ?_⟩
    · intro k
      match k with
      | 1 => exact va_Nw.of rfl (hts (.castable "java/lang/IllegalArgumentException" "java/lang/IllegalArgumentException") (by decide +kernel))
      | 2 => exact va_Nw.of rfl (hts (.castable "java/lang/IllegalStateException" "java/lang/IllegalStateException") (by decide +kernel))
      | 0 => exact va_Nw.of rfl (hts (.castable "java/lang/IndexOutOfBoundsException" "java/lang/IndexOutOfBoundsException") (by decide +kernel))
      | k + 3 => exact va_Nw.of rfl (hts (.castable "java/lang/IndexOutOfBoundsException" "java/lang/IndexOutOfBoundsException") (by decide +kernel))
    · intro X hX9
      simp only [thD, List.mem_cons, List.not_mem_nil, or_false] at hX9
      rcases hX9 with rfl | rfl | rfl <;> exact va_Nw.of rfl (hts _ (by decide +kernel))
  obtain ⟨cc0, i0, k0⟩ := u_known (C := RX0) (T := TX0) (N := 2) (n := 2) hts (fun w h => bw_tbl w (bi_U0 w h)) (hts (.instantiable RX0 2) (by decide +kernel))
  obtain ⟨cc1, i1, k1⟩ := u_known (C := RX1) (T := TX1) (N := 4) (n := 4) hts (fun w h => bw_tbl w (bi_U1 w h)) (hts (.instantiable RX1 4) (by decide +kernel))
  obtain ⟨cc2, i2, k2⟩ := u_known (C := RX2) (T := TX2) (N := 2) (n := 2) hts (fun w h => bw_tbl w (bi_U2 w h)) (hts (.instantiable RX2 2) (by decide +kernel))
  obtain ⟨cc3, i3, k3⟩ := u_known (C := RX3) (T := TX3) (N := 5) (n := 5) hts (fun w h => bw_tbl w (bi_U3 w h)) (hts (.instantiable RX3 5) (by decide +kernel))
  obtain ⟨cc4, i4, k4⟩ := u_known (C := RX4) (T := TX4) (N := 8) (n := 8) hts (fun w h => bw_tbl w (bi_U4 w h)) (hts (.instantiable RX4 8) (by decide +kernel))
  obtain ⟨cc5, i5, k5⟩ := u_known (C := RX5) (T := TX5) (N := 12) (n := 12) hts (fun w h => bw_tbl w (bi_U5 w h)) (hts (.instantiable RX5 12) (by decide +kernel))
  obtain ⟨G, hKc⟩ : ∃ G : va_G, ∀ (k : Nat) (q : vw_C), vwCl[k]? = some q → u_Kn s q.1 q.2.1 q.2.2 (G.1 k) (G.2 k) := by
    refine ⟨(fun k => match k with | 0 => cc0 | 1 => cc1 | 2 => cc2 | 3 => cc3 | 4 => cc4 | _ => cc5, fun k => match k with | 0 => i0 | 1 => i1 | 2 => i2 | 3 => i3 | 4 => i4 | _ => i5), ?_⟩
    intro k q hq9
    match k, hq9 with
    | 0, hq9 => cases hq9; exact k0
    | 1, hq9 => cases hq9; exact k1
    | 2, hq9 => cases hq9; exact k2
    | 3, hq9 => cases hq9; exact k3
    | 4, hq9 => cases hq9; exact k4
    | 5, hq9 => cases hq9; exact k5
    | k + 6, hq9 => simp [vwCl] at hq9
  obtain ⟨cI, kA, comp, hfc, hka, hkd⟩ := Cond.arrayClass_spec (hts (.arrayClass .int) (by decide +kernel))
  have hAI : ArrOfT s cI .int := fun n z => ⟨fun k h => (by cases h), kA, hka, comp, hkd⟩
  have hK1 : va_K G vwCl [(cI, .int)] s := ⟨hKc, fun k q h => by
    match k, h with
    | 0, h => cases h; exact ⟨hAI, hfc⟩
    | k + 1, h => simp at h⟩
  have hAO : va_AO RX3 s := va_AO.of (A := #[Value.ref b]) (hts _ (by decide +kernel))
  have hS : va_S (fun q : Nat => s.heap.size ≤ q) s.heap s.heap [] := va_S.rf
  have hP : va_P G vwCl [] s.heap := fun k q h => by simp at h
  have hD : va_D (fun q : Nat => s.heap.size ≤ q) [] := ⟨fun i j p q h => by simp at h, fun k q h => by simp at h⟩
  have hl := lv_entry ([.ref b]) (n := 9) (Nat.le_of_ble_eq_true rfl)
  rw [lg_entry_eq]
  generalize (lg_sl ([.ref b]) ++ List.replicate (9 - (lg_sl ([.ref b])).length) Slot.unset).toArray = ls at hl ⊢
  have hl : lv_has ls 9 [(0, .ref b)] := hl
  refine va_new (ci := 4) (fs := [.null, .null, .null, .null, .null, .null, .null, .int 0]) (C := RX4) (T := TX4) (N := 8) hx hb hq (fun w h => bwL_of (bi_U4 w h)) tyX4 tyX4_ok hown (hq _ ql_75) (hq _ ql_76) (hq _ (bwL_of q_76)) hK1 hP hD hS hA rfl (fun j hj => by rcases (show j = 0 ∨ j = 1 ∨ j = 2 ∨ j = 3 ∨ j = 4 ∨ j = 5 ∨ j = 6 ∨ j = 7 by omega) with rfl | rfl | rfl | rfl | rfl | rfl | rfl | rfl <;> rfl) (Nat.le_of_ble_eq_true rfl) (Nat.le_of_ble_eq_true rfl) dL_law_0 (fun g0 H hP hD hS => ?_)
  have hP : va_P G vwCl [(g0, .inr (4, [.null, .null, .null, .null, .null, .null, .null, .int 0]))] H := hP
  have hD : va_D (fun q : Nat => s.heap.size ≤ q) [(g0, .inr (4, [.null, .null, .null, .null, .null, .null, .null, .int 0]))] := hD
  refine lv_dup hx hb dL_law_3 rfl ?_
  have hF := va_free (wc := [(g0, .inr (4, [.null, .null, .null, .null, .null, .null, .null, .int 0]))]) hD hS hA [0] rfl
  refine va_callv (va_runI (As := []) (rest := [.ref g0]) S (kX4_init l G cI g0 H.size) (cwI 0 hq (gdCL (bwL_of q_157)) rfl rfl rfl (hq _ (bwL_of q_76)) (hq _ ql_80) (hq _ ql_81) rfl (by decide +kernel) ⟨(Nat.le_of_ble_eq_true rfl), (Nat.le_of_ble_eq_true rfl)⟩) ⟨fbK2, fun U hU hW => ⟨rfl, ⟨by rw [hU], by rw [hU]; exact hP, va_K.moved hW.alike hK1, NW.moved hW hN, hD.weaken (fun _ _ _ _ => trivial)⟩, va_AO.moved hW.alike hAO⟩⟩ rfl rfl hl.1 rfl (lv_room (Nat.le_of_ble_eq_true rfl)) dL_law_4 ⟨(Nat.le_of_ble_eq_true rfl), (Nat.le_of_ble_eq_true rfl)⟩) hS (fun q _ h => hF q h) hF (fun z t H1 locs ht hvm _ hB hz1 hk1 hS => ?_)
  obtain ⟨cS, sv, gx, rf, ra⟩ := z
  obtain ⟨hP1, hD1, hK2, hg0⟩ := hB
  dsimp only at hP1 hD1 hK2 hg0
  rw [ht] at hP1
  have hK2 := va_K.moved hvm.symm hK2
  have hD9 := hD1.weaken (fun _ _ _ h => hF _ h)
  subst hg0
  have hP := hP1
  have hD := hD9
  refine lv_astore_n (lv' := [(1, .ref (gx 0)), (0, .ref b)]) hx hb dL_law_7 rfl hl (by decide) rfl (fun ls hl => ?_)
  refine va_new (ci := 5) (fs := [.int 0, .null, .int 0, .null, .int 0, .null, .int 0, .null, .int 0, .int 0, .int 0, .long 0]) (C := RX5) (T := TX5) (N := 12) hx hb hq (fun w h => bwL_of (bi_U5 w h)) tyX5 tyX5_ok hown (hq _ ql_77) (hq _ ql_78) (hq _ (bwL_of q_392)) hK2 hP hD hS hA rfl (fun j hj => by rcases (show j = 0 ∨ j = 1 ∨ j = 2 ∨ j = 3 ∨ j = 4 ∨ j = 5 ∨ j = 6 ∨ j = 7 ∨ j = 8 ∨ j = 9 ∨ j = 10 ∨ j = 11 by omega) with rfl | rfl | rfl | rfl | rfl | rfl | rfl | rfl | rfl | rfl | rfl | rfl <;> rfl) (Nat.le_of_ble_eq_true rfl) (Nat.le_of_ble_eq_true rfl) dL_law_8 (fun g5 H hP hD hS => ?_)
  have hP : va_P G vwCl (wHS cI cS sv gx (zTH, (fun _ => zTS), rf, ra) ++ [(g5, .inr (5, [.int 0, .null, .int 0, .null, .int 0, .null, .int 0, .null, .int 0, .int 0, .int 0, .long 0]))]) H := hP
  have hD : va_D (fun q : Nat => s.heap.size ≤ q) (wHS cI cS sv gx (zTH, (fun _ => zTS), rf, ra) ++ [(g5, .inr (5, [.int 0, .null, .int 0, .null, .int 0, .null, .int 0, .null, .int 0, .int 0, .int 0, .long 0]))]) := hD
  refine lv_dup hx hb dL_law_11 rfl ?_
  refine mkc (post := fun _ _ => True) (va_runI (As := []) (rest := [.ref g5]) S (kX5_init l G cI g5 H.size) (cwI 0 hq (gdCL (bwL_of q_376)) rfl rfl rfl (hq _ (bwL_of q_392)) (hq _ ql_82) (hq _ ql_83) rfl (by decide +kernel) ⟨(Nat.le_of_ble_eq_true rfl), (Nat.le_of_ble_eq_true rfl)⟩) (psM hK1 hN (hP.sub [26] rfl) (hD.sub [26] (by decide) rfl)) rfl rfl hl.1 rfl (lv_room (Nat.le_of_ble_eq_true rfl)) dL_law_12 ⟨(Nat.le_of_ble_eq_true rfl), (Nat.le_of_ble_eq_true rfl)⟩) hS hP hD hA [26] [0, 1, 2, 3, 4, 5, 6, 7, 8, 9, 10, 11, 12, 13, 14, 15, 16, 17, 18, 19, 20, 21, 22, 23, 24, 25] rfl rfl (by decide) (by decide) (fun z H locs hP hD hS => ?_)
  obtain ⟨q1, q2, q3, q4⟩ := z
  obtain ⟨gm, hgm⟩ : ∃ gm : Nat → Nat, gm = (fun i => match i with | 0 => g5 | 1 => q1 | 2 => q2 | 3 => q3 | _ => q4) := ⟨_, rfl⟩
  have hg5 : g5 = gm 0 := congrFun hgm.symm 0
  have hP : va_P G vwCl (wHS cI cS sv gx (zTH, (fun _ => zTS), rf, ra) ++ wM cI gm zTM) H := by rw [hgm]; exact hP
  have hD : va_D (fun q : Nat => s.heap.size ≤ q) (wHS cI cS sv gx (zTH, (fun _ => zTS), rf, ra) ++ wM cI gm zTM) := by rw [hgm]; exact hD
  rw [hg5]
  refine lv_astore_n (lv' := [(2, .ref (gm 0)), (1, .ref (gx 0)), (0, .ref b)]) hx hb dL_law_15 rfl hl (by decide) rfl (fun ls hl => ?_)
  refine lv_iconst (v := 1) hx hb dL_law_16 (by decide) ?_
  refine va_newa (atype := .long) (ty := .long) (a0 := (1, .inr (.inl (fun _ => 0)))) (N' := 1) hx hb (hts (.arrayClass .long) (by decide +kernel)) rfl hK2 hP hD hS hA (fun cA => rfl) (by decide) (by decide) (Nat.le_of_ble_eq_true rfl) (Nat.le_of_ble_eq_true rfl) (Nat.le_of_ble_eq_true rfl) dL_law_17 (fun og cL H hK3 hP hD hS => ?_)
  have hK : va_K G vwCl (tysL cI cS cL) s := hK3
  have hP : va_P G vwCl (wW cI cS cL sv gx gm og ((zTH, (fun _ => zTS), rf, ra), zTM, fun _ => 0)) H := hP
  have hD : va_D (fun q : Nat => s.heap.size ≤ q) (wW cI cS cL sv gx gm og ((zTH, (fun _ => zTS), rf, ra), zTM, fun _ => 0)) := hD
  refine lv_astore_n (lv' := [(3, .ref og), (2, .ref (gm 0)), (1, .ref (gx 0)), (0, .ref b)]) hx hb dL_law_19 rfl hl (by decide) rfl (fun ls hl => ?_)
  refine lv_iconst (v := 0) hx hb dL_law_20 (by decide) ?_
  refine lv_istore (lv' := [(4, .int 0), (3, .ref og), (2, .ref (gm 0)), (1, .ref (gx 0)), (0, .ref b)]) hx hb dL_law_21 hl (by decide) rfl (fun ls hl => ?_)
  exact law_loop hL ⟨hst, S, hK, hN, hC, hA, fun _ h => h, Nat.le_refl _, hX, hX0, hbl, hbA⟩ hr hlocks Inv hst9 sv gx gm og 514 0 0 (by omega) rfl (by omega) _ (h09 rf ra) _ _ (Nat.le_of_ble_eq_true rfl) (Nat.le_of_ble_eq_true rfl) H _ ls hP hD hS (lv_sub hl [4, 3, 2, 1, 0] rfl)

