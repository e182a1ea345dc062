abbrev Ar : Type := Nat → Int32
abbrev TB : Type := Int32 × Ar
abbrev TR : Type := Int32 × Int32 × Int32 × Int32
abbrev TS : Type := (Int32 × Int32 × Int32 × Int32) × Ar
abbrev TP : Type := TS × TB
abbrev TH : Type := TP × TB × TB × TB × TR × Int32
abbrev TM : Type := (Int32 × Int32 × Int32 × Int32 × Int32 × Int32 × Int32 × Int64) × Ar × Ar × Ar × Ar
def FU : Nat := 5000
def rd (f : Ar) (n : Nat) (i : Int32) : Option Int32 := if i < 0 ∨ n ≤ i.toNatClampNeg then none else some (f i.toNatClampNeg)
def wr (f : Ar) (n : Nat) (i x : Int32) : Option Ar := if i < 0 ∨ n ≤ i.toNatClampNeg then none else some (upd f i.toNatClampNeg x)
def zO (v : Int32) : Option Int32 := if v = 0 ∨ v = 1 then some v else none
theorem bnd {α β : Type} {x : Option α} {f : α → Option β} {b : β} (h : x.bind f = some b) : ∃ a, x = some a ∧ f a = some b := by
  cases x with
  | none => cases h
  | some a => exact ⟨a, rfl, h⟩
theorem rd_in {f : Ar} {n : Nat} {i v : Int32} (h : rd f n i = some v) : vp_in i n ∧ f i.toNatClampNeg = v := by
  unfold rd at h
  by_cases c : i < 0 ∨ n ≤ i.toNatClampNeg
  · rw [if_pos c] at h; cases h
  · rw [if_neg c] at h; exact ⟨c, Option.some.inj h⟩
theorem wr_in {f g : Ar} {n : Nat} {i x : Int32} (h : wr f n i x = some g) : vp_in i n ∧ upd f i.toNatClampNeg x = g := by
  unfold wr at h
  by_cases c : i < 0 ∨ n ≤ i.toNatClampNeg
  · rw [if_pos c] at h; cases h
  · rw [if_neg c] at h; exact ⟨c, Option.some.inj h⟩
theorem zO_in {v w : Int32} (h : zO v = some w) : v = w ∧ (v = 0 ∨ v = 1) := by
  unfold zO at h
  by_cases c : v = 0 ∨ v = 1
  · rw [if_pos c] at h; exact ⟨Option.some.inj h, c⟩
  · rw [if_neg c] at h; cases h
def wE : va_W := []
def wB (cI : ClassId) (h a n : Nat) (u : TB) : va_W := [(h, .inr (0, [.ref a, .int u.1])), (a, .inl (cI, n, .inl u.2))]
def wR (h : Nat) (u : TR) : va_W := [(h, .inr (1, [.int u.1, .int u.2.1, .int u.2.2.1, .int u.2.2.2]))]
def wS (cI : ClassId) (h a : Nat) (u : TS) : va_W := [(h, .inr (3, [.ref a, .int u.1.1, .int u.1.2.1, .int u.1.2.2.1, .int u.1.2.2.2])), (a, .inl (cI, 1024, .inl u.2))]
def wBB (cI : ClassId) (h a n h2 a2 n2 : Nat) (u : TB × TB) : va_W := [(h, .inr (0, [.ref a, .int u.1.1])), (a, .inl (cI, n, .inl u.1.2)), (h2, .inr (0, [.ref a2, .int u.2.1])), (a2, .inl (cI, n2, .inl u.2.2))]
def wSS (cI : ClassId) (h a h2 a2 : Nat) (u : TS × TS) : va_W := [(h, .inr (3, [.ref a, .int u.1.1.1, .int u.1.1.2.1, .int u.1.1.2.2.1, .int u.1.1.2.2.2])), (a, .inl (cI, 1024, .inl u.1.2)), (h2, .inr (3, [.ref a2, .int u.2.1.1, .int u.2.1.2.1, .int u.2.1.2.2.1, .int u.2.1.2.2.2])), (a2, .inl (cI, 1024, .inl u.2.2))]
def wP (cI : ClassId) (h0 h1 h2 h3 h4 : Nat) (u : TP) : va_W := [(h0, .inr (2, [.ref h1, .ref h3])), (h1, .inr (3, [.ref h2, .int u.1.1.1, .int u.1.1.2.1, .int u.1.1.2.2.1, .int u.1.1.2.2.2])), (h2, .inl (cI, 1024, .inl u.1.2)), (h3, .inr (0, [.ref h4, .int u.2.1])), (h4, .inl (cI, 128, .inl u.2.2))]
def wPB (cI : ClassId) (h0 h1 h2 h3 h4 h5 h6 n : Nat) (u : TP × TB) : va_W := [(h0, .inr (2, [.ref h1, .ref h3])), (h1, .inr (3, [.ref h2, .int u.1.1.1.1, .int u.1.1.1.2.1, .int u.1.1.1.2.2.1, .int u.1.1.1.2.2.2])), (h2, .inl (cI, 1024, .inl u.1.1.2)), (h3, .inr (0, [.ref h4, .int u.1.2.1])), (h4, .inl (cI, 128, .inl u.1.2.2)), (h5, .inr (0, [.ref h6, .int u.2.1])), (h6, .inl (cI, n, .inl u.2.2))]
def wH (cI : ClassId) (sv : Nat) (h : Nat → Nat) (u : TH) : va_W := [(h 0, .inr (4, [.ref (h 1), .ref (h 2), .ref (h 6), .ref (h 8), .ref (h 10), .ref (h 12), .ref sv, .int u.2.2.2.2.2])), (h 1, .inr (2, [.ref (h 2), .ref (h 4)])), (h 2, .inr (3, [.ref (h 3), .int u.1.1.1.1, .int u.1.1.1.2.1, .int u.1.1.1.2.2.1, .int u.1.1.1.2.2.2])), (h 3, .inl (cI, 1024, .inl u.1.1.2)), (h 4, .inr (0, [.ref (h 5), .int u.1.2.1])), (h 5, .inl (cI, 128, .inl u.1.2.2)), (h 6, .inr (0, [.ref (h 7), .int u.2.1.1])), (h 7, .inl (cI, 60, .inl u.2.1.2)), (h 8, .inr (0, [.ref (h 9), .int u.2.2.1.1])), (h 9, .inl (cI, 60, .inl u.2.2.1.2)), (h 10, .inr (0, [.ref (h 11), .int u.2.2.2.1.1])), (h 11, .inl (cI, 63, .inl u.2.2.2.1.2)), (h 12, .inr (1, [.int u.2.2.2.2.1.1, .int u.2.2.2.2.1.2.1, .int u.2.2.2.2.1.2.2.1, .int u.2.2.2.2.1.2.2.2]))]
def wM (cI : ClassId) (h : Nat → Nat) (u : TM) : va_W := [(h 0, .inr (5, [.int u.1.1, .ref (h 1), .int u.1.2.1, .ref (h 2), .int u.1.2.2.1, .ref (h 3), .int u.1.2.2.2.1, .ref (h 4), .int u.1.2.2.2.2.1, .int u.1.2.2.2.2.2.1, .int u.1.2.2.2.2.2.2.1, .long u.1.2.2.2.2.2.2.2])), (h 1, .inl (cI, 10724, .inl u.2.1)), (h 2, .inl (cI, 60, .inl u.2.2.1)), (h 3, .inl (cI, 60, .inl u.2.2.2.1)), (h 4, .inl (cI, 128, .inl u.2.2.2.2))]
abbrev tysW (cI cS : ClassId) : List (ClassId × FieldType) := [(cI, .int), (cS, .object RX3)]
def nests : List Cond := [Cond.methodLinkNest RX4 11 yX2_init RX4, Cond.methodLinkNest RX2 11 yX3_init RX4, Cond.fieldLinkNest RX2 47 "HeapFile$State" "pageCount" "I" RX4, Cond.fieldLinkNest RX4 143 "HeapFile$State" "pageCount" "I" RX4, Cond.fieldLinkNest RX4 179 "HeapFile$State" "moveCount" "I" RX4, Cond.fieldLinkNest RX4 182 "HeapFile$State" "returnCount" "I" RX4, Cond.fieldLinkNest RX2 98 "HeapFile$State" "compactionCount" "I" RX4, Cond.fieldLinkNest RX4 185 "HeapFile$State" "compactionCount" "I" RX4, Cond.methodLinkNest RX2 20 yX0_init RX4, Cond.fieldLinkNest RX4 54 "HeapFile$Bytes" "count" "I" RX4, Cond.fieldLinkNest RX2 83 "HeapFile$Bytes" "count" "I" RX4, Cond.fieldLinkNest RX4 16 "HeapFile$Pages" "state" "LHeapFile$State;" RX4, Cond.methodLinkNest RX4 23 yX0_init RX4, Cond.methodLinkNest RX4 38 yX1_init RX4, Cond.methodLinkNest RX4 49 yX3_init RX4, Cond.methodLinkNest RX4 146 yX3_slotCount RX4, Cond.methodLinkNest RX4 173 yX3_sizeOf RX4, Cond.methodLinkNest RX4 176 yX3_recordByte RX4, Cond.methodLinkNest RX4 82 yX2_findPage RX4, Cond.methodLinkNest RX2 27 yX3_slotCount RX4, Cond.methodLinkNest RX2 34 yX3_sizeOf RX4, Cond.methodLinkNest RX2 31 yX4_slotOffset RX4, Cond.methodLinkNest RX4 194 yX2_slotToUse RX4, Cond.methodLinkNest RX4 236 yX3_copyFrom RX4, Cond.methodLinkNest RX4 161 yX2_freeBytes RX4, Cond.methodLinkNest RX4 164 yX2_gapWith RX4, Cond.methodLinkNest RX2 41 yX3_byteAt RX4, Cond.methodLinkNest RX4 158 yX3_byteAt RX4, Cond.methodLinkNest RX4 188 yX2_sizeOfRecords RX4, Cond.methodLinkNest RX4 75 yX0_add RX4, Cond.methodLinkNest RX4 205 yX2_recordsThatFit RX4, Cond.methodLinkNest RX4 58 yX0_empty RX4, Cond.methodLinkNest RX4 91 yX0_takePart RX4, Cond.methodLinkNest RX4 281 yX2_openIfNew RX4, Cond.methodLinkNest RX2 55 yX3_setByte RX4, Cond.methodLinkNest RX4 274 yX0_addAll RX4, Cond.methodLinkNest RX4 287 yX2_putRecord RX4, Cond.methodLinkNest RX2 67 yX4_pageIn RX4, Cond.methodLinkNest RX2 70 yX4_slotIn RX4, Cond.methodLinkNest RX2 59 yX3_offsetOf RX4, Cond.methodLinkNest RX2 92 yX0_empty RX4, Cond.methodLinkNest RX2 95 yX0_add RX4, Cond.methodLinkNest RX2 89 yX0_at RX4, Cond.methodLinkNest RX4 304 yX2_removeRecord RX4, Cond.methodLinkNest RX4 307 yX3_setRecordByte RX4, Cond.methodLinkNest RX4 126 yX2_compactPage RX4]
theorem nq_0 : Cond.methodLinkNest RX4 11 yX2_init RX4 ∈ nests := List.mem_of_getElem? (i := 0) rfl
theorem nq_1 : Cond.methodLinkNest RX2 11 yX3_init RX4 ∈ nests := List.mem_of_getElem? (i := 1) rfl
theorem nq_2 : Cond.fieldLinkNest RX2 47 "HeapFile$State" "pageCount" "I" RX4 ∈ nests := List.mem_of_getElem? (i := 2) rfl
theorem nq_3 : Cond.fieldLinkNest RX4 143 "HeapFile$State" "pageCount" "I" RX4 ∈ nests := List.mem_of_getElem? (i := 3) rfl
theorem nq_4 : Cond.fieldLinkNest RX4 179 "HeapFile$State" "moveCount" "I" RX4 ∈ nests := List.mem_of_getElem? (i := 4) rfl
theorem nq_5 : Cond.fieldLinkNest RX4 182 "HeapFile$State" "returnCount" "I" RX4 ∈ nests := List.mem_of_getElem? (i := 5) rfl
theorem nq_6 : Cond.fieldLinkNest RX2 98 "HeapFile$State" "compactionCount" "I" RX4 ∈ nests := List.mem_of_getElem? (i := 6) rfl
theorem nq_7 : Cond.fieldLinkNest RX4 185 "HeapFile$State" "compactionCount" "I" RX4 ∈ nests := List.mem_of_getElem? (i := 7) rfl
theorem nq_8 : Cond.methodLinkNest RX2 20 yX0_init RX4 ∈ nests := List.mem_of_getElem? (i := 8) rfl
theorem nq_9 : Cond.fieldLinkNest RX4 54 "HeapFile$Bytes" "count" "I" RX4 ∈ nests := List.mem_of_getElem? (i := 9) rfl
theorem nq_10 : Cond.fieldLinkNest RX2 83 "HeapFile$Bytes" "count" "I" RX4 ∈ nests := List.mem_of_getElem? (i := 10) rfl
theorem nq_11 : Cond.fieldLinkNest RX4 16 "HeapFile$Pages" "state" "LHeapFile$State;" RX4 ∈ nests := List.mem_of_getElem? (i := 11) rfl
theorem nq_12 : Cond.methodLinkNest RX4 23 yX0_init RX4 ∈ nests := List.mem_of_getElem? (i := 12) rfl
theorem nq_13 : Cond.methodLinkNest RX4 38 yX1_init RX4 ∈ nests := List.mem_of_getElem? (i := 13) rfl
theorem nq_14 : Cond.methodLinkNest RX4 49 yX3_init RX4 ∈ nests := List.mem_of_getElem? (i := 14) rfl
theorem nq_15 : Cond.methodLinkNest RX4 146 yX3_slotCount RX4 ∈ nests := List.mem_of_getElem? (i := 15) rfl
theorem nq_16 : Cond.methodLinkNest RX4 173 yX3_sizeOf RX4 ∈ nests := List.mem_of_getElem? (i := 16) rfl
theorem nq_17 : Cond.methodLinkNest RX4 176 yX3_recordByte RX4 ∈ nests := List.mem_of_getElem? (i := 17) rfl
theorem nq_18 : Cond.methodLinkNest RX4 82 yX2_findPage RX4 ∈ nests := List.mem_of_getElem? (i := 18) rfl
theorem nq_19 : Cond.methodLinkNest RX2 27 yX3_slotCount RX4 ∈ nests := List.mem_of_getElem? (i := 19) rfl
theorem nq_20 : Cond.methodLinkNest RX2 34 yX3_sizeOf RX4 ∈ nests := List.mem_of_getElem? (i := 20) rfl
theorem nq_21 : Cond.methodLinkNest RX2 31 yX4_slotOffset RX4 ∈ nests := List.mem_of_getElem? (i := 21) rfl
theorem nq_22 : Cond.methodLinkNest RX4 194 yX2_slotToUse RX4 ∈ nests := List.mem_of_getElem? (i := 22) rfl
theorem nq_23 : Cond.methodLinkNest RX4 236 yX3_copyFrom RX4 ∈ nests := List.mem_of_getElem? (i := 23) rfl
theorem nq_24 : Cond.methodLinkNest RX4 161 yX2_freeBytes RX4 ∈ nests := List.mem_of_getElem? (i := 24) rfl
theorem nq_25 : Cond.methodLinkNest RX4 164 yX2_gapWith RX4 ∈ nests := List.mem_of_getElem? (i := 25) rfl
theorem nq_26 : Cond.methodLinkNest RX2 41 yX3_byteAt RX4 ∈ nests := List.mem_of_getElem? (i := 26) rfl
theorem nq_27 : Cond.methodLinkNest RX4 158 yX3_byteAt RX4 ∈ nests := List.mem_of_getElem? (i := 27) rfl
theorem nq_28 : Cond.methodLinkNest RX4 188 yX2_sizeOfRecords RX4 ∈ nests := List.mem_of_getElem? (i := 28) rfl
theorem nq_29 : Cond.methodLinkNest RX4 75 yX0_add RX4 ∈ nests := List.mem_of_getElem? (i := 29) rfl
theorem nq_30 : Cond.methodLinkNest RX4 205 yX2_recordsThatFit RX4 ∈ nests := List.mem_of_getElem? (i := 30) rfl
theorem nq_31 : Cond.methodLinkNest RX4 58 yX0_empty RX4 ∈ nests := List.mem_of_getElem? (i := 31) rfl
theorem nq_32 : Cond.methodLinkNest RX4 91 yX0_takePart RX4 ∈ nests := List.mem_of_getElem? (i := 32) rfl
theorem nq_33 : Cond.methodLinkNest RX4 281 yX2_openIfNew RX4 ∈ nests := List.mem_of_getElem? (i := 33) rfl
theorem nq_34 : Cond.methodLinkNest RX2 55 yX3_setByte RX4 ∈ nests := List.mem_of_getElem? (i := 34) rfl
theorem nq_35 : Cond.methodLinkNest RX4 274 yX0_addAll RX4 ∈ nests := List.mem_of_getElem? (i := 35) rfl
theorem nq_36 : Cond.methodLinkNest RX4 287 yX2_putRecord RX4 ∈ nests := List.mem_of_getElem? (i := 36) rfl
theorem nq_37 : Cond.methodLinkNest RX2 67 yX4_pageIn RX4 ∈ nests := List.mem_of_getElem? (i := 37) rfl
theorem nq_38 : Cond.methodLinkNest RX2 70 yX4_slotIn RX4 ∈ nests := List.mem_of_getElem? (i := 38) rfl
theorem nq_39 : Cond.methodLinkNest RX2 59 yX3_offsetOf RX4 ∈ nests := List.mem_of_getElem? (i := 39) rfl
theorem nq_40 : Cond.methodLinkNest RX2 92 yX0_empty RX4 ∈ nests := List.mem_of_getElem? (i := 40) rfl
theorem nq_41 : Cond.methodLinkNest RX2 95 yX0_add RX4 ∈ nests := List.mem_of_getElem? (i := 41) rfl
theorem nq_42 : Cond.methodLinkNest RX2 89 yX0_at RX4 ∈ nests := List.mem_of_getElem? (i := 42) rfl
theorem nq_43 : Cond.methodLinkNest RX4 304 yX2_removeRecord RX4 ∈ nests := List.mem_of_getElem? (i := 43) rfl
theorem nq_44 : Cond.methodLinkNest RX4 307 yX3_setRecordByte RX4 ∈ nests := List.mem_of_getElem? (i := 44) rfl
theorem nq_45 : Cond.methodLinkNest RX4 126 yX2_compactPage RX4 ∈ nests := List.mem_of_getElem? (i := 45) rfl
def isNest : Cond → Bool
  | .fieldLinkNest .. => true
  | .methodLinkNest .. => true
  | _ => false
theorem nests_ok : nests.all isNest = true := by decide +kernel
def NW (U : State) : Prop := ∀ w ∈ nests, va_Nw w U
theorem NW.moved {u U : State} (hW : u.WarmedH U.vm) (h : NW u) : NW U := by
  intro w hw
  have h1 := List.all_eq_true.mp nests_ok w hw
  have h2 := h w hw
  cases w <;> first | exact va_Nw.warmF hW h2 | exact va_Nw.warmM hW h2 | cases h1
theorem NW.same {u U : State} (hv : u.vm = U.vm) (h : NW u) : NW U := by
  intro w hw
  have h1 := List.all_eq_true.mp nests_ok w hw
  have h2 := h w hw
  cases w <;> first | exact va_Nw.same rfl hv h2 | cases h1
def PreR (G : va_G) (tys : List (ClassId × FieldType)) (ws : va_W) : State → Prop := fun U => va_P G vwCl ws U.heap ∧ va_K G vwCl tys U ∧ NW U
def PreM (G : va_G) (tys : List (ClassId × FieldType)) (ws : va_W) (sz : Nat) : State → Prop := fun U => U.heap.size = sz ∧ va_P G vwCl ws U.heap ∧ va_K G vwCl tys U ∧ NW U ∧ va_D (fun _ => True) ws
def PoM {α : Type} (G : va_G) (tys : List (ClassId × FieldType)) (A : Nat → Prop) (w : α → va_W) : α → State → Prop := fun u t => va_P G vwCl (w u) t.heap ∧ va_K G vwCl tys t ∧ NW t ∧ va_D A (w u)
theorem fbR {G : va_G} {tys : List (ClassId × FieldType)} {ws : va_W} {As : List Value} : FrameBlind (va_Pc As (PreR G tys ws)) := by
  intro a U g mk q
  obtain ⟨q0, qP, qK, qN⟩ := q
  exact ⟨q0, qP, va_K.moved (u := U) (U := U.calling g mk a) (Vm.Alike.refl U.vm) qK, NW.same (u := U) (U := U.calling g mk a) rfl qN⟩
theorem fbM {G : va_G} {tys : List (ClassId × FieldType)} {ws : va_W} {sz : Nat} {As : List Value} : FrameBlind (va_Pc As (PreM G tys ws sz)) := by
  intro a U g mk q
  obtain ⟨q0, q1, qP, qK, qN, qD⟩ := q
  exact ⟨q0, q1, qP, va_K.moved (u := U) (U := U.calling g mk a) (Vm.Alike.refl U.vm) qK, NW.same (u := U) (U := U.calling g mk a) rfl qN, qD⟩
section CALLS
variable {s : State} {H : Heap} {G : va_G} {tys : List (ClassId × FieldType)} {ws : va_W} {As : List Value} {A : Nat → Prop}
theorem psR (hK : va_K G vwCl tys s) (hN : NW s) (hP : va_P G vwCl ws H) : PreS s H (va_Pc As (PreR G tys ws)) As :=
  ⟨fbR, fun U hU hW => ⟨rfl, by rw [hU]; exact hP, va_K.moved hW.alike hK, NW.moved hW hN⟩⟩
theorem pvR {a q0 ci : Nat} {fs : List Value} {q : vw_C} (hK : va_K G vwCl tys s) (hN : NW s) (hP : va_P G vwCl ws H) (hc : vwCl[ci]? = some q) (he : ws[q0]? = some (a, .inr (ci, fs))) : PreV s H q.1 a (va_Pc (.ref a :: As) (PreR G tys ws)) As :=
  ⟨fbR, va_recv hK hP hc he, fun U hU hW => ⟨rfl, by rw [hU]; exact hP, va_K.moved hW.alike hK, NW.moved hW hN⟩⟩
theorem psM (hK : va_K G vwCl tys s) (hN : NW s) (hP : va_P G vwCl ws H) (hD : va_D A ws) : PreS s H (va_Pc As (PreM G tys ws H.size)) As :=
  ⟨fbM, fun U hU hW => ⟨rfl, by rw [hU], by rw [hU]; exact hP, va_K.moved hW.alike hK, NW.moved hW hN, hD.weaken (fun _ _ _ _ => trivial)⟩⟩
theorem pvM {a q0 ci : Nat} {fs : List Value} {q : vw_C} (hK : va_K G vwCl tys s) (hN : NW s) (hP : va_P G vwCl ws H) (hD : va_D A ws) (hc : vwCl[ci]? = some q) (he : ws[q0]? = some (a, .inr (ci, fs))) : PreV s H q.1 a (va_Pc (.ref a :: As) (PreM G tys ws H.size)) As :=
  ⟨fbM, va_recv hK hP hc he, fun U hU hW => ⟨rfl, by rw [hU], by rw [hU]; exact hP, va_K.moved hW.alike hK, NW.moved hW hN, hD.weaken (fun _ _ _ _ => trivial)⟩⟩
end CALLS
theorem gdV {own C : String} {idx : Nat} {y : MethodName} {c2 : Cond} (h1 : Cond.methodLink own idx y ∈ bw) (h2 : Cond.instanceMethod y ∈ bw) (h3 : Cond.selects C y y ∈ bw) (h4 : Cond.initialized C ∈ bw) (h5 : c2 ∈ bw) : GoodIn bw (wsV own idx C y (c2 :: bw)) := by
  intro w hw
  have hm : w ∈ bw := by
    simp only [wsV, List.cons_append, List.nil_append, List.mem_cons] at hw
    rcases hw with rfl | rfl | rfl | rfl | rfl | hw
    · exact h1
    · exact h2
    · exact h3
    · exact h4
    · exact h5
    · exact hw
  exact ⟨hm, good_of_word (List.all_eq_true.mp bwGood w hm)⟩
theorem gdS {own : String} {idx : Nat} {y : MethodName} {c2 : Cond} (h1 : Cond.methodLink own idx y ∈ bw) (h2 : Cond.static y ∈ bw) (h4 : Cond.initialized own ∈ bw) (h5 : c2 ∈ bw) : GoodIn bw (wsS own idx y (c2 :: bw)) := by
  intro w hw
  have hm : w ∈ bw := by
    simp only [wsS, List.cons_append, List.nil_append, List.mem_cons] at hw
    rcases hw with rfl | rfl | rfl | rfl | hw
    · exact h1
    · exact h2
    · exact h4
    · exact h5
    · exact hw
  exact ⟨hm, good_of_word (List.all_eq_true.mp bwGood w hm)⟩
theorem gdC {c2 : Cond} (h5 : c2 ∈ bw) : GoodIn bw (c2 :: bw) := by
  intro w hw
  have hm : w ∈ bw := by
    rcases List.mem_cons.mp hw with rfl | hw
    · exact h5
    · exact hw
  exact ⟨hm, good_of_word (List.all_eq_true.mp bwGood w hm)⟩
section GO
variable {p : Program} {l : Launch} {e : Env} {R : Room} {s : State} {m : MethodId} {args : Array Value} {below : List Frame} {meth : Method} {c : Code} {H : Heap} {locs : List Loc} {cells slots : Nat} {Q : State → Prop}
variable {cc : ByteArray} {pc nL : Nat} {ls : Array Slot} {rest : List Value} {G : va_G} {tys : List (ClassId × FieldType)} {ws : va_W} {A : Nat → Prop} {H0 : Heap} {a : Nat}
theorem iaO (hexec : p.tables.exec = Jvm.exec) (hb : c.code = cc) (hK : va_K G vwCl tys s) (hP : va_P G vwCl ws H) (q0 t0 : Nat) {cA : ClassId} {n : Nat} {f : Ar} (ha : ws[q0]? = some (a, .inl (cA, n, .inl f))) (ht : tys[t0]? = some (cA, .int)) {i v : Int32} (hin : rd f n i = some v) (hdg : decode cc pc = .ok (.iaload, 1))
    (kk : W p l e R s m args below meth c H locs cells slots Q (F0 m (pc + 1) ls (.int v :: rest))) : W p l e R s m args below meth c H locs cells slots Q (F0 m pc ls (.int i :: .ref a :: rest)) := by
  obtain ⟨h1, rfl⟩ := rd_in hin
  exact va_iald hexec hb hK hP q0 t0 ha ht h1 hdg kk
theorem iaS (hexec : p.tables.exec = Jvm.exec) (hb : c.code = cc) (hK : va_K G vwCl tys s) (hP : va_P G vwCl ws H) (hD : va_D A ws) (hS : va_S A H0 H locs) (q0 t0 : Nat) {cA : ClassId} {n : Nat} {f g : Ar} (ha : ws[q0]? = some (a, .inl (cA, n, .inl f))) (ht : tys[t0]? = some (cA, .int)) {i : Int32} {x : Int32} (hin : wr f n i x = some g) (hdg : decode cc pc = .ok (.iastore, 1))
    (kk : ∀ (H1 : Heap) (locs1 : List Loc), va_P G vwCl (ws.set q0 (a, .inl (cA, n, .inl g))) H1 → va_D A (ws.set q0 (a, .inl (cA, n, .inl g))) → va_S A H0 H1 locs1 → W p l e R s m args below meth c H1 locs1 cells slots Q (F0 m (pc + 1) ls rest)) : W p l e R s m args below meth c H locs cells slots Q (F0 m pc ls (.int x :: .int i :: .ref a :: rest)) := by
  obtain ⟨h1, rfl⟩ := wr_in hin
  exact va_iast hexec hb hK hP hD hS q0 t0 ha ht h1 hdg kk
theorem roI {r : Int32} {aa : Array Value} {st0 : List Value} (hr : va_Run p l e R s m args below meth c H locs cells slots 0 0 (F0 m pc ls st0) rest (vp_Si (fun r' => r' = r) aa) (fun _ => False))
    (kk : W p l e R s m args below meth c H locs cells slots Q (F0 m (pc + 3) ls (.int r :: rest))) : W p l e R s m args below meth c H locs cells slots Q (F0 m pc ls st0) :=
  vp_callSi (va_Run.run hr) (fun r' h => by rw [h]; exact kk)
end GO
theorem i32ne {x k : Int32} {a : Int} (h : ¬ x = k) (hk : k.toInt = a) : x.toInt ≠ a := fun q => h (Int32.toInt_inj.mp (q.trans hk.symm))
theorem va_P0 {G : va_G} {H : Heap} : va_P G vwCl wE H := fun _ _ h => by simp [wE] at h
def itr {α β : Type} (step : α → Option (α ⊕ β)) : Nat → α → Option β
  | 0, _ => none
  | n + 1, a => (step a).bind fun z => match z with
    | .inl a' => itr step n a'
    | .inr b => some b
theorem itr_ind {α β : Type} {step : α → Option (α ⊕ β)} {Inv : α → Prop} {Ex : β → Prop}
    (hs : ∀ a z, step a = some z → (∀ a', Sum.inl a' = z → Inv a') → (∀ b, Sum.inr b = z → Ex b) → Inv a) : ∀ (n : Nat) (a : α) (b : β), itr step n a = some b → Ex b → Inv a := by
  intro n
  induction n with
  | zero => intro a b h; cases h
  | succ n ih =>
    intro a b h hb
    obtain ⟨z, e, h⟩ := bnd (show (step a).bind (fun z => match z with | .inl a' => itr step n a' | .inr b => some b) = some b from h)
    refine hs a z e ?_ ?_
    · intro a' q; subst q; exact ih a' b h hb
    · intro b' q; subst q; cases h; exact hb
theorem fm_of {α β : Type} {f : α → Option β} : ∀ {l : List α} {r : List β}, l.map f = r.map some → l.filterMap f = r := by
  intro l
  induction l with
  | nil => intro r h; cases r with
    | nil => rfl
    | cons b r => cases h
  | cons a l ih =>
    intro r h
    cases r with
    | nil => cases h
    | cons b r =>
      simp only [List.map_cons, List.cons.injEq] at h
      rw [List.filterMap_cons, h.1, ih h.2]
section GO2
variable {p : Program} {l : Launch} {e : Env} {R : Room} {s : State} {m : MethodId} {args : Array Value} {below : List Frame} {meth : Method} {c : Code} {H : Heap} {locs : List Loc} {cells slots : Nat} {Q : State → Prop}
variable {cc : ByteArray} {pc nL : Nat} {ls : Array Slot} {rest : List Value} {G : va_G} {tys : List (ClassId × FieldType)} {ws : va_W} {A : Nat → Prop} {H0 : Heap} {a : Nat} {own : String} {α : Type} {w : α → va_W}
theorem retR {r v : Int32} (hQ : Q = MQ below (vp_Si (fun r' => r' = r)) args s 0 0 (fun _ => False)) (S : CallFix p m c cc nL s args bw own) (hr : meth.sig.returnType = some .int) (hlocks : meth.locks = false) (h : some v = some r) (hdg : decode cc pc = .ok (.ireturn, 1)) : W p l e R s m args below meth c s.heap [] 0 0 Q (F0 m pc ls [.int v]) := by
  rw [hQ]
  exact W.iret S.1 S.2.1 hr (fun t ht _ => ⟨v, rfl, Option.some.inj h, ht⟩) (fun _ hq => nomatch hq) hdg hlocks
theorem retRz {r v : Int32} (hQ : Q = MQ below (vp_Si (fun r' => r' = r)) args s 0 0 (fun _ => False)) (S : CallFix p m c cc nL s args bw own) (hr : meth.sig.returnType = some .boolean) (hlocks : meth.locks = false) (hn : narrow .boolean (.int v) = .int v) (h : some v = some r) (hdg : decode cc pc = .ok (.ireturn, 1)) : W p l e R s m args below meth c s.heap [] 0 0 Q (F0 m pc ls [.int v]) := by
  rw [hQ]
  exact W.zret S.1 S.2.1 hr hn (fun t ht _ => ⟨v, rfl, Option.some.inj h, ht⟩) (fun _ hq => nomatch hq) hdg hlocks
theorem retMi {v : Int32} {u : α} {z : Int32 × α} (hQ : Q = MQ below (va_Qi (fun r u' => (r, u') = z) (PoM G tys A w) A) args s 0 0 A) (S : CallFix p m c cc nL s args bw own) (hr : meth.sig.returnType = some .int) (hlocks : meth.locks = false) (hK : va_K G vwCl tys s) (hN : NW s) (hP : va_P G vwCl (w u) H) (hD : va_D A (w u)) (hS : va_S A s.heap H locs) (h : some (v, u) = some z) (hdg : decode cc pc = .ok (.ireturn, 1)) : W p l e R s m args below meth c H locs 0 0 Q (F0 m pc ls [.int v]) := by
  rw [hQ]
  exact W.iret S.1 S.2.1 hr (fun t ht hW => ⟨⟨v, u, rfl, Option.some.inj h, by rw [ht]; exact hP, va_K.moved hW.alike hK, NW.moved hW hN, hD⟩, hS.F ht⟩) hS.2.2 hdg hlocks
theorem retMz {v : Int32} {u : α} {z : Int32 × α} (hQ : Q = MQ below (va_Qi (fun r u' => (r, u') = z) (PoM G tys A w) A) args s 0 0 A) (S : CallFix p m c cc nL s args bw own) (hr : meth.sig.returnType = some .boolean) (hlocks : meth.locks = false) (hn : narrow .boolean (.int v) = .int v) (hK : va_K G vwCl tys s) (hN : NW s) (hP : va_P G vwCl (w u) H) (hD : va_D A (w u)) (hS : va_S A s.heap H locs) (h : some (v, u) = some z) (hdg : decode cc pc = .ok (.ireturn, 1)) : W p l e R s m args below meth c H locs 0 0 Q (F0 m pc ls [.int v]) := by
  rw [hQ]
  exact W.zret S.1 S.2.1 hr hn (fun t ht hW => ⟨⟨v, u, rfl, Option.some.inj h, by rw [ht]; exact hP, va_K.moved hW.alike hK, NW.moved hW hN, hD⟩, hS.F ht⟩) hS.2.2 hdg hlocks
theorem retMl {v : Int64} {u : α} {z : Int64 × α} (hQ : Q = MQ below (va_Ql (fun r u' => (r, u') = z) (PoM G tys A w) A) args s 0 0 A) (S : CallFix p m c cc nL s args bw own) (hr : meth.sig.returnType = some .long) (hlocks : meth.locks = false) (hK : va_K G vwCl tys s) (hN : NW s) (hP : va_P G vwCl (w u) H) (hD : va_D A (w u)) (hS : va_S A s.heap H locs) (h : some (v, u) = some z) (hdg : decode cc pc = .ok (.lreturn, 1)) : W p l e R s m args below meth c H locs 0 0 Q (F0 m pc ls [.long v]) := by
  rw [hQ]
  exact W.lret S.1 S.2.1 hr (fun t ht hW => ⟨⟨v, u, rfl, Option.some.inj h, by rw [ht]; exact hP, va_K.moved hW.alike hK, NW.moved hW hN, hD⟩, hS.F ht⟩) hS.2.2 hdg hlocks
theorem retMv {u z : α} (hQ : Q = MQ below (va_Qv (fun u' => u' = z) (PoM G tys A w) A) args s 0 0 A) (S : CallFix p m c cc nL s args bw own) (hr : meth.sig.returnType = none) (hlocks : meth.locks = false) (hK : va_K G vwCl tys s) (hN : NW s) (hP : va_P G vwCl (w u) H) (hD : va_D A (w u)) (hS : va_S A s.heap H locs) (h : some u = some z) (hdg : decode cc pc = .ok (.return_, 1)) : W p l e R s m args below meth c H locs 0 0 Q (F0 m pc ls []) := by
  rw [hQ]
  exact W.vret S.1 S.2.1 hr (fun t ht hW => ⟨⟨u, rfl, Option.some.inj h, by rw [ht]; exact hP, va_K.moved hW.alike hK, NW.moved hW hN, hD⟩, hS.F ht⟩) hS.2.2 hdg hlocks
theorem mui {z : Int32 × α} {ws : va_W} {aa : Array Value} {st0 : List Value} (hr : va_Run p l e R s m args below meth c H locs cells slots 0 0 (F0 m pc ls st0) rest (va_Qi (fun r u => (r, u) = z) (PoM G tys (va_A ws H.size) w) (va_A ws H.size) aa) (va_A ws H.size)) (hS : va_S A H0 H locs) (hD : va_D A ws) (hF : ∀ q, va_A ws H.size q → A q)
    (kk : ∀ (H1 : Heap) (locs1 : List Loc), va_P G vwCl (w z.2) H1 → va_D A (w z.2) → va_S A H0 H1 locs1 → W p l e R s m args below meth c H1 locs1 cells slots Q (F0 m (pc + 3) ls (.int z.1 :: rest))) : W p l e R s m args below meth c H locs cells slots Q (F0 m pc ls st0) := by
  refine va_calli hr hS (fun q _ h => hF q h) hF (fun r u t H1 locs1 ht hvm hw hB hz hk hS => ?_)
  subst hw
  obtain ⟨hP1, _, _, hD1⟩ := hB
  rw [ht] at hP1
  exact kk H1 locs1 hP1 (hD1.weaken (fun _ _ _ h => hF _ h)) hS
theorem muv {z : α} {ws : va_W} {aa : Array Value} {st0 : List Value} (hr : va_Run p l e R s m args below meth c H locs cells slots 0 0 (F0 m pc ls st0) rest (va_Qv (fun u => u = z) (PoM G tys (va_A ws H.size) w) (va_A ws H.size) aa) (va_A ws H.size)) (hS : va_S A H0 H locs) (hD : va_D A ws) (hF : ∀ q, va_A ws H.size q → A q)
    (kk : ∀ (H1 : Heap) (locs1 : List Loc), va_P G vwCl (w z) H1 → va_D A (w z) → va_S A H0 H1 locs1 → W p l e R s m args below meth c H1 locs1 cells slots Q (F0 m (pc + 3) ls rest)) : W p l e R s m args below meth c H locs cells slots Q (F0 m pc ls st0) := by
  refine va_callv hr hS (fun q _ h => hF q h) hF (fun u t H1 locs1 ht hvm hw hB hz hk hS => ?_)
  subst hw
  obtain ⟨hP1, _, _, hD1⟩ := hB
  rw [ht] at hP1
  exact kk H1 locs1 hP1 (hD1.weaken (fun _ _ _ h => hF _ h)) hS
theorem mji {z : Int32 × α} {ws wc : va_W} {aa : Array Value} {st0 : List Value} (hr : va_Run p l e R s m args below meth c H locs cells slots 0 0 (F0 m pc ls st0) rest (va_Qi (fun r u => (r, u) = z) (PoM G tys (va_A wc H.size) w) (va_A wc H.size) aa) (va_A wc H.size)) (hS : va_S A H0 H locs) (hP : va_P G vwCl ws H) (hD : va_D A ws) (hA : ∀ q, H0.size ≤ q → A q)
    (isC isR : List Nat) (hC : isC.map (fun i => ws[i]?) = wc.map some) (hR : isR.map (fun i => ws[i]?) = (isR.filterMap (fun i => ws[i]?)).map some) (hn : va_nd isR = true) (hdis : ∀ i ∈ isR, i ∉ isC) (perm : List Nat) (hpn : va_nd perm = true) (ws1 : va_W) (hpm : perm.map (fun i => (isR.filterMap (fun i => ws[i]?) ++ w z.2)[i]?) = ws1.map some)
    (kk : ∀ (H1 : Heap) (locs1 : List Loc), va_P G vwCl ws1 H1 → va_D A ws1 → va_S A H0 H1 locs1 → W p l e R s m args below meth c H1 locs1 cells slots Q (F0 m (pc + 3) ls (.int z.1 :: rest))) : W p l e R s m args below meth c H locs cells slots Q (F0 m pc ls st0) := by
  have hF := va_free (wc := wc) hD hS hA isC hC
  refine va_calli hr hS (fun q _ h => hF q h) hF (fun r u t H1 locs1 ht hvm hw hB hz hk hS => ?_)
  subst hw
  obtain ⟨hP1, _, _, hD1⟩ := hB
  rw [ht] at hP1
  obtain ⟨hP2, hD2⟩ := va_join hP hD isC isR hC hR hn hdis hk hF hP1 hD1
  exact kk H1 locs1 (hP2.sub perm (fm_of hpm)) (hD2.sub perm hpn hpm) hS
theorem mjv {z : α} {ws wc : va_W} {aa : Array Value} {st0 : List Value} (hr : va_Run p l e R s m args below meth c H locs cells slots 0 0 (F0 m pc ls st0) rest (va_Qv (fun u => u = z) (PoM G tys (va_A wc H.size) w) (va_A wc H.size) aa) (va_A wc H.size)) (hS : va_S A H0 H locs) (hP : va_P G vwCl ws H) (hD : va_D A ws) (hA : ∀ q, H0.size ≤ q → A q)
    (isC isR : List Nat) (hC : isC.map (fun i => ws[i]?) = wc.map some) (hR : isR.map (fun i => ws[i]?) = (isR.filterMap (fun i => ws[i]?)).map some) (hn : va_nd isR = true) (hdis : ∀ i ∈ isR, i ∉ isC) (perm : List Nat) (hpn : va_nd perm = true) (ws1 : va_W) (hpm : perm.map (fun i => (isR.filterMap (fun i => ws[i]?) ++ w z)[i]?) = ws1.map some)
    (kk : ∀ (H1 : Heap) (locs1 : List Loc), va_P G vwCl ws1 H1 → va_D A ws1 → va_S A H0 H1 locs1 → W p l e R s m args below meth c H1 locs1 cells slots Q (F0 m (pc + 3) ls rest)) : W p l e R s m args below meth c H locs cells slots Q (F0 m pc ls st0) := by
  have hF := va_free (wc := wc) hD hS hA isC hC
  refine va_callv hr hS (fun q _ h => hF q h) hF (fun u t H1 locs1 ht hvm hw hB hz hk hS => ?_)
  subst hw
  obtain ⟨hP1, _, _, hD1⟩ := hB
  rw [ht] at hP1
  obtain ⟨hP2, hD2⟩ := va_join hP hD isC isR hC hR hn hdis hk hF hP1 hD1
  exact kk H1 locs1 (hP2.sub perm (fm_of hpm)) (hD2.sub perm hpn hpm) hS
end GO2
theorem enterR {l : Launch} {y : MethodName} {cc : ByteArray} {maxL : Nat} {ret : Option FieldType} {rm : Room} {G : va_G} {tys : List (ClassId × FieldType)} {ws : va_W} {As : List Value} {r : Int32} {own : String} (hy : plainName y.cls = true) (hown : y.cls = own) (hmc : rm.cells = 0) (hlen : (lg_sl As).length ≤ maxL)
    (body : ∀ (p : Program) (e : Env) (s : State) (m : MethodId) (args : Array Value) (below : List Frame) (meth : Method) (c : Code) (Q : State → Prop), Q = MQ below (vp_Si (fun r' => r' = r)) args s 0 0 (fun _ => False) → CallFix p m c cc maxL s args bw own → meth.sig.returnType = ret → meth.locks = false → va_P G vwCl ws s.heap → va_K G vwCl tys s → NW s → ∀ ls : Array Slot, lv_has ls maxL (lv_args 0 As) → W p l e rm s m args below meth c s.heap [] 0 0 Q (F0 m 0 ls [])) :
    Met l y (.code y cc maxL ret :: bw) rm (va_Pc As (PreR G tys ws)) (vp_Si (fun r' => r' = r)) 0 0 (fun _ => False) := by
  refine Met.ofW (cc := cc) (maxL := maxL) (ret := ret) hy rfl ?_
  intro p e s m args below meth c s₁ B hml hv
  obtain ⟨rfl, hP, hK, hN⟩ := hv
  have hts := atoms_spec (ws := .code y cc maxL ret :: bw) B.pre
  have hfc : s.vm.findClass own = some m.cls := by rw [← hown]; exact findClass_of_methodNamed B.named
  have hl := lv_entry As hlen
  rw [lg_entry_eq]
  exact body p e s m _ below meth c _ rfl ⟨B.exec, B.bytes, hml, hfc, fun w hw => hts w (List.mem_cons_of_mem _ hw)⟩ B.returns B.notSynchronized hP hK hN _ hl
theorem enterM {l : Launch} {y : MethodName} {cc : ByteArray} {maxL : Nat} {ret : Option FieldType} {rm : Room} {G : va_G} {tys : List (ClassId × FieldType)} {ws : va_W} {As : List Value} {sz : Nat} {own : String} {Qc : Array Value → State → Outcome → State → Prop} (hy : plainName y.cls = true) (hown : y.cls = own) (hlen : (lg_sl As).length ≤ maxL)
    (body : ∀ (p : Program) (e : Env) (s : State) (m : MethodId) (args : Array Value) (below : List Frame) (meth : Method) (c : Code) (A : Nat → Prop) (Q : State → Prop), va_A ws sz = A → Q = MQ below Qc args s 0 0 A → CallFix p m c cc maxL s args bw own → meth.sig.returnType = ret → meth.locks = false → va_P G vwCl ws s.heap → va_K G vwCl tys s → NW s → va_D A ws → (∀ q, s.heap.size ≤ q → A q) → va_S A s.heap s.heap [] → ∀ ls : Array Slot, lv_has ls maxL (lv_args 0 As) → W p l e rm s m args below meth c s.heap [] 0 0 Q (F0 m 0 ls [])) :
    Met l y (.code y cc maxL ret :: bw) rm (va_Pc As (PreM G tys ws sz)) Qc 0 0 (va_A ws sz) := by
  refine Met.ofW (cc := cc) (maxL := maxL) (ret := ret) hy rfl ?_
  intro p e s m args below meth c s₁ B hml hv
  obtain ⟨rfl, hsz, hP, hK, hN, hD0⟩ := hv
  have hts := atoms_spec (ws := .code y cc maxL ret :: bw) B.pre
  have hfc : s.vm.findClass own = some m.cls := by rw [← hown]; exact findClass_of_methodNamed B.named
  have hl := lv_entry As hlen
  subst hsz
  rw [lg_entry_eq]
  exact body p e s m _ below meth c _ _ rfl rfl ⟨B.exec, B.bytes, hml, hfc, fun w hw => hts w (List.mem_cons_of_mem _ hw)⟩ B.returns B.notSynchronized hP hK hN (hD0.self (sz := s.heap.size)) (fun q h => Or.inr h) va_S.rf _ hl
