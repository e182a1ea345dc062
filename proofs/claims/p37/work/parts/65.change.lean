section CH
variable {A : AS} {p s q l : Nat}
theorem c_setRB {u : TS} {B : AS} {i : Nat} {v : Int32} (hB : WA B) (hC : CA u B) (h : has B p s) (hi : i < ln B p s) : fX3_setRecordByte u (nI p) (nI s) (nI i) v = some (u.1, upd u.2 (128 * p + ((B.2.1 p).2.1 s + i)) v) := by
  have hb := has_b hB h
  unfold fX3_setRecordByte
  rw [c_off hb.1 (hC.2.1 p h.1) (hB.2.1 p hb.1).1 h.2.1, Option.bind_some, nI_add, c_setByte (by omega), Option.bind_some]
theorem CA_note {u : TS} {B : AS} {q t : Nat} {c : Nat → Int32} (hB : WA B) (hC : CA u B) (h : has B p s) (h0 : db B p s 0 = nI 2) : CA (u.1, upd (upd u.2 (128 * p + ((B.2.1 p).2.1 s + 1)) (nI q)) (128 * p + ((B.2.1 p).2.1 s + 2)) (nI t)) (wbA B p s (bt (nI 2) q t c) 3) := by
  have hb := has_b hB h
  have hC' := hC.2.1 p h.1
  have h31 := (hB.2.1 p hb.1).1
  refine CA_sp hB hC h.1 ⟨?_, ?_, ?_, ?_⟩ (fun j hj => by rw [updN (by omega), updN (by omega)])
  · rw [updN (by omega), updN (by omega)]; exact hC'.1
  · rw [updN (by omega), updN (by omega), hC'.2.1, lw_cong (g := wb (B.2.1 p) s (bt (nI 2) q t c) 3) (h := B.2.1 p) _ (fun _ _ => ⟨rfl, rfl⟩)]; rfl
  · intro r hr
    change r < (B.2.1 p).1 at hr
    rw [updN (by omega), updN (by omega), updN (by omega), updN (by omega)]
    exact hC'.2.2.1 r hr
  · intro k k1 k2
    change 2 + 2 * (B.2.1 p).1 ≤ k at k1
    show _ = cpy (B.2.1 p).2.2.2 ((B.2.1 p).2.1 s) 3 (bt (nI 2) q t c) k
    have hk := hC'.2.2.2 k k1 k2
    by_cases x : (B.2.1 p).2.1 s ≤ k ∧ k < (B.2.1 p).2.1 s + 3
    · rw [cpy_in x]
      by_cases x2 : k = (B.2.1 p).2.1 s + 2
      · rw [x2, updS, show (B.2.1 p).2.1 s + 2 - (B.2.1 p).2.1 s = 2 by omega]; rfl
      · rw [updN (by omega)]
        by_cases x1 : k = (B.2.1 p).2.1 s + 1
        · rw [x1, updS, show (B.2.1 p).2.1 s + 1 - (B.2.1 p).2.1 s = 1 by omega]; rfl
        · have x0 : k = (B.2.1 p).2.1 s + 0 := by omega
          rw [updN (by omega), hk, x0]
          show db B p s 0 = _
          rw [h0, show (B.2.1 p).2.1 s + 0 - (B.2.1 p).2.1 s = 0 by omega]; rfl
    · rw [cpy_out x, updN (by omega), updN (by omega), hk]
end CH

