def bh (l : Nat) (c : Nat → Int32) : Nat → Int32 := fun i => if i = 0 then (if l = 0 then nI 4 else if l = 1 then nI 5 else nI 1) else if i < l + 1 then c (i - 1) else 0
def bt (k : Int32) (q t : Nat) (c : Nat → Int32) : Nat → Int32 := fun i => if i = 0 then k else if i = 1 then nI q else if i = 2 then nI t else c (i - 3)
def wbA (A : AS) (p s : Nat) (b : Nat → Int32) (n : Nat) : AS := sp A p (wb (A.2.1 p) s b n)
theorem va_upI {α : Type} (f : Nat → α) (k : Nat) : va_up f k (f k) = f := by
  funext j
  by_cases c : j = k
  · rw [c, va_upS]
  · rw [va_upN c]
theorem va_upU {α : Type} (f : Nat → α) (k : Nat) (x y : α) : va_up (va_up f k x) k y = va_up f k y := by
  funext j
  by_cases c : j = k
  · rw [c, va_upS, va_upS]
  · rw [va_upN c, va_upN c, va_upN c]
theorem wbA_0 (A : AS) (p s : Nat) (b : Nat → Int32) : wbA A p s b 0 = A := by
  unfold wbA sp wb
  rw [cpy_0]
  show (A.1, va_up A.2.1 p (A.2.1 p), A.2.2) = A
  rw [va_upI]
theorem wb_cong {g : PG} {s n : Nat} {b b' : Nat → Int32} (h : ∀ i, i < n → b i = b' i) : wb g s b n = wb g s b' n := by
  have e : cpy g.2.2.2 (g.2.1 s) n b = cpy g.2.2.2 (g.2.1 s) n b' := by
    funext k
    by_cases c : g.2.1 s ≤ k ∧ k < g.2.1 s + n
    · rw [cpy_in c, cpy_in c, h _ (by omega)]
    · rw [cpy_out c, cpy_out c]
  unfold wb
  rw [e]
theorem put_cong {g : PG} {s z : Nat} {b b' : Nat → Int32} (h : ∀ i, i < z → b i = b' i) : put g s z b = put g s z b' := wb_cong h
theorem puts_cong {A : AS} {p s z : Nat} {b b' : Nat → Int32} (h : ∀ i, i < z → b i = b' i) : puts A p s z b = puts A p s z b' := by
  unfold puts
  rw [put_cong h]
theorem puts_eq {A : AS} {p s z n : Nat} {b : Nat → Int32} (hW : WF (A.2.1 p)) (hs : s ≤ (A.2.1 p).1) (h31 : s < 31) (h3 : 3 ≤ z) (hr : sm (wipe (A.2.1 p) s) (A.2.1 p).1 + 2 + 2 * (ext (A.2.1 p) s).1 + z ≤ 128) (hn : n ≤ z) (h0 : ∀ i, n ≤ i → i < z → b i = 0) : wbA (poff A p s z) p s b n = puts A p s z b := by
  obtain ⟨-, -, k1, k2, k3⟩ := put_WF (b := b) hW hs h31 h3 hr
  have hle := lw_le (pg (wipe (A.2.1 p) s) s z) (pg (wipe (A.2.1 p) s) s z).1
  have key : wb (pl (pg (wipe (A.2.1 p) s) s z) s z) s b n = wb (pl (pg (wipe (A.2.1 p) s) s z) s z) s b z := by
    unfold wb
    have e : (pl (pg (wipe (A.2.1 p) s) s z) s z).2.1 s = lw (pg (wipe (A.2.1 p) s) s z) (pg (wipe (A.2.1 p) s) s z).1 - z := va_upS
    rw [e]
    have e2 : cpy (pl (pg (wipe (A.2.1 p) s) s z) s z).2.2.2 (lw (pg (wipe (A.2.1 p) s) s z) (pg (wipe (A.2.1 p) s) s z).1 - z) n b = cpy (pl (pg (wipe (A.2.1 p) s) s z) s z).2.2.2 (lw (pg (wipe (A.2.1 p) s) s z) (pg (wipe (A.2.1 p) s) s z).1 - z) z b := by
      funext k
      by_cases c : lw (pg (wipe (A.2.1 p) s) s z) (pg (wipe (A.2.1 p) s) s z).1 - z ≤ k ∧ k < lw (pg (wipe (A.2.1 p) s) s z) (pg (wipe (A.2.1 p) s) s z).1 - z + n
      · rw [cpy_in c, cpy_in (by omega)]
      · rw [cpy_out c]
        by_cases d : lw (pg (wipe (A.2.1 p) s) s z) (pg (wipe (A.2.1 p) s) s z).1 - z ≤ k ∧ k < lw (pg (wipe (A.2.1 p) s) s z) (pg (wipe (A.2.1 p) s) s z).1 - z + z
        · rw [cpy_in d, h0 _ (by omega) (by omega)]
          refine k2.2.2.2.2.1 k (by omega) (fun t ht q => ?_)
          have := lw_low (pg (wipe (A.2.1 p) s) s z) (pg (wipe (A.2.1 p) s) s z).1 t ht (by omega)
          omega
        · rw [cpy_out d]
    rw [e2]
  unfold wbA poff puts put bk sp
  show (A.1, va_up (va_up A.2.1 p (pl (pg (wipe (A.2.1 p) s) s z) s z)) p (wb (va_up A.2.1 p (pl (pg (wipe (A.2.1 p) s) s z) s z) p) s b n), _) = _
  rw [va_upS, va_upU, key]
section WM
theorem fe_e {A : AS} (hA : WA A) {p z : Nat} (hp : p < 8) (hr : room (A.2.1 p) z = true) : fe (A.2.1 p) < 31 ∧ (A.2.1 p).2.2.1 (fe (A.2.1 p)) = 0 ∧ wipe (A.2.1 p) (fe (A.2.1 p)) = A.2.1 p ∧ sm (wipe (A.2.1 p) (fe (A.2.1 p))) (A.2.1 p).1 + 2 + 2 * (ext (A.2.1 p) (fe (A.2.1 p))).1 + z ≤ 128 := by
  have hW := hA.2.1 p hp
  have hle := fe_le (A.2.1 p)
  have h31 := hW.1
  have hsm := hW.2.2.2.2.2
  unfold room fr at hr
  by_cases c : fe (A.2.1 p) < (A.2.1 p).1
  · have hy : (A.2.1 p).2.2.1 (fe (A.2.1 p)) = 0 := by simpa [ept, fe] using fst_yes (ept (A.2.1 p)) (A.2.1 p).1 c
    have ho : (A.2.1 p).2.1 (fe (A.2.1 p)) = 0 := by rcases hW.2.1 _ c with q | q <;> omega
    rw [if_pos c] at hr
    simp only [decide_eq_true_eq] at hr
    refine ⟨by omega, hy, wipe_id hy ho, ?_⟩
    rw [wipe_id hy ho, ext_id c]; omega
  · rw [if_neg c] at hr
    simp only [decide_eq_true_eq] at hr
    have e : fe (A.2.1 p) = (A.2.1 p).1 := by omega
    have q := hW.2.2.1 (fe (A.2.1 p)) (by omega) (by omega)
    refine ⟨by omega, q.1, wipe_id q.1 q.2, ?_⟩
    rw [wipe_id q.1 q.2, ext_new e]
    show _ + 2 + 2 * ((A.2.1 p).1 + 1) + z ≤ 128
    omega
end WM

