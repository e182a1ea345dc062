def stb (f : Nat → Int32) (h : Int64) : Nat → Int64
  | 0 => h
  | i + 1 => ((257 : Int64) * stb f h i) + (f i).toInt64
def str1 (A : AS) (x : Nat) (h : Int64) : Int64 := stb (rby A (x / 100) (x % 100)) (((1009 : Int64) * (((1009 : Int64) * h) + (nI x).toInt64)) + (nI (rln A (x / 100) (x % 100))).toInt64) (rln A (x / 100) (x % 100))
def sta (A : AS) (b : Int32) : Nat → Int64
  | 0 => 47
  | x + 1 => if nI x = b then sta A b x else if isr A (x / 100) (x % 100) then str1 A x (sta A b x) else sta A b x
def st (A : AS) (b : Int32) : Int64 := sta A b 800
theorem stb_cong {f g : Nat → Int32} {h : Int64} : ∀ n, (∀ i, i < n → f i = g i) → stb f h n = stb g h n
  | 0, _ => rfl
  | n + 1, e => by
    show ((257 : Int64) * stb f h n) + (f n).toInt64 = ((257 : Int64) * stb g h n) + (g n).toInt64
    rw [stb_cong n (fun i hi => e i (by omega)), e n (by omega)]
section ST
variable {A A' : AS} {u : TH}
theorem c_stin (hA : WA A) (hI : RI A) (hC : CA u.1.1 A) {p s : Nat} (h : isr A p s) (b : Int32) (h0 : Int64) : itr (fun a : Int32 × Int64 × Int32 × Int32 => fL_stored_s59 u a.1 a.2.1 a.2.2.1 a.2.2.2) FU (b, h0, nI (100 * p + s), (0 : Int32)) = some (b, stb (rby A p s) h0 (rln A p s), nI (100 * p + s)) := by
  have hl := rln_le hA hI h
  refine itr0 (fun i => (b, stb (rby A p s) h0 i, nI (100 * p + s), nI i)) (b, stb (rby A p s) h0 (rln A p s), nI (100 * p + s)) (rln A p s) rfl ?_ ?_ (by omega)
  · intro i hi
    show fL_stored_s59 u b (stb (rby A p s) h0 i) (nI (100 * p + s)) (nI i) = some (.inl (b, ((257 : Int64) * stb (rby A p s) h0 i) + (rby A p s i).toInt64, nI (100 * p + s), nI (i + 1)))
    unfold fL_stored_s59
    rw [c_length hA hI hC h, Option.bind_some, if_neg (by rw [e_le (by omega) (by omega)]; omega), c_byteOf hA hI hC h hi, Option.bind_some]
    simp only [lit, nI_add]
  · show fL_stored_s59 u _ _ _ _ = _
    unfold fL_stored_s59
    rw [c_length hA hI hC h, Option.bind_some, if_pos (by rw [e_le (by omega) (by omega)]; exact Nat.le_refl _)]
theorem sta_end (hA : WA A) (b : Int32) : ∀ m, sta A b (100 * A.1 + m) = sta A b (100 * A.1)
  | 0 => rfl
  | m + 1 => by
    have h : ¬ isr A ((100 * A.1 + m) / 100) ((100 * A.1 + m) % 100) := fun w => by have := (isr_has w).1; omega
    show (if nI (100 * A.1 + m) = b then sta A b (100 * A.1 + m) else if isr A ((100 * A.1 + m) / 100) ((100 * A.1 + m) % 100) then str1 A (100 * A.1 + m) (sta A b (100 * A.1 + m)) else sta A b (100 * A.1 + m)) = _
    rw [if_neg h, ite_self]
    exact sta_end hA b m
theorem c_stored (hA : WA A) (hI : RI A) (hC : CA u.1.1 A) (b : Int32) : fL_stored u b = some (st A b) := by
  have hn := hA.1
  have e800 : st A b = sta A b (100 * A.1) := by
    have := sta_end hA b (800 - 100 * A.1)
    rw [show 100 * A.1 + (800 - 100 * A.1) = 800 by omega] at this
    exact this
  rw [e800]
  unfold fL_stored
  refine itrB (fun x => (b, sta A b x, nI x)) (sta A b (100 * A.1)) (100 * A.1) rfl ?_ ?_ (by omega) rfl
  · intro x hx
    show fL_stored_s7 u b (sta A b x) (nI x) = some (.inl (b, (if nI x = b then sta A b x else if isr A (x / 100) (x % 100) then str1 A x (sta A b x) else sta A b x), nI (x + 1)))
    have ej : ∀ h : Int64, fL_stored_j92 u b h (nI x) = some (.inl (b, h, nI (x + 1))) := by
      intro h
      unfold fL_stored_j92
      simp only [lit, nI_add]
    unfold fL_stored_s7
    rw [c_pages hC, Option.bind_some, show (100 : Int32) * nI A.1 = nI (100 * A.1) from pk_mul 100 A.1, if_neg (by rw [e_le (by omega) (by omega)]; omega)]
    by_cases c : nI x = b
    · rw [if_pos c, if_pos c, ej]
    · rw [if_neg c, if_neg c, c_isr hA hC (by omega), Option.bind_some]
      by_cases d : isr A (x / 100) (x % 100)
      · have ex : 100 * (x / 100) + x % 100 = x := by omega
        have e1 := c_length hA hI hC d
        have e2 := c_stin hA hI hC d b (((1009 : Int64) * (((1009 : Int64) * sta A b x) + (nI x).toInt64)) + (nI (rln A (x / 100) (x % 100))).toInt64)
        rw [ex] at e1 e2
        rw [if_pos d, if_neg (show ¬ (1 : Int32) = 0 by decide), e1, Option.bind_some, e2, Option.bind_some, ej, if_pos d]
        rfl
      · rw [if_neg d, if_pos rfl, ej, if_neg d]
  · show fL_stored_s7 u _ _ _ = _
    unfold fL_stored_s7
    rw [c_pages hC, Option.bind_some, show (100 : Int32) * nI A.1 = nI (100 * A.1) from pk_mul 100 A.1, if_pos (by rw [e_le (by omega) (by omega)]; exact Nat.le_refl _)]
theorem str1_eq {x : Nat} {h : Int64} (hr : isr A (x / 100) (x % 100)) (hc : RC A A' (x / 100) (x % 100)) : str1 A x h = str1 A' x h := by
  obtain ⟨e1, e2⟩ := hc.2 hr
  unfold str1
  rw [e1]
  exact stb_cong _ (fun i hi => (e2 i hi).symm)
theorem sta_eq {b b' : Int32} : ∀ n, (∀ x, x < n → ((nI x = b ∨ ¬ isr A (x / 100) (x % 100)) ∧ (nI x = b' ∨ ¬ isr A' (x / 100) (x % 100))) ∨ (nI x ≠ b ∧ nI x ≠ b' ∧ RC A A' (x / 100) (x % 100))) → sta A b n = sta A' b' n
  | 0, _ => rfl
  | x + 1, h => by
    have ih := sta_eq x (fun y hy => h y (by omega))
    show (if nI x = b then sta A b x else if isr A (x / 100) (x % 100) then str1 A x (sta A b x) else sta A b x) = (if nI x = b' then sta A' b' x else if isr A' (x / 100) (x % 100) then str1 A' x (sta A' b' x) else sta A' b' x)
    rcases h x (by omega) with ⟨h1, h2⟩ | ⟨h1, h2, h3⟩
    · have e1 : (if nI x = b then sta A b x else if isr A (x / 100) (x % 100) then str1 A x (sta A b x) else sta A b x) = sta A b x := by
        rcases h1 with q | q
        · rw [if_pos q]
        · rw [if_neg q, ite_self]
      have e2 : (if nI x = b' then sta A' b' x else if isr A' (x / 100) (x % 100) then str1 A' x (sta A' b' x) else sta A' b' x) = sta A' b' x := by
        rcases h2 with q | q
        · rw [if_pos q]
        · rw [if_neg q, ite_self]
      rw [e1, e2, ih]
    · rw [if_neg h1, if_neg h2]
      by_cases d : isr A (x / 100) (x % 100)
      · rw [if_pos d, if_pos (h3.1.mpr d), ih]
        exact str1_eq d h3
      · rw [if_neg d, if_neg (fun w => d (h3.1.mp w)), ih]
theorem st_all (h : ∀ a b, RC A A' a b) : st A M1 = st A' M1 :=
  sta_eq 800 (fun x hx => Or.inr ⟨nz (by omega), nz (by omega), h _ _⟩)
theorem st_but {p s : Nat} (hp : p < 8) (hs1 : s < 100) (h : ∀ a b, ¬ (a = p ∧ b = s) → RC A A' a b) {b b' : Int32} (hb : b = M1 ∧ ¬ isr A p s ∨ b = nI (100 * p + s)) (hb' : b' = M1 ∧ ¬ isr A' p s ∨ b' = nI (100 * p + s)) : st A b = st A' b' := by
  refine sta_eq 800 (fun x hx => ?_)
  by_cases c : x = 100 * p + s
  · refine Or.inl ⟨?_, ?_⟩
    · rw [c, (d100 hs1).1, (d100 hs1).2]
      rcases hb with ⟨-, q⟩ | q
      · exact Or.inr q
      · exact Or.inl q.symm
    · rw [c, (d100 hs1).1, (d100 hs1).2]
      rcases hb' with ⟨-, q⟩ | q
      · exact Or.inr q
      · exact Or.inl q.symm
  · have hx2 : nI x ≠ nI (100 * p + s) := by
      intro w
      rw [nI_eq (by omega) (by omega)] at w
      exact c w
    refine Or.inr ⟨?_, ?_, h _ _ (fun w => c (by omega))⟩
    · rcases hb with ⟨q, -⟩ | q
      · rw [q]; exact nz (by omega)
      · rw [q]; exact hx2
    · rcases hb' with ⟨q, -⟩ | q
      · rw [q]; exact nz (by omega)
      · rw [q]; exact hx2
end ST
