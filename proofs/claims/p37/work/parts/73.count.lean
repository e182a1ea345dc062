theorem ct_flip {P Q : Nat → Bool} {x0 : Nat} (h0 : P x0 = false) (h1 : Q x0 = true) (h : ∀ x, x ≠ x0 → P x = Q x) : ∀ n, ct Q n = ct P n + (if x0 < n then 1 else 0)
  | 0 => rfl
  | n + 1 => by
    have ih := ct_flip h0 h1 h n
    show ct Q n + (if Q n then 1 else 0) = ct P n + (if P n then 1 else 0) + (if x0 < n + 1 then 1 else 0)
    by_cases c : n = x0
    · subst c
      rw [ih, h0, h1, if_neg (Nat.lt_irrefl n), if_pos (Nat.lt_succ_self n)]
      rfl
    · rw [ih, h n c]
      by_cases d : x0 < n
      · rw [if_pos d, if_pos (show x0 < n + 1 by omega)]; omega
      · rw [if_neg d, if_neg (show ¬ x0 < n + 1 by omega)]; omega
theorem ct_cong {P Q : Nat → Bool} : ∀ n, (∀ x, x < n → P x = Q x) → ct P n = ct Q n
  | 0, _ => rfl
  | n + 1, h => by
    show ct P n + (if P n then 1 else 0) = ct Q n + (if Q n then 1 else 0)
    rw [ct_cong n (fun x hx => h x (by omega)), h n (by omega)]
theorem ct_inj : ∀ (n : Nat) (P Q : Nat → Bool) (f : Nat → Nat) (m : Nat), (∀ x, x < n → P x = true → f x < m ∧ Q (f x) = true) → (∀ x y, x < n → y < n → P x = true → P y = true → f x = f y → x = y) → ct P n ≤ ct Q m
  | 0, _, _, _, _, _, _ => Nat.zero_le _
  | n + 1, P, Q, f, m, h1, h2 => by
    show ct P n + (if P n then 1 else 0) ≤ ct Q m
    by_cases c : P n = true
    · obtain ⟨a1, a2⟩ := h1 n (by omega) c
      have fl := ct_flip (P := fun y => Q y && decide (y ≠ f n)) (Q := Q) (x0 := f n) (by simp) a2 (fun x hx => by simp [hx]) m
      rw [if_pos a1] at fl
      have ih := ct_inj n P (fun y => Q y && decide (y ≠ f n)) f m (fun x hx hp => by
        obtain ⟨b1, b2⟩ := h1 x (by omega) hp
        refine ⟨b1, ?_⟩
        have hne : f x ≠ f n := fun w => by have := h2 x n (by omega) (by omega) hp c w; omega
        simp [b2, hne]) (fun x y hx hy => h2 x y (by omega) (by omega))
      rw [c, if_pos rfl, fl]
      omega
    · have c' : P n = false := by simpa using c
      have ih := ct_inj n P Q f m (fun x hx => h1 x (by omega)) (fun x y hx hy => h2 x y (by omega) (by omega))
      rw [c']
      exact ih
def ib (A : AS) : Nat → Bool := fun x => kb A 1 x || kb A 2 x
def eb (A : AS) : Nat → Bool := fun x => kb A 1 x || kb A 3 x
def nrows (A : AS) : Nat := ct (ib A) 800
def nnotes (A : AS) : Nat := ct (kb A 2) 800
theorem kb_t {A : AS} {k x : Nat} : kb A k x = true ↔ kn A (x / 100) (x % 100) = k := by
  unfold kb
  exact decide_eq_true_iff
theorem ib_t {A : AS} {x : Nat} : ib A x = true ↔ isr A (x / 100) (x % 100) := by
  unfold ib
  rw [Bool.or_eq_true, kb_t, kb_t]
theorem eb_t {A : AS} {x : Nat} : eb A x = true ↔ (kn A (x / 100) (x % 100) = 1 ∨ kn A (x / 100) (x % 100) = 3) := by
  unfold eb
  rw [Bool.or_eq_true, kb_t, kb_t]
section CN
variable {A : AS}
theorem ct_all (hA : WA A) {P : Nat → Bool} (hP : ∀ x, kn A (x / 100) (x % 100) = 0 → P x = false) : ct P (100 * A.1) = ct P 800 := by
  have hn := hA.1
  have h := ct_end P (a := 100 * A.1) (800 - 100 * A.1) (fun x h1 h2 => hP x (kn_no (fun w => by have := w.1; omega)))
  rw [show 100 * A.1 + (800 - 100 * A.1) = 800 by omega] at h
  exact h.symm
theorem ct_kb (hA : WA A) {k : Nat} (hk : 1 ≤ k) : ct (kb A k) (100 * A.1) = ct (kb A k) 800 :=
  ct_all hA (fun x h => by unfold kb; rw [h]; exact decide_eq_false (by omega))
theorem ct_ib (hA : WA A) : ct (ib A) (100 * A.1) = nrows A :=
  ct_all hA (fun x h => by unfold ib kb; rw [h]; rfl)
theorem ct_eb (hA : WA A) : ct (eb A) (100 * A.1) = ct (eb A) 800 :=
  ct_all hA (fun x h => by unfold eb kb; rw [h]; rfl)
theorem c_rows2 {u : TH} (hA : WA A) (hC : CA u.1.1 A) : fX4_rows u = some (nI (nrows A)) := by
  rw [c_rows hA hC]
  exact congrArg (fun x => some (nI x)) (ct_ib hA)
theorem c_notes2 {u : TH} (hA : WA A) (hC : CA u.1.1 A) : fX4_notes u = some (nI (nnotes A)) := by
  rw [c_notes hA hC]
  exact congrArg (fun x => some (nI x)) (ct_kb hA (by omega))
theorem nrows_le (A : AS) : nrows A ≤ 800 := ct_le _ _
theorem nnotes_le (A : AS) : nnotes A ≤ 800 := ct_le _ _
theorem mv_home (hA : WA A) (hJ : RJ A) {p s : Nat} (hk : kn A p s = 3) : kn A (tp A p s) (ts A p s) = 2 ∧ tp A (tp A p s) (ts A p s) = p ∧ ts A (tp A p s) (ts A p s) = s ∧ db A p s 1 = nI (tp A p s) ∧ db A p s 2 = nI (ts A p s) := by
  obtain ⟨q, t, x1, x2, x3, x4, x5⟩ := hJ p s hk
  have hb := has_b hA (kn_has (show kn A q t ≠ 0 by omega))
  have e1 : tp A p s = q := by unfold tp; rw [x1, nI_clamp (by omega)]
  have e2 : ts A p s = t := by unfold ts; rw [x2, nI_clamp (by omega)]
  rw [e1, e2]
  exact ⟨x3, x4, x5, x1, x2⟩
theorem ct_32 (hA : WA A) (hI : RI A) (hJ : RJ A) : ct (kb A 3) 800 = nnotes A := by
  unfold nnotes
  refine Nat.le_antisymm ?_ ?_
  · refine ct_inj 800 _ _ (fun x => 100 * tp A (x / 100) (x % 100) + ts A (x / 100) (x % 100)) 800 ?_ ?_
    · intro x hx hp
      have h := mv_home hA hJ (kb_t.mp hp)
      have hb := has_b hA (kn_has (show kn A (tp A (x / 100) (x % 100)) (ts A (x / 100) (x % 100)) ≠ 0 by omega))
      refine ⟨by omega, ?_⟩
      rw [kb_e A 2 (by omega)]
      exact decide_eq_true h.1
    · intro x y hx hy hp hq e
      have h := mv_home hA hJ (kb_t.mp hp)
      have h2 := mv_home hA hJ (kb_t.mp hq)
      have hb := has_b hA (kn_has (show kn A (tp A (x / 100) (x % 100)) (ts A (x / 100) (x % 100)) ≠ 0 by omega))
      have hb2 := has_b hA (kn_has (show kn A (tp A (y / 100) (y % 100)) (ts A (y / 100) (y % 100)) ≠ 0 by omega))
      have e1 : tp A (x / 100) (x % 100) = tp A (y / 100) (y % 100) := by omega
      have e2 : ts A (x / 100) (x % 100) = ts A (y / 100) (y % 100) := by omega
      have x1 := h.2.1
      have x2 := h.2.2.1
      rw [e1, e2, h2.2.1] at x1
      rw [e1, e2, h2.2.2.1] at x2
      omega
  · refine ct_inj 800 _ _ (fun x => 100 * tp A (x / 100) (x % 100) + ts A (x / 100) (x % 100)) 800 ?_ ?_
    · intro x hx hp
      have h := nt' hA hI (kb_t.mp hp)
      have hb := has_b hA h.2.2.1
      refine ⟨by omega, ?_⟩
      rw [kb_e A 3 (by omega)]
      exact decide_eq_true (kn_tgt hA hI (kb_t.mp hp))
    · intro x y hx hy hp hq e
      have h := nt' hA hI (kb_t.mp hp)
      have h2 := nt' hA hI (kb_t.mp hq)
      have hb := has_b hA h.2.2.1
      have hb2 := has_b hA h2.2.2.1
      have := back hA hI (kb_t.mp hp) (kb_t.mp hq) (by omega) (by omega)
      omega
theorem ct_or2 {P Q : Nat → Bool} (h : ∀ x, ¬ (P x = true ∧ Q x = true)) (n : Nat) : ct (fun x => P x || Q x) n = ct P n + ct Q n := by
  refine ct_or (fun x => ?_) n
  have := h x
  cases hp : P x <;> cases hq : Q x <;> simp_all
theorem ct_ib2 (A : AS) : nrows A = ct (kb A 1) 800 + nnotes A :=
  ct_or2 (P := kb A 1) (Q := kb A 2) (fun x w => by have a := kb_t.mp w.1; have b := kb_t.mp w.2; omega) 800
theorem ct_eb2 (hA : WA A) (hI : RI A) (hJ : RJ A) : ct (eb A) (100 * A.1) = nrows A := by
  rw [ct_eb hA, ct_ib2, ← ct_32 hA hI hJ]
  exact ct_or2 (P := kb A 1) (Q := kb A 3) (fun x w => by have a := kb_t.mp w.1; have b := kb_t.mp w.2; omega) 800
theorem ib_eq {A' : AS} {x : Nat} (h : isr A' (x / 100) (x % 100) ↔ isr A (x / 100) (x % 100)) : ib A x = ib A' x := by
  rw [Bool.eq_iff_iff, ib_t, ib_t]
  exact h.symm
theorem nrows_add {A' : AS} {p s : Nat} (hp : p < 8) (hs1 : s < 100) (h : ∀ a b, ¬ (a = p ∧ b = s) → (isr A' a b ↔ isr A a b)) (h0 : ¬ isr A p s) (h1 : isr A' p s) : nrows A' = nrows A + 1 := by
  have e := d100 (p := p) hs1
  have f := ct_flip (P := ib A) (Q := ib A') (x0 := 100 * p + s) (by
    rw [Bool.eq_false_iff, Ne, ib_t, e.1, e.2]; exact h0) (by rw [ib_t, e.1, e.2]; exact h1) (fun x hx => ib_eq (h _ _ (fun w => hx (by omega)))) 800
  rw [if_pos (by omega)] at f
  exact f
theorem nnotes_bst (hA : WA A) (hI : RI A) (hJ : RJ A) (n : Nat) : nnotes (bst A (n / 100) (n % 100)) + bct A (n / 100) (n % 100) = nnotes A := by
  obtain ⟨-, -, v1, v2⟩ := bst_v hA hI hJ (n / 100) (n % 100)
  unfold bct nnotes
  by_cases d : bgo A (n / 100) (n % 100)
  · have hb := has_b hA (kn_has (show kn A (n / 100) (n % 100) ≠ 0 by have := d.1; omega))
    have f := ct_flip (P := kb (bst A (n / 100) (n % 100)) 2) (Q := kb A 2) (x0 := n) (by
      rw [Bool.eq_false_iff, Ne, kb_t, v1 d]; omega) (kb_t.mpr d.1) (fun x hx => by
      rw [Bool.eq_iff_iff, kb_t, kb_t]
      exact v2 _ _ (fun w => hx (by omega))) 800
    rw [if_pos (by omega)] at f
    rw [if_pos d, f]
  · rw [if_neg d]
    unfold bst
    rw [if_neg d]
    exact Nat.add_zero _
theorem nnotes_bal (hA : WA A) (hI : RI A) (hJ : RJ A) : ∀ n, nnotes (bal A n).1 + (bal A n).2 = nnotes A
  | 0 => Nat.add_zero _
  | n + 1 => by
    obtain ⟨h1, h2, h3⟩ := bal_ok hA hI n
    have h := nnotes_bst h1 h2 (bal_v hA hI hJ n).1 n
    have ih := nnotes_bal hA hI hJ n
    show nnotes (bst (bal A n).1 (n / 100) (n % 100)) + ((bal A n).2 + bct (bal A n).1 (n / 100) (n % 100)) = nnotes A
    omega
end CN
