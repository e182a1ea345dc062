theorem itrI_for {α β : Type} {step : α → Option (α ⊕ β)} (P : Nat → α → Prop) (R : β → Prop) : ∀ (N i n : Nat) (a : α), P i a → (∀ j x, i ≤ j → j < i + N → P j x → ∃ y, step x = some (.inl y) ∧ P (j + 1) y) → (∀ x, P (i + N) x → ∃ d, step x = some (.inr d) ∧ R d) → N < n → ∃ d, itr step n a = some d ∧ R d := by
  intro N
  induction N with
  | zero =>
    intro i n a h0 hs he hn
    obtain ⟨m, rfl⟩ : ∃ m, n = m + 1 := ⟨n - 1, by omega⟩
    obtain ⟨d, h1, h2⟩ := he a h0
    refine ⟨d, ?_, h2⟩
    show (step a).bind _ = _
    rw [h1]
    rfl
  | succ N ih =>
    intro i n a h0 hs he hn
    obtain ⟨m, rfl⟩ : ∃ m, n = m + 1 := ⟨n - 1, by omega⟩
    obtain ⟨y, h1, h2⟩ := hs i a (Nat.le_refl i) (by omega) h0
    obtain ⟨d, h3, h4⟩ := ih (i + 1) m y h2 (fun j x q1 q2 => hs j x (by omega) (by omega)) (by rw [show i + 1 + N = i + (N + 1) by omega]; exact he) (by omega)
    refine ⟨d, ?_, h4⟩
    show (step a).bind _ = _
    rw [h1]
    exact h3
theorem itrI {α β : Type} {step : α → Option (α ⊕ β)} {a : α} (P : Nat → α → Prop) (R : β → Prop) (N : Nat) (h0 : P 0 a) (hs : ∀ j x, j < N → P j x → ∃ y, step x = some (.inl y) ∧ P (j + 1) y) (he : ∀ x, P N x → ∃ d, step x = some (.inr d) ∧ R d) (hn : N < 5000) : ∃ d, itr step FU a = some d ∧ R d :=
  itrI_for P R N 0 FU a h0 (fun j x _ h => hs j x (by omega)) (by rw [Nat.zero_add]; exact he) (by unfold FU; omega)
theorem bindI {α β : Type} {o : Option α} {f : α → Option β} {P : α → Prop} {Q : β → Prop} (h : ∃ d, o = some d ∧ P d) (k : ∀ d, P d → ∃ r, f d = some r ∧ Q r) : ∃ r, o.bind f = some r ∧ Q r := by
  obtain ⟨d, h1, h2⟩ := h
  rw [h1]
  exact k d h2
def cpy (f : Ar) (b n : Nat) (h : Nat → Int32) : Ar := fun j => if b ≤ j ∧ j < b + n then h (j - b) else f j
theorem cpy_0 (f : Ar) (b : Nat) (h : Nat → Int32) : cpy f b 0 h = f := by
  funext j
  unfold cpy
  rw [if_neg (by omega)]
theorem cpy_s (f : Ar) (b n : Nat) (h : Nat → Int32) : upd (cpy f b n h) (b + n) (h n) = cpy f b (n + 1) h := by
  funext j
  unfold upd cpy
  by_cases c : j = b + n
  · rw [if_pos c, if_pos (by omega), c, show b + n - b = n by omega]
  · rw [if_neg c]
    by_cases d : b ≤ j ∧ j < b + n
    · rw [if_pos d, if_pos (by omega)]
    · rw [if_neg d, if_neg (by omega)]
theorem cpy_out {f : Ar} {b n j : Nat} {h : Nat → Int32} (q : ¬ (b ≤ j ∧ j < b + n)) : cpy f b n h j = f j := if_neg q
theorem cpy_in {f : Ar} {b n j : Nat} {h : Nat → Int32} (q : b ≤ j ∧ j < b + n) : cpy f b n h j = h (j - b) := if_pos q
theorem at_ok {b : TB} {n m k : Nat} (hb : b.1 = nI m) (hk : k < m) (hm : m ≤ n) (hn : n < 2 ^ 31) : fX0_at n b (nI k) = some (b.2 k) := by
  have e : Int32.ofNat n = nI n := rfl
  unfold fX0_at
  rw [e, hb]
  simp (disch := omega) only [liN, e_lt, e_le, Nat.not_lt_zero, if_false, if_neg (show ¬ m ≤ k by omega), if_neg (show ¬ n ≤ k by omega), rdN, Option.bind_some]
theorem add_ok {b : TB} {n m : Nat} {x : Int32} (hb : b.1 = nI m) (hm : m < n) (hn : n < 2 ^ 31) : fX0_add n b x = some (nI (m + 1), upd b.2 m x) := by
  have e : Int32.ofNat n = nI n := rfl
  unfold fX0_add
  rw [e, hb]
  simp (disch := omega) only [liN, e_lt, e_le, Nat.not_lt_zero, if_false, if_neg (show ¬ n ≤ m by omega), wrN, Option.bind_some, nI_add]
theorem e_gap {z a b : Nat} (hz : z < 2 ^ 30) (ha : a < 2 ^ 30) (hb : b < 2 ^ 30) : (nI z ≤ nI a - nI b) = (z + b ≤ a) := by
  apply propext
  rw [Int32.le_iff_toInt_le, pk_sub_toInt ha hb, nI_toInt (by omega)]
  omega

