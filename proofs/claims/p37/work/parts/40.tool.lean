def M1 : Int32 := -1
theorem m1d : (-1 : Int32) = M1 := rfl
theorem liN (n : Nat) : (OfNat.ofNat n : Int32) = nI (OfNat.ofNat n) := rfl
theorem nI_m1 {n : Nat} (h : 0 < n) : nI n + M1 = nI (n - 1) := by
  obtain ⟨k, rfl⟩ : ∃ k, n = k + 1 := ⟨n - 1, by omega⟩
  exact pk_m1 k
theorem M1_toInt : M1.toInt = -1 := by decide
theorem nI_neM1 {n : Nat} (h : n < 2 ^ 31) : (nI n = M1) = False := by
  apply eq_false
  intro q
  have := congrArg Int32.toInt q
  rw [nI_toInt h, M1_toInt] at this
  omega
theorem M1_nenI {n : Nat} (h : n < 2 ^ 31) : (M1 = nI n) = False := by
  apply eq_false
  intro q
  have := congrArg Int32.toInt q
  rw [nI_toInt h, M1_toInt] at this
  omega
theorem e_lt {a b : Nat} (ha : a < 2 ^ 31) (hb : b < 2 ^ 31) : (nI a < nI b) = (a < b) := propext (nI_ltI ha hb)
theorem e_le {a b : Nat} (ha : a < 2 ^ 31) (hb : b < 2 ^ 31) : (nI a ≤ nI b) = (a ≤ b) := propext (nI_leI ha hb)
theorem e_eq {a b : Nat} (ha : a < 2 ^ 31) (hb : b < 2 ^ 31) : (nI a = nI b) = (a = b) := propext (nI_eq ha hb)
theorem e_sub {a b : Nat} (h : b ≤ a) : nI a - nI b = nI (a - b) := pk_sub h
theorem e_rem {a d : Nat} (ha : a < 2 ^ 31) (h0 : 0 < d) (hd : d < 2 ^ 31) : nI a - nI (a / d * d) = nI (a % d) := by
  rw [e_sub (Nat.div_mul_le_self a d)]
  congr 1
  have := Nat.div_add_mod a d
  rw [Nat.mul_comm] at this
  omega
theorem rdN {f : Ar} {n k : Nat} (h : k < n) (hn : n < 2 ^ 31) : rd f n (nI k) = some (f k) := by
  unfold rd
  rw [if_neg (nI_in h hn), nI_clamp (by omega)]
theorem wrN {f : Ar} {n k : Nat} {x : Int32} (h : k < n) (hn : n < 2 ^ 31) : wr f n (nI k) x = some (upd f k x) := by
  unfold wr
  rw [if_neg (nI_in h hn), nI_clamp (by omega)]
theorem itr_for {α β : Type} {step : α → Option (α ⊕ β)} (I : Nat → α) (d : β) : ∀ (N i n : Nat), (∀ j, i ≤ j → j < i + N → step (I j) = some (.inl (I (j + 1)))) → step (I (i + N)) = some (.inr d) → N < n → itr step n (I i) = some d := by
  intro N
  induction N with
  | zero =>
    intro i n hs he hn
    obtain ⟨m, rfl⟩ : ∃ m, n = m + 1 := ⟨n - 1, by omega⟩
    show (step (I i)).bind _ = _
    rw [show step (I i) = some (.inr d) from he]
    rfl
  | succ N ih =>
    intro i n hs he hn
    obtain ⟨m, rfl⟩ : ∃ m, n = m + 1 := ⟨n - 1, by omega⟩
    show (step (I i)).bind _ = _
    rw [hs i (Nat.le_refl i) (by omega)]
    exact ih (i + 1) m (fun j h1 h2 => hs j (by omega) (by omega)) (by rw [show i + 1 + N = i + (N + 1) by omega]; exact he) (by omega)
theorem itr0 {α β : Type} {step : α → Option (α ⊕ β)} (I : Nat → α) {a : α} (d : β) (N : Nat) (h0 : I 0 = a) (hs : ∀ j, j < N → step (I j) = some (.inl (I (j + 1)))) (he : step (I N) = some (.inr d)) (hn : N < 5000) : itr step FU a = some d := by
  subst h0
  exact itr_for I d N 0 FU (fun j _ h => hs j (by omega)) (by rw [Nat.zero_add]; exact he) (by unfold FU; omega)
theorem itrB {α β γ : Type} {step : α → Option (α ⊕ β)} {f : β → Option γ} {r : Option γ} (I : Nat → α) {a : α} (d : β) (N : Nat) (h0 : I 0 = a) (hs : ∀ j, j < N → step (I j) = some (.inl (I (j + 1)))) (he : step (I N) = some (.inr d)) (hn : N < 5000) (hf : f d = r) : (itr step FU a).bind f = r := by
  rw [itr0 I d N h0 hs he hn]
  exact hf
theorem updS {f : Ar} {k : Nat} {x : Int32} : upd f k x k = x := if_pos rfl
theorem updN {f : Ar} {k j : Nat} {x : Int32} (h : j ≠ k) : upd f k x j = f j := if_neg h

theorem c_byteAt {u : TS} {p o : Nat} (h : 128 * p + o < 1024) : fX3_byteAt u (nI p) (nI o) = some (u.2 (128 * p + o)) := by
  unfold fX3_byteAt
  simp (disch := omega) only [liN, pk_mul, nI_add, e_lt, e_le, rdN, Option.bind_some, Nat.not_lt_zero, if_false, if_neg (show ¬ 1024 ≤ 128 * p + o by omega)]
theorem c_slotCount {u : TS} {p : Nat} (h : p < 8) : fX3_slotCount u (nI p) = some (u.2 (128 * p)) := by
  unfold fX3_slotCount
  simp (disch := omega) only [liN, pk_mul, nI_add, e_lt, e_le, rdN, Option.bind_some, Nat.not_lt_zero, if_false, Nat.add_zero, if_neg (show ¬ 1024 ≤ 128 * p by omega)]
theorem c_offsetOf {u : TS} {p s : Nat} (h : 128 * p + 2 + 2 * s < 1024) : fX3_offsetOf u (nI p) (nI s) = some (u.2 (128 * p + 2 + 2 * s)) := by
  unfold fX3_offsetOf
  simp (disch := omega) only [liN, pk_mul, nI_add, e_lt, e_le, rdN, Option.bind_some, Nat.not_lt_zero, if_false, if_neg (show ¬ 1024 ≤ 128 * p + 2 + 2 * s by omega)]
theorem c_sizeOf {u : TS} {p s : Nat} (h : 128 * p + 3 + 2 * s < 1024) : fX3_sizeOf u (nI p) (nI s) = some (u.2 (128 * p + 3 + 2 * s)) := by
  unfold fX3_sizeOf
  simp (disch := omega) only [liN, pk_mul, nI_add, e_lt, e_le, rdN, Option.bind_some, Nat.not_lt_zero, if_false, if_neg (show ¬ 1024 ≤ 128 * p + 2 + 2 * s + 1 by omega)]
  rw [show 128 * p + 2 + 2 * s + 1 = 128 * p + 3 + 2 * s by omega]
theorem c_setByte {u : TS} {p o : Nat} {v : Int32} (h : 128 * p + o < 1024) : fX3_setByte u (nI p) (nI o) v = some (u.1, upd u.2 (128 * p + o) v) := by
  unfold fX3_setByte
  simp (disch := omega) only [liN, pk_mul, nI_add, e_lt, e_le, wrN, Option.bind_some, Nat.not_lt_zero, if_false, if_neg (show ¬ 1024 ≤ 128 * p + o by omega)]
