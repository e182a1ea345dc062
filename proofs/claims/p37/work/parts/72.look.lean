theorem itrX_for {α β : Type} {step : α → Option (α ⊕ β)} (P : Nat → α → Prop) (R : β → Prop) : ∀ (N i n : Nat) (a : α), P i a → (∀ j x, i ≤ j → j < i + N → P j x → (∃ y, step x = some (.inl y) ∧ P (j + 1) y) ∨ ∃ d, step x = some (.inr d) ∧ R d) → (∀ x, P (i + N) x → ∃ d, step x = some (.inr d) ∧ R d) → N < n → ∃ d, itr step n a = some d ∧ R d := by
  intro N
  induction N with
  | zero =>
    intro i n a h0 hs he hn
    obtain ⟨m, rfl⟩ : ∃ m, n = m + 1 := ⟨n - 1, by omega⟩
    obtain ⟨d, h1, h2⟩ := he a h0
    refine ⟨d, ?_, h2⟩
    show (step a).bind _ = _
    rw [h1]
    rfl
  | succ N ih =>
    intro i n a h0 hs he hn
    obtain ⟨m, rfl⟩ : ∃ m, n = m + 1 := ⟨n - 1, by omega⟩
    rcases hs i a (Nat.le_refl i) (by omega) h0 with ⟨y, h1, h2⟩ | ⟨d, h1, h2⟩
    · obtain ⟨d, h3, h4⟩ := ih (i + 1) m y h2 (fun j x q1 q2 => hs j x (by omega) (by omega)) (by rw [show i + 1 + N = i + (N + 1) by omega]; exact he) (by omega)
      refine ⟨d, ?_, h4⟩
      show (step a).bind _ = _
      rw [h1]
      exact h3
    · refine ⟨d, ?_, h2⟩
      show (step a).bind _ = _
      rw [h1]
      rfl
theorem itrX {α β : Type} {step : α → Option (α ⊕ β)} {a : α} (P : Nat → α → Prop) (R : β → Prop) (N : Nat) (h0 : P 0 a) (hs : ∀ j x, j < N → P j x → (∃ y, step x = some (.inl y) ∧ P (j + 1) y) ∨ ∃ d, step x = some (.inr d) ∧ R d) (he : ∀ x, P N x → ∃ d, step x = some (.inr d) ∧ R d) (hn : N < 5000) : ∃ d, itr step FU a = some d ∧ R d :=
  itrX_for P R N 0 FU a h0 (fun j x _ h => hs j x (by omega)) (by rw [Nat.zero_add]; exact he) (by unfold FU; omega)
def ct (P : Nat → Bool) : Nat → Nat
  | 0 => 0
  | n + 1 => ct P n + (if P n then 1 else 0)
theorem ct_le (P : Nat → Bool) : ∀ n, ct P n ≤ n
  | 0 => Nat.le_refl 0
  | n + 1 => by
    have := ct_le P n
    unfold ct
    split <;> omega
theorem ct_end (P : Nat → Bool) {a : Nat} : ∀ m, (∀ x, a ≤ x → x < a + m → P x = false) → ct P (a + m) = ct P a
  | 0, _ => rfl
  | m + 1, h => by
    show ct P (a + m) + (if P (a + m) then 1 else 0) = _
    rw [h (a + m) (by omega) (by omega), ct_end P m (fun x h1 h2 => h x h1 (by omega))]
    rfl
theorem ct_or {P Q S : Nat → Bool} (h : ∀ x, (if S x then 1 else 0) = (if P x then 1 else 0) + (if Q x then 1 else 0)) : ∀ n, ct S n = ct P n + ct Q n
  | 0 => rfl
  | n + 1 => by
    have ih := ct_or h n
    have := h n
    show ct S n + (if S n then 1 else 0) = (ct P n + (if P n then 1 else 0)) + (ct Q n + (if Q n then 1 else 0))
    omega
def kb (A : AS) (k : Nat) : Nat → Bool := fun x => decide (kn A (x / 100) (x % 100) = k)
theorem kb_e (A : AS) (k : Nat) {p s : Nat} (h : s < 100) : kb A k (100 * p + s) = decide (kn A p s = k) := by
  unfold kb
  rw [(d100 h).1, (d100 h).2]
theorem kn_out {A : AS} {p s : Nat} (h : (A.2.1 p).1 ≤ s) : kn A p s = 0 := if_neg (fun w => by have := w.2.1; omega)
section LK
variable {A : AS}
theorem c_countKind {u : TH} (hA : WA A) (hC : CA u.1.1 A) {k : Nat} (h1 : 1 ≤ k) (h3 : k ≤ 3) : fX4_countKind u (nI k) = some (nI (ct (kb A k) (100 * A.1))) := by
  have hn := hA.1
  unfold fX4_countKind
  refine itrB (fun p => (nI k, nI (ct (kb A k) (100 * p)), nI p)) (nI (ct (kb A k) (100 * A.1))) A.1 rfl ?_ ?_ (by omega) rfl
  · intro p hp
    have hk31 : (A.2.1 p).1 ≤ 31 := (hA.2.1 p (by omega)).1
    show fX4_countKind_s4 u _ _ _ = some (.inl (nI k, nI (ct (kb A k) (100 * (p + 1))), nI (p + 1)))
    unfold fX4_countKind_s4
    rw [c_pc hC, if_neg (by rw [e_le (by omega) (by omega)]; omega), c_count (by omega) (hC.2.1 p hp), Option.bind_some]
    have he := ct_end (kb A k) (a := 100 * p + (A.2.1 p).1) (100 - (A.2.1 p).1) (fun x hx1 hx2 => by
      obtain ⟨s, rfl⟩ : ∃ s, x = 100 * p + s := ⟨x - 100 * p, by omega⟩
      rw [kb_e A k (by omega), kn_out (by omega)]
      exact decide_eq_false (by omega))
    rw [show 100 * p + (A.2.1 p).1 + (100 - (A.2.1 p).1) = 100 * (p + 1) by omega] at he
    rw [itr0 (step := fun a : Int32 × Int32 × Int32 × Int32 × Int32 => fX4_countKind_s28 u a.1 a.2.1 a.2.2.1 a.2.2.2.1 a.2.2.2.2) (fun s => (nI k, nI (ct (kb A k) (100 * p + s)), nI p, nI (A.2.1 p).1, nI s)) (nI k, nI (ct (kb A k) (100 * p + (A.2.1 p).1)), nI p) (A.2.1 p).1 ?a0 ?a1 ?a2 (by omega), Option.bind_some, he]
    · simp only [lit, nI_add]
    case a0 => rfl
    case a1 =>
      intro s hs1
      have hkl := kn_le A p s
      show fX4_countKind_s28 u _ _ _ _ _ = some (.inl (nI k, nI (ct (kb A k) (100 * p + s) + (if kb A k (100 * p + s) then 1 else 0)), nI p, nI (A.2.1 p).1, nI (s + 1)))
      unfold fX4_countKind_s28 fX4_countKind_j52
      rw [if_neg (by rw [e_le (by omega) (by omega)]; omega), c_place, Option.bind_some, c_kind2 hA hC (by omega) (by omega), Option.bind_some, kb_e A k (by omega)]
      simp (disch := omega) only [lit, nI_add, e_eq]
      by_cases c : kn A p s = k
      · rw [if_pos c, decide_eq_true c]; rfl
      · rw [if_neg c, decide_eq_false c]; rfl
    case a2 =>
      show fX4_countKind_s28 u _ _ _ _ _ = _
      unfold fX4_countKind_s28
      simp (disch := omega) only [e_le, Nat.le_refl, if_true]
  · show fX4_countKind_s4 u _ _ _ = _
    unfold fX4_countKind_s4
    rw [c_pc hC]
    simp (disch := omega) only [e_le, Nat.le_refl, if_true]
theorem c_notes {u : TH} (hA : WA A) (hC : CA u.1.1 A) : fX4_notes u = some (nI (ct (kb A 2) (100 * A.1))) := by
  unfold fX4_notes
  rw [show (2 : Int32) = nI 2 from rfl, c_countKind hA hC (by omega) (by omega), Option.bind_some]
theorem c_rows {u : TH} (hA : WA A) (hC : CA u.1.1 A) : fX4_rows u = some (nI (ct (fun x => kb A 1 x || kb A 2 x) (100 * A.1))) := by
  unfold fX4_rows
  rw [show (2 : Int32) = nI 2 from rfl, show (1 : Int32) = nI 1 from rfl, c_countKind hA hC (by omega) (by omega), Option.bind_some, c_countKind hA hC (by omega) (by omega), Option.bind_some, nI_add]
  rw [ct_or (P := kb A 1) (Q := kb A 2) (S := fun x => kb A 1 x || kb A 2 x)]
  intro x
  unfold kb
  by_cases c : kn A (x / 100) (x % 100) = 1
  · rw [decide_eq_true c, decide_eq_false (show ¬ kn A (x / 100) (x % 100) = 2 by omega)]; rfl
  · rw [decide_eq_false c]
    by_cases d : kn A (x / 100) (x % 100) = 2
    · rw [decide_eq_true d]; rfl
    · rw [decide_eq_false d]; rfl
def rw1 (A : AS) (p s : Nat) : Int32 := if kn A p s = 1 then nI (100 * p + s) else if kn A p s = 3 then nI 100 * db A p s 1 + db A p s 2 else M1
theorem rw1_no (hA : WA A) (hI : RI A) {p s : Nat} (hs1 : s < 100) (hp : p < 8) : (rw1 A p s = M1) = ¬ (kn A p s = 1 ∨ kn A p s = 3) := by
  apply propext
  unfold rw1
  by_cases c : kn A p s = 1
  · rw [if_pos c, nI_neM1 (by omega)]
    exact ⟨fun w => w.elim, fun w => w (Or.inl c)⟩
  · rw [if_neg c]
    by_cases d : kn A p s = 3
    · have hh : has A p s := kn_has (by omega)
      have h3 : db A p s 0 = nI 3 := by
        unfold kn at d
        rw [if_pos hh] at d
        by_cases e : db A p s 0 = nI 2
        · rw [if_pos e] at d; omega
        · rw [if_neg e] at d
          by_cases f : db A p s 0 = nI 3
          · exact f
          · rw [if_neg f] at d; omega
      obtain ⟨-, q, t, h1, h2, h4, h5⟩ := (hI p s hh).2.2.2.1 h3
      rw [if_pos d, h4, h5, pk_mul, nI_add, nI_neM1 (by omega)]
      exact ⟨fun w => w.elim, fun w => w (Or.inr d)⟩
    · rw [if_neg d]
      exact ⟨fun _ w => by rcases w with w | w; exact c w; exact d w, fun _ => rfl⟩
theorem c_rowAt {u : TH} (hA : WA A) (hC : CA u.1.1 A) {p s : Nat} (hp : p < 8) (hs1 : s < 100) : fX4_rowAt u (nI (100 * p + s)) = some (rw1 A p s) := by
  have hk := kn_le A p s
  unfold fX4_rowAt rw1
  rw [c_kind2 hA hC hp hs1, Option.bind_some]
  simp only [m1e]
  simp (disch := omega) only [lit, e_eq]
  by_cases c : kn A p s = 1
  · rw [if_pos c, if_pos c]
  · rw [if_neg c, if_neg c]
    by_cases d : kn A p s = 3
    · rw [if_pos d, if_pos d, c_target hA hC (kn_has (by omega))]; rfl
    · rw [if_neg d, if_neg d]
def nx (A : AS) (a : Int32) : Nat → Bool := fun x => decide (¬ nI x ≤ a ∧ (kn A (x / 100) (x % 100) = 1 ∨ kn A (x / 100) (x % 100) = 3))
theorem nx_e (A : AS) (a : Int32) {p s : Nat} (h : s < 100) : nx A a (100 * p + s) = decide (¬ nI (100 * p + s) ≤ a ∧ (kn A p s = 1 ∨ kn A p s = 3)) := by
  unfold nx
  rw [(d100 h).1, (d100 h).2]
def nxf (A : AS) (a : Int32) : Nat := fst (nx A a) (100 * A.1)
def nxR (A : AS) (a : Int32) : Int32 := if nxf A a < 100 * A.1 then nI (nxf A a) else M1
theorem c_nstep {u : TH} (hA : WA A) (hI : RI A) (hC : CA u.1.1 A) {a : Int32} {p s k : Nat} (hp : p < 8) (hk : k ≤ 31) (hs1 : s < k) : fX4_next_s25 u a (nI p) (nI k) (nI s) = if nx A a (100 * p + s) then some (.inr (0, ((0 : Int32), (0 : Int32), nI (100 * p + s)))) else some (.inl (a, nI p, nI k, nI (s + 1))) := by
  unfold fX4_next_s25 fX4_next_j58
  rw [if_neg (by rw [e_le (by omega) (by omega)]; omega), c_place, Option.bind_some, c_rowAt hA hC hp (by omega), nx_e A a (by omega)]
  simp only [m1e, Option.bind_some, rw1_no hA hI (show s < 100 by omega) hp]
  by_cases c : nI (100 * p + s) ≤ a
  · rw [if_pos c, decide_eq_false (fun w => w.1 c)]
    simp only [lit, nI_add]; rfl
  · rw [if_neg c]
    by_cases d : kn A p s = 1 ∨ kn A p s = 3
    · rw [if_neg (fun w => w d), decide_eq_true ⟨c, d⟩, if_pos rfl]
    · rw [if_pos d, decide_eq_false (fun w => d w.2)]
      simp only [lit, nI_add]; rfl
theorem c_next {u : TH} (hA : WA A) (hI : RI A) (hC : CA u.1.1 A) (a : Int32) : fX4_next u a = some (nxR A a) := by
  have hn := hA.1
  obtain ⟨f, hf⟩ : ∃ f, f = nxf A a := ⟨_, rfl⟩
  have hle : f ≤ 100 * A.1 := by rw [hf]; exact fst_le _ _
  have hno : ∀ x, x < f → nx A a x = false := fun x hx => fst_no (nx A a) (100 * A.1) x (by rw [← show f = fst (nx A a) (100 * A.1) from hf]; exact hx)
  have hyes : f < 100 * A.1 → nx A a f = true := fun h => by
    rw [hf]
    exact fst_yes (nx A a) (100 * A.1) (by rw [← show f = fst (nx A a) (100 * A.1) from hf]; exact h)
  unfold fX4_next
  have hpg : ∀ p, p < f / 100 → fX4_next_s2 u a (nI p) = some (.inl (a, nI (p + 1))) := by
    intro p hp
    have hk31 : (A.2.1 p).1 ≤ 31 := (hA.2.1 p (by omega)).1
    unfold fX4_next_s2
    rw [c_pc hC, if_neg (by rw [e_le (by omega) (by omega)]; omega), c_count (by omega) (hC.2.1 p (by omega)), Option.bind_some]
    rw [itr0 (step := fun b : Int32 × Int32 × Int32 × Int32 => fX4_next_s25 u b.1 b.2.1 b.2.2.1 b.2.2.2) (fun s => (a, nI p, nI (A.2.1 p).1, nI s)) (1, (a, nI p, (0 : Int32))) (A.2.1 p).1 ?a0 ?a1 ?a2 (by omega), Option.bind_some, if_neg (show ¬ (1 : Nat) = 0 by decide)]
    · simp only [lit, nI_add]
    case a0 => rfl
    case a1 =>
      intro s hs1
      show fX4_next_s25 u a (nI p) (nI (A.2.1 p).1) (nI s) = _
      rw [c_nstep hA hI hC (by omega) hk31 hs1, hno _ (by omega)]; rfl
    case a2 =>
      show fX4_next_s25 u _ _ _ _ = _
      unfold fX4_next_s25
      simp (disch := omega) only [e_le, Nat.le_refl, if_true]
  by_cases c : f < 100 * A.1
  · have hk31 : (A.2.1 (f / 100)).1 ≤ 31 := (hA.2.1 (f / 100) (by omega)).1
    have hy := hyes c
    have hkn : f % 100 < (A.2.1 (f / 100)).1 := by
      refine Nat.lt_of_not_le fun w => ?_
      have := kn_out (A := A) (p := f / 100) (s := f % 100) w
      unfold nx at hy
      rw [this] at hy
      have := of_decide_eq_true hy
      omega
    refine itrB (fun p => (a, nI p)) (0, nI f) (f / 100) rfl (fun p hp => hpg p hp) ?_ (by omega) ?_
    · show fX4_next_s2 u a (nI (f / 100)) = _
      unfold fX4_next_s2
      rw [c_pc hC, if_neg (by rw [e_le (by omega) (by omega)]; omega), c_count (by omega) (hC.2.1 (f / 100) (by omega)), Option.bind_some]
      rw [itr0 (step := fun b : Int32 × Int32 × Int32 × Int32 => fX4_next_s25 u b.1 b.2.1 b.2.2.1 b.2.2.2) (fun s => (a, nI (f / 100), nI (A.2.1 (f / 100)).1, nI s)) (0, ((0 : Int32), (0 : Int32), nI f)) (f % 100) ?b0 ?b1 ?b2 (by omega), Option.bind_some, if_pos rfl]
      case b0 => rfl
      case b1 =>
        intro s hs1
        show fX4_next_s25 u a (nI (f / 100)) (nI (A.2.1 (f / 100)).1) (nI s) = _
        rw [c_nstep hA hI hC (by omega) hk31 (by omega), hno _ (by omega)]; rfl
      case b2 =>
        show fX4_next_s25 u a (nI (f / 100)) (nI (A.2.1 (f / 100)).1) (nI (f % 100)) = _
        rw [c_nstep hA hI hC (by omega) hk31 hkn, show 100 * (f / 100) + f % 100 = f by omega, hy]; rfl
    · unfold nxR
      rw [← hf, if_pos c, if_pos rfl]
  · have e : f / 100 = A.1 := by omega
    refine itrB (fun p => (a, nI p)) (1, (0 : Int32)) (f / 100) rfl (fun p hp => hpg p hp) ?_ (by omega) ?_
    · show fX4_next_s2 u a (nI (f / 100)) = _
      unfold fX4_next_s2
      rw [c_pc hC, e]
      simp (disch := omega) only [e_le, Nat.le_refl, if_true]
    · unfold nxR
      rw [← hf, if_neg c, if_neg (by decide)]; rfl
end LK

