theorem itrX_for {α β : Type} {step : α → Option (α ⊕ β)} (P : Nat → α → Prop) (R : β → Prop) : ∀ (N i n : Nat) (a : α), P i a → (∀ j x, i ≤ j → j < i + N → P j x → (∃ y, step x = some (.inl y) ∧ P (j + 1) y) ∨ ∃ d, step x = some (.inr d) ∧ R d) → (∀ x, P (i + N) x → ∃ d, step x = some (.inr d) ∧ R d) → N < n → ∃ d, itr step n a = some d ∧ R d := by
  intro N
  induction N with
  | zero =>
    intro i n a h0 hs he hn
    obtain ⟨m, rfl⟩ : ∃ m, n = m + 1 := ⟨n - 1, by omega⟩
    obtain ⟨d, h1, h2⟩ := he a h0
    refine ⟨d, ?_, h2⟩
    show (step a).bind _ = _
    rw [h1]
    rfl
  | succ N ih =>
    intro i n a h0 hs he hn
    obtain ⟨m, rfl⟩ : ∃ m, n = m + 1 := ⟨n - 1, by omega⟩
    rcases hs i a (Nat.le_refl i) (by omega) h0 with ⟨y, h1, h2⟩ | ⟨d, h1, h2⟩
    · obtain ⟨d, h3, h4⟩ := ih (i + 1) m y h2 (fun j x q1 q2 => hs j x (by omega) (by omega)) (by rw [show i + 1 + N = i + (N + 1) by omega]; exact he) (by omega)
      refine ⟨d, ?_, h4⟩
      show (step a).bind _ = _
      rw [h1]
      exact h3
    · refine ⟨d, ?_, h2⟩
      show (step a).bind _ = _
      rw [h1]
      rfl
theorem itrX {α β : Type} {step : α → Option (α ⊕ β)} {a : α} (P : Nat → α → Prop) (R : β → Prop) (N : Nat) (h0 : P 0 a) (hs : ∀ j x, j < N → P j x → (∃ y, step x = some (.inl y) ∧ P (j + 1) y) ∨ ∃ d, step x = some (.inr d) ∧ R d) (he : ∀ x, P N x → ∃ d, step x = some (.inr d) ∧ R d) (hn : N < 5000) : ∃ d, itr step FU a = some d ∧ R d :=
  itrX_for P R N 0 FU a h0 (fun j x _ h => hs j x (by omega)) (by rw [Nat.zero_add]; exact he) (by unfold FU; omega)
def ct (P : Nat → Bool) : Nat → Nat
  | 0 => 0
  | n + 1 => ct P n + (if P n then 1 else 0)
theorem ct_le (P : Nat → Bool) : ∀ n, ct P n ≤ n
  | 0 => Nat.le_refl 0
  | n + 1 => by
    have := ct_le P n
    unfold ct
    split <;> omega
theorem ct_end (P : Nat → Bool) {a : Nat} : ∀ m, (∀ x, a ≤ x → x < a + m → P x = false) → ct P (a + m) = ct P a
  | 0, _ => rfl
  | m + 1, h => by
    show ct P (a + m) + (if P (a + m) then 1 else 0) = _
    rw [h (a + m) (by omega) (by omega), ct_end P m (fun x h1 h2 => h x h1 (by omega))]
    rfl
theorem ct_or {P Q S : Nat → Bool} (h : ∀ x, (if S x then 1 else 0) = (if P x then 1 else 0) + (if Q x then 1 else 0)) : ∀ n, ct S n = ct P n + ct Q n
  | 0 => rfl
  | n + 1 => by
    have ih := ct_or h n
    have := h n
    show ct S n + (if S n then 1 else 0) = (ct P n + (if P n then 1 else 0)) + (ct Q n + (if Q n then 1 else 0))
    omega
def kb (A : AS) (k : Nat) : Nat → Bool := fun x => decide (kn A (x / 100) (x % 100) = k)
theorem kb_e (A : AS) (k : Nat) {p s : Nat} (h : s < 100) : kb A k (100 * p + s) = decide (kn A p s = k) := by
  unfold kb
  rw [(d100 h).1, (d100 h).2]
theorem kn_out {A : AS} {p s : Nat} (h : (A.2.1 p).1 ≤ s) : kn A p s = 0 := if_neg (fun w => by have := w.2.1; omega)
section LK
variable {A : AS}
theorem c_countKind {u : TH} (hA : WA A) (hC : CA u.1.1 A) {k : Nat} (h1 : 1 ≤ k) (h3 : k ≤ 3) : fX4_countKind u (nI k) = some (nI (ct (kb A k) (100 * A.1))) := by
  have hn := hA.1
  unfold fX4_countKind
  refine itrB (fun p => (nI k, nI (ct (kb A k) (100 * p)), nI p)) (nI (ct (kb A k) (100 * A.1))) A.1 rfl ?_ ?_ (by omega) rfl
  · intro p hp
    have hk31 : (A.2.1 p).1 ≤ 31 := (hA.2.1 p (by omega)).1
    show fX4_countKind_s4 u _ _ _ = some (.inl (nI k, nI (ct (kb A k) (100 * (p + 1))), nI (p + 1)))
    unfold fX4_countKind_s4
    rw [c_pc hC, if_neg (by rw [e_le (by omega) (by omega)]; omega), c_count (by omega) (hC.2.1 p hp), Option.bind_some]
    have he := ct_end (kb A k) (a := 100 * p + (A.2.1 p).1) (100 - (A.2.1 p).1) (fun x hx1 hx2 => by
      obtain ⟨s, rfl⟩ : ∃ s, x = 100 * p + s := ⟨x - 100 * p, by omega⟩
      rw [kb_e A k (by omega), kn_out (by omega)]
      exact decide_eq_false (by omega))
    rw [show 100 * p + (A.2.1 p).1 + (100 - (A.2.1 p).1) = 100 * (p + 1) by omega] at he
    rw [itr0 (step := fun a : Int32 × Int32 × Int32 × Int32 × Int32 => fX4_countKind_s28 u a.1 a.2.1 a.2.2.1 a.2.2.2.1 a.2.2.2.2) (fun s => (nI k, nI (ct (kb A k) (100 * p + s)), nI p, nI (A.2.1 p).1, nI s)) (nI k, nI (ct (kb A k) (100 * p + (A.2.1 p).1)), nI p) (A.2.1 p).1 ?a0 ?a1 ?a2 (by omega), Option.bind_some, he]
    · simp only [lit, nI_add]
    case a0 => rfl
    case a1 =>
      intro s hs1
      have hkl := kn_le A p s
      show fX4_countKind_s28 u _ _ _ _ _ = some (.inl (nI k, nI (ct (kb A k) (100 * p + s) + (if kb A k (100 * p + s) then 1 else 0)), nI p, nI (A.2.1 p).1, nI (s + 1)))
      unfold fX4_countKind_s28 fX4_countKind_j52
      rw [if_neg (by rw [e_le (by omega) (by omega)]; omega), c_place, Option.bind_some, c_kind2 hA hC (by omega) (by omega), Option.bind_some, kb_e A k (by omega)]
      simp (disch := omega) only [lit, nI_add, e_eq]
      by_cases c : kn A p s = k
      · rw [if_pos c, decide_eq_true c]; rfl
      · rw [if_neg c, decide_eq_false c]; rfl
    case a2 =>
      show fX4_countKind_s28 u _ _ _ _ _ = _
      unfold fX4_countKind_s28
      simp (disch := omega) only [e_le, Nat.le_refl, if_true]
  · show fX4_countKind_s4 u _ _ _ = _
    unfold fX4_countKind_s4
    rw [c_pc hC]
    simp (disch := omega) only [e_le, Nat.le_refl, if_true]
theorem m_counted {y : TM} (hA : WA A) (hR : RA y.2.1 A) {k k' : Nat} (h3 : k ≤ 3) (h3' : k' ≤ 3) : fX5_counted y (nI k) (nI k') = some (nI (ct (fun x => kb A k x || kb A k' x) (100 * A.1))) := by
  have hn := hA.1
  unfold fX5_counted
  refine itrB (fun j => (nI k, nI k', nI (ct (fun x => kb A k x || kb A k' x) j), nI j)) (nI (ct (fun x => kb A k x || kb A k' x) (100 * A.1))) (100 * A.1) rfl ?_ ?_ (by omega) rfl
  · intro x hx
    have hkl := kn_le A (x / 100) (x % 100)
    show fX5_counted_s5 y _ _ _ _ = some (.inl (nI k, nI k', nI (ct (fun x => kb A k x || kb A k' x) x + (if (kb A k x || kb A k' x) then 1 else 0)), nI (x + 1)))
    unfold fX5_counted_s5 fX5_counted_j40 fX5_counted_j45
    simp only [lit]
    rw [m_n hR, Option.bind_some, pk_mul, if_neg (by rw [e_le (by omega) (by omega)]; omega), m_kind hA hR (by omega), Option.bind_some]
    simp (disch := omega) only [nI_add, e_eq, Option.bind_some]
    unfold kb
    by_cases c : kn A (x / 100) (x % 100) = k
    · rw [if_pos c, decide_eq_true c]; rfl
    · rw [if_neg c, decide_eq_false c]
      by_cases d : kn A (x / 100) (x % 100) = k'
      · rw [if_pos d, decide_eq_true d]; rfl
      · rw [if_neg d, decide_eq_false d]; rfl
  · show fX5_counted_s5 y _ _ _ _ = _
    unfold fX5_counted_s5
    simp only [lit]
    rw [m_n hR, Option.bind_some, pk_mul, if_pos (by rw [e_le (by omega) (by omega)]; exact Nat.le_refl _)]
theorem c_notes {u : TH} (hA : WA A) (hC : CA u.1.1 A) : fX4_notes u = some (nI (ct (kb A 2) (100 * A.1))) := by
  unfold fX4_notes
  rw [show (2 : Int32) = nI 2 from rfl, c_countKind hA hC (by omega) (by omega), Option.bind_some]
theorem c_rows {u : TH} (hA : WA A) (hC : CA u.1.1 A) : fX4_rows u = some (nI (ct (fun x => kb A 1 x || kb A 2 x) (100 * A.1))) := by
  unfold fX4_rows
  rw [show (2 : Int32) = nI 2 from rfl, show (1 : Int32) = nI 1 from rfl, c_countKind hA hC (by omega) (by omega), Option.bind_some, c_countKind hA hC (by omega) (by omega), Option.bind_some, nI_add]
  rw [ct_or (P := kb A 1) (Q := kb A 2) (S := fun x => kb A 1 x || kb A 2 x)]
  intro x
  unfold kb
  by_cases c : kn A (x / 100) (x % 100) = 1
  · rw [decide_eq_true c, decide_eq_false (show ¬ kn A (x / 100) (x % 100) = 2 by omega)]; rfl
  · rw [decide_eq_false c]
    by_cases d : kn A (x / 100) (x % 100) = 2
    · rw [decide_eq_true d]; rfl
    · rw [decide_eq_false d]; rfl
theorem m_notes {y : TM} (hA : WA A) (hR : RA y.2.1 A) : fX5_counted y (2 : Int32) (2 : Int32) = some (nI (ct (kb A 2) (100 * A.1))) := by
  rw [show (2 : Int32) = nI 2 from rfl, m_counted hA hR (by omega) (by omega)]
  rw [show (fun x => kb A 2 x || kb A 2 x) = kb A 2 from funext fun x => Bool.or_self _]
theorem m_rows {y : TM} (hA : WA A) (hR : RA y.2.1 A) : fX5_counted y (1 : Int32) (2 : Int32) = some (nI (ct (fun x => kb A 1 x || kb A 2 x) (100 * A.1))) := by
  rw [show (2 : Int32) = nI 2 from rfl, show (1 : Int32) = nI 1 from rfl, m_counted hA hR (by omega) (by omega)]
def rw1 (A : AS) (p s : Nat) : Int32 := if kn A p s = 1 then nI (100 * p + s) else if kn A p s = 3 then nI 100 * db A p s 1 + db A p s 2 else M1
theorem rw1_no (hA : WA A) (hI : RI A) {p s : Nat} (hs1 : s < 100) (hp : p < 8) : (rw1 A p s = M1) = ¬ (kn A p s = 1 ∨ kn A p s = 3) := by
  apply propext
  unfold rw1
  by_cases c : kn A p s = 1
  · rw [if_pos c, nI_neM1 (by omega)]
    exact ⟨fun w => w.elim, fun w => w (Or.inl c)⟩
  · rw [if_neg c]
    by_cases d : kn A p s = 3
    · have hh : has A p s := kn_has (by omega)
      have h3 : db A p s 0 = nI 3 := by
        unfold kn at d
        rw [if_pos hh] at d
        by_cases e : db A p s 0 = nI 2
        · rw [if_pos e] at d; omega
        · rw [if_neg e] at d
          by_cases f : db A p s 0 = nI 3
          · exact f
          · rw [if_neg f] at d; omega
      obtain ⟨-, q, t, h1, h2, h4, h5⟩ := (hI p s hh).2.2.2.1 h3
      rw [if_pos d, h4, h5, pk_mul, nI_add, nI_neM1 (by omega)]
      exact ⟨fun w => w.elim, fun w => w (Or.inr d)⟩
    · rw [if_neg d]
      exact ⟨fun _ w => by rcases w with w | w; exact c w; exact d w, fun _ => rfl⟩
theorem c_rowAt {u : TH} (hA : WA A) (hC : CA u.1.1 A) {p s : Nat} (hp : p < 8) (hs1 : s < 100) : fX4_rowAt u (nI (100 * p + s)) = some (rw1 A p s) := by
  have hk := kn_le A p s
  unfold fX4_rowAt rw1
  rw [c_kind2 hA hC hp hs1, Option.bind_some]
  simp only [m1e]
  simp (disch := omega) only [lit, e_eq]
  by_cases c : kn A p s = 1
  · rw [if_pos c, if_pos c]
  · rw [if_neg c, if_neg c]
    by_cases d : kn A p s = 3
    · rw [if_pos d, if_pos d, c_target hA hC (kn_has (by omega))]; rfl
    · rw [if_neg d, if_neg d]
theorem m_rowAt {y : TM} (hA : WA A) (hR : RA y.2.1 A) {p s : Nat} (hp : p < 8) (hs1 : s < 100) : fX5_rowAt y (nI (100 * p + s)) = some (rw1 A p s, (0, y.1.2), y.2) := by
  have hk := kn_le A p s
  unfold fX5_rowAt rw1
  rw [m_kind2 (u := ((0, y.1.2), y.2)) hA hR hp hs1, Option.bind_some]
  simp only [m1e]
  simp (disch := omega) only [lit, e_eq, (r100 (show p < 1000 by omega) hs1).1, (r100 (show p < 1000 by omega) hs1).2]
  by_cases c : kn A p s = 1
  · rw [if_pos c, if_pos c]
  · rw [if_neg c, if_neg c]
    by_cases d : kn A p s = 3
    · have hh : has A p s := kn_has (by omega)
      have hb := has_b hA hh
      rw [if_pos d, if_pos d, m_rb (u := ((nI 0, y.1.2), y.2)) hA hR hh (by omega), Option.bind_some, m_rb (u := ((nI 0, y.1.2), y.2)) hA hR hh (by omega), Option.bind_some]
    · rw [if_neg d, if_neg d]
def nx (A : AS) (a : Int32) : Nat → Bool := fun x => decide (¬ nI x ≤ a ∧ (kn A (x / 100) (x % 100) = 1 ∨ kn A (x / 100) (x % 100) = 3))
theorem nx_e (A : AS) (a : Int32) {p s : Nat} (h : s < 100) : nx A a (100 * p + s) = decide (¬ nI (100 * p + s) ≤ a ∧ (kn A p s = 1 ∨ kn A p s = 3)) := by
  unfold nx
  rw [(d100 h).1, (d100 h).2]
def nxf (A : AS) (a : Int32) : Nat := fst (nx A a) (100 * A.1)
def nxR (A : AS) (a : Int32) : Int32 := if nxf A a < 100 * A.1 then nI (nxf A a) else M1
theorem c_nstep {u : TH} (hA : WA A) (hI : RI A) (hC : CA u.1.1 A) {a : Int32} {p s k : Nat} (hp : p < 8) (hk : k ≤ 31) (hs1 : s < k) : fX4_next_s25 u a (nI p) (nI k) (nI s) = if nx A a (100 * p + s) then some (.inr (0, ((0 : Int32), (0 : Int32), nI (100 * p + s)))) else some (.inl (a, nI p, nI k, nI (s + 1))) := by
  unfold fX4_next_s25 fX4_next_j58
  rw [if_neg (by rw [e_le (by omega) (by omega)]; omega), c_place, Option.bind_some, c_rowAt hA hC hp (by omega), nx_e A a (by omega)]
  simp only [m1e, Option.bind_some, rw1_no hA hI (show s < 100 by omega) hp]
  by_cases c : nI (100 * p + s) ≤ a
  · rw [if_pos c, decide_eq_false (fun w => w.1 c)]
    simp only [lit, nI_add]; rfl
  · rw [if_neg c]
    by_cases d : kn A p s = 1 ∨ kn A p s = 3
    · rw [if_neg (fun w => w d), decide_eq_true ⟨c, d⟩, if_pos rfl]
    · rw [if_pos d, decide_eq_false (fun w => d w.2)]
      simp only [lit, nI_add]; rfl
theorem c_next {u : TH} (hA : WA A) (hI : RI A) (hC : CA u.1.1 A) (a : Int32) : fX4_next u a = some (nxR A a) := by
  have hn := hA.1
  obtain ⟨f, hf⟩ : ∃ f, f = nxf A a := ⟨_, rfl⟩
  have hle : f ≤ 100 * A.1 := by rw [hf]; exact fst_le _ _
  have hno : ∀ x, x < f → nx A a x = false := fun x hx => fst_no (nx A a) (100 * A.1) x (by rw [← show f = fst (nx A a) (100 * A.1) from hf]; exact hx)
  have hyes : f < 100 * A.1 → nx A a f = true := fun h => by
    rw [hf]
    exact fst_yes (nx A a) (100 * A.1) (by rw [← show f = fst (nx A a) (100 * A.1) from hf]; exact h)
  unfold fX4_next
  have hpg : ∀ p, p < f / 100 → fX4_next_s2 u a (nI p) = some (.inl (a, nI (p + 1))) := by
    intro p hp
    have hk31 : (A.2.1 p).1 ≤ 31 := (hA.2.1 p (by omega)).1
    unfold fX4_next_s2
    rw [c_pc hC, if_neg (by rw [e_le (by omega) (by omega)]; omega), c_count (by omega) (hC.2.1 p (by omega)), Option.bind_some]
    rw [itr0 (step := fun b : Int32 × Int32 × Int32 × Int32 => fX4_next_s25 u b.1 b.2.1 b.2.2.1 b.2.2.2) (fun s => (a, nI p, nI (A.2.1 p).1, nI s)) (1, (a, nI p, (0 : Int32))) (A.2.1 p).1 ?a0 ?a1 ?a2 (by omega), Option.bind_some, if_neg (show ¬ (1 : Nat) = 0 by decide)]
    · simp only [lit, nI_add]
    case a0 => rfl
    case a1 =>
      intro s hs1
      show fX4_next_s25 u a (nI p) (nI (A.2.1 p).1) (nI s) = _
      rw [c_nstep hA hI hC (by omega) hk31 hs1, hno _ (by omega)]; rfl
    case a2 =>
      show fX4_next_s25 u _ _ _ _ = _
      unfold fX4_next_s25
      simp (disch := omega) only [e_le, Nat.le_refl, if_true]
  by_cases c : f < 100 * A.1
  · have hk31 : (A.2.1 (f / 100)).1 ≤ 31 := (hA.2.1 (f / 100) (by omega)).1
    have hy := hyes c
    have hkn : f % 100 < (A.2.1 (f / 100)).1 := by
      refine Nat.lt_of_not_le fun w => ?_
      have := kn_out (A := A) (p := f / 100) (s := f % 100) w
      unfold nx at hy
      rw [this] at hy
      have := of_decide_eq_true hy
      omega
    refine itrB (fun p => (a, nI p)) (0, nI f) (f / 100) rfl (fun p hp => hpg p hp) ?_ (by omega) ?_
    · show fX4_next_s2 u a (nI (f / 100)) = _
      unfold fX4_next_s2
      rw [c_pc hC, if_neg (by rw [e_le (by omega) (by omega)]; omega), c_count (by omega) (hC.2.1 (f / 100) (by omega)), Option.bind_some]
      rw [itr0 (step := fun b : Int32 × Int32 × Int32 × Int32 => fX4_next_s25 u b.1 b.2.1 b.2.2.1 b.2.2.2) (fun s => (a, nI (f / 100), nI (A.2.1 (f / 100)).1, nI s)) (0, ((0 : Int32), (0 : Int32), nI f)) (f % 100) ?b0 ?b1 ?b2 (by omega), Option.bind_some, if_pos rfl]
      case b0 => rfl
      case b1 =>
        intro s hs1
        show fX4_next_s25 u a (nI (f / 100)) (nI (A.2.1 (f / 100)).1) (nI s) = _
        rw [c_nstep hA hI hC (by omega) hk31 (by omega), hno _ (by omega)]; rfl
      case b2 =>
        show fX4_next_s25 u a (nI (f / 100)) (nI (A.2.1 (f / 100)).1) (nI (f % 100)) = _
        rw [c_nstep hA hI hC (by omega) hk31 hkn, show 100 * (f / 100) + f % 100 = f by omega, hy]; rfl
    · unfold nxR
      rw [← hf, if_pos c, if_pos rfl]
  · have e : f / 100 = A.1 := by omega
    refine itrB (fun p => (a, nI p)) (1, (0 : Int32)) (f / 100) rfl (fun p hp => hpg p hp) ?_ (by omega) ?_
    · show fX4_next_s2 u a (nI (f / 100)) = _
      unfold fX4_next_s2
      rw [c_pc hC, e]
      simp (disch := omega) only [e_le, Nat.le_refl, if_true]
    · unfold nxR
      rw [← hf, if_neg c, if_neg (by decide)]; rfl
theorem m_nstep {y : TM} (hA : WA A) (hR : RA y.2.1 A) {a : Int32} {x : Nat} (hx : x < 100 * A.1) : fX5_next_s15 y a (nI x) = if nx A a x then some (.inr (0, (y, nI x))) else some (.inl (y, a, nI (x + 1))) := by
  have hn := hA.1
  have hk := kn_le A (x / 100) (x % 100)
  unfold fX5_next_s15 fX5_next_j55 fX5_next_j51 fX5_next_j56 nx
  simp only [lit]
  rw [m_n hR, Option.bind_some, pk_mul, if_neg (by rw [e_le (by omega) (by omega)]; omega), m_kind hA hR (by omega)]
  simp (disch := omega) only [Option.bind_some, e_eq, nI_add]
  by_cases c : nI x ≤ a
  · rw [if_pos c, decide_eq_false (fun w => w.1 c), if_pos trivial]; rfl
  · rw [if_neg c]
    by_cases d : kn A (x / 100) (x % 100) = 1
    · rw [if_pos d, decide_eq_true ⟨c, Or.inl d⟩, if_neg (by omega)]; rfl
    · rw [if_neg d]
      by_cases e : kn A (x / 100) (x % 100) = 3
      · rw [if_pos e, decide_eq_true ⟨c, Or.inr e⟩, if_neg (by omega)]; rfl
      · rw [if_neg e, decide_eq_false (fun w => by rcases w.2 with w | w; exact d w; exact e w), if_pos trivial]; rfl
theorem m_next {y : TM} (hA : WA A) (hR : RA y.2.1 A) (a : Int32) : fX5_next y a = some (nxR A a, (0, y.1.2), y.2) := by
  have hn := hA.1
  obtain ⟨f, hf⟩ : ∃ f, f = nxf A a := ⟨_, rfl⟩
  have hle : f ≤ 100 * A.1 := by rw [hf]; exact fst_le _ _
  have hno : ∀ x, x < f → nx A a x = false := fun x hx => fst_no (nx A a) (100 * A.1) x (by rw [← show f = fst (nx A a) (100 * A.1) from hf]; exact hx)
  have hyes : f < 100 * A.1 → nx A a f = true := fun h => by
    rw [hf]
    exact fst_yes (nx A a) (100 * A.1) (by rw [← show f = fst (nx A a) (100 * A.1) from hf]; exact h)
  have key : ∀ t : Nat, t < 2 ^ 31 → (t ≤ f ∨ 100 * A.1 ≤ t) → (100 * A.1 ≤ t → f = 100 * A.1) → fX5_next_j14 ((0, y.1.2), y.2) a (nI t) = some (nxR A a, (0, y.1.2), y.2) := by
    intro t ht hc hz
    unfold fX5_next_j14
    have hend : ∀ z : Nat, 100 * A.1 ≤ z → z < 2 ^ 31 → fX5_next_s15 ((0, y.1.2), y.2) a (nI z) = some (.inr (1, (((0, y.1.2), y.2), (0 : Int32)))) := by
      intro z hz hz2
      unfold fX5_next_s15
      simp only [lit]
      rw [m_n (u := ((0, y.1.2), y.2)) hR, Option.bind_some, pk_mul, if_pos (by rw [e_le (by omega) (by omega)]; exact hz)]
    by_cases c : f < 100 * A.1
    · have htf : t ≤ f := by
        rcases hc with q | q
        · exact q
        · have := hz q; omega
      refine itrB (fun i => (((0, y.1.2), y.2), a, nI (t + i))) (0, (((0, y.1.2), y.2), nI f)) (f - t) rfl ?_ ?_ (by omega) ?_
      · intro j hj
        show fX5_next_s15 ((0, y.1.2), y.2) a (nI (t + j)) = _
        rw [m_nstep (y := ((0, y.1.2), y.2)) hA hR (by omega), hno _ (by omega)]; rfl
      · show fX5_next_s15 ((0, y.1.2), y.2) a (nI (t + (f - t))) = _
        rw [show t + (f - t) = f by omega, m_nstep (y := ((0, y.1.2), y.2)) hA hR c, hyes c]; rfl
      · unfold nxR
        rw [← hf, if_pos c, if_pos rfl]
    · have hr : nxR A a = M1 := by unfold nxR; rw [← hf, if_neg c]
      rw [hr]
      by_cases d : 100 * A.1 ≤ t
      · refine itrB (fun i => (((0, y.1.2), y.2), a, nI (t + i))) (1, (((0, y.1.2), y.2), (0 : Int32))) 0 rfl (fun j hj => absurd hj (Nat.not_lt_zero j)) (hend t d ht) (by omega) ?_
        rw [if_neg (show ¬ (1 : Nat) = 0 by decide)]; rfl
      · refine itrB (fun i => (((0, y.1.2), y.2), a, nI (t + i))) (1, (((0, y.1.2), y.2), (0 : Int32))) (100 * A.1 - t) rfl ?_ ?_ (by omega) ?_
        · intro j hj
          show fX5_next_s15 ((0, y.1.2), y.2) a (nI (t + j)) = _
          rw [m_nstep (y := ((0, y.1.2), y.2)) hA hR (by omega), hno _ (by omega)]; rfl
        · show fX5_next_s15 ((0, y.1.2), y.2) a (nI (t + (100 * A.1 - t))) = _
          exact hend _ (by omega) (by omega)
        · rw [if_neg (show ¬ (1 : Nat) = 0 by decide)]; rfl
  unfold fX5_next
  by_cases c : a < 0
  · rw [if_neg (by rw [i_ge]; exact fun w => w c)]
    exact key 0 (by omega) (by omega) (fun q => by omega)
  · obtain ⟨t, ht, rfl⟩ := nI_of c
    rw [if_pos (nI_pos' ht)]
    have hpast : ∀ x, x < 100 * A.1 → x ≤ t → nx A (nI t) x = false := by
      intro x hx1 hx2
      exact decide_eq_false (fun w => w.1 (nI_le hx2 ht))
    refine key t ht ?_ ?_
    · by_cases d : 100 * A.1 ≤ t
      · exact Or.inr d
      · refine Or.inl (Nat.le_of_not_lt fun w => ?_)
        have := hpast f (by omega) (by omega)
        rw [hyes (by omega)] at this
        cases this
    · intro d
      refine Nat.le_antisymm hle (Nat.le_of_not_lt fun w => ?_)
      have := hpast f w (by omega)
      rw [hyes w] at this
      cases this
end LK
