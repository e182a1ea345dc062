def cof (g : PG) (s : Nat) : Nat := if g.2.2.1 s = 0 then 0 else 128 - sm g (s + 1)
def cdat (g : PG) : Nat → Nat → Int32
  | 0 => fun _ => 0
  | n + 1 => fun k => if 128 - sm g (n + 1) ≤ k ∧ k < 128 - sm g n then g.2.2.2 (g.2.1 n + (k - (128 - sm g (n + 1)))) else cdat g n k
def mvc (g : PG) : Nat → Nat
  | 0 => 0
  | n + 1 => if g.2.2.1 n = 0 ∨ g.2.1 n = 128 - sm g (n + 1) then mvc g n else mvc g n + 1
def comp (g : PG) : PG := (g.1, (fun s => if s < g.1 then cof g s else g.2.1 s), g.2.2.1, cdat g g.1)
theorem cdat_s (g : PG) (n : Nat) : cdat g (n + 1) = fun k => if 128 - sm g (n + 1) ≤ k ∧ k < 128 - sm g n then g.2.2.2 (g.2.1 n + (k - (128 - sm g (n + 1)))) else cdat g n k := rfl
theorem sm_s (g : PG) (n : Nat) : sm g (n + 1) = sm g n + g.2.2.1 n := rfl
theorem mvc_le (g : PG) : ∀ n, mvc g n ≤ n
  | 0 => Nat.le_refl 0
  | n + 1 => by
    have := mvc_le g n
    unfold mvc
    split <;> omega
theorem mvc_s (g : PG) (n : Nat) : mvc g (n + 1) = if g.2.2.1 n = 0 ∨ g.2.1 n = 128 - sm g (n + 1) then mvc g n else mvc g n + 1 := rfl
theorem cdat_low (g : PG) : ∀ n k, k < 128 - sm g n → cdat g n k = 0
  | 0, _, _ => rfl
  | n + 1, k, h => by
    rw [cdat_s]
    rw [sm_s] at h
    show (if _ then _ else _) = _
    rw [if_neg (by rw [sm_s]; omega)]
    exact cdat_low g n k (by omega)
theorem sm_comp (g : PG) (n : Nat) : sm (comp g) n = sm g n := sm_eq (g := comp g) (h := g) rfl n
theorem lw_comp {g : PG} (hs : sm g g.1 ≤ 126) : ∀ n, n ≤ g.1 → lw (comp g) n = 128 - sm g n
  | 0, _ => rfl
  | n + 1, hn => by
    have ih := lw_comp hs n (by omega)
    have hm := sm_mono g (n + 1) g.1 hn
    rw [lw_s, ih, sm_s]
    have e1 : (comp g).2.2.1 n = g.2.2.1 n := rfl
    have e2 : (comp g).2.1 n = cof g n := if_pos (show n < g.1 by omega)
    rw [e1, e2]
    unfold cof
    rw [sm_s] at hm ⊢
    by_cases c : g.2.2.1 n = 0
    · rw [if_neg (by omega)]; omega
    · rw [if_neg c, if_pos (by omega)]
theorem comp_WF {g : PG} (h : WQ g) (h3 : ∀ s, g.1 ≤ s → s < 31 → g.2.2.1 s = 0 ∧ g.2.1 s = 0) : WF (comp g) := by
  obtain ⟨h1, h2, h6⟩ := h
  have eo : ∀ s, s < g.1 → (comp g).2.1 s = cof g s := fun s hs => if_pos hs
  refine ⟨h1, ?_, ?_, ?_, ?_, ?_⟩
  · intro s hs
    change s < g.1 at hs
    have hm := sm_mono g (s + 1) g.1 (by omega)
    rw [eo s hs]
    show (g.2.2.1 s = 0 ∧ _) ∨ (3 ≤ g.2.2.1 s ∧ 2 + 2 * g.1 ≤ _ ∧ _ + g.2.2.1 s ≤ 128)
    unfold cof
    rw [sm_s] at hm ⊢
    rcases h2 s hs with q | q
    · exact Or.inl ⟨q.1, if_pos q.1⟩
    · refine Or.inr ⟨q.1, ?_⟩
      rw [if_neg (by omega)]
      omega
  · intro s hs h31
    change g.1 ≤ s at hs
    have := h3 s hs h31
    refine ⟨this.1, ?_⟩
    show (if s < g.1 then _ else _) = _
    rw [if_neg (by omega)]
    exact this.2
  · intro a b ha hb hab la lb
    change a < g.1 at ha
    change b < g.1 at hb
    change 0 < g.2.2.1 a at la
    change 0 < g.2.2.1 b at lb
    rw [eo a ha, eo b hb]
    show cof g a + g.2.2.1 a ≤ cof g b ∨ cof g b + g.2.2.1 b ≤ cof g a
    unfold cof
    rw [if_neg (by omega), if_neg (by omega)]
    have m1 := sm_mono g (a + 1) g.1 (by omega)
    have m2 := sm_mono g (b + 1) g.1 (by omega)
    rcases Nat.lt_or_gt_of_ne hab with q | q
    · have := sm_mono g (a + 1) b (by omega)
      rw [sm_s] at *
      rw [sm_s] at *
      omega
    · have := sm_mono g (b + 1) a (by omega)
      rw [sm_s] at *
      rw [sm_s] at *
      omega
  · intro k hk hn
    show cdat g g.1 k = 0
    have key : ∀ n, n ≤ g.1 → cdat g n k = 0 := by
      intro n
      induction n with
      | zero => intro _; rfl
      | succ n ih =>
        intro hle
        rw [cdat_s]
        show (if _ then _ else _) = _
        by_cases c : 128 - sm g (n + 1) ≤ k ∧ k < 128 - sm g n
        · exfalso
          refine hn n (by show n < g.1; omega) ?_
          rw [eo n (by omega)]
          show cof g n ≤ k ∧ k < cof g n + g.2.2.1 n
          unfold cof
          rw [sm_s] at c ⊢
          have := sm_mono g (n + 1) g.1 hle
          rw [sm_s] at this
          rw [if_neg (by omega)]
          omega
        · rw [if_neg c]; exact ih (by omega)
    exact key g.1 (Nat.le_refl _)
  · rw [sm_comp]; exact h6
theorem cdat_cpy {f : Ar} {p : Nat} {g : PG} {n : Nat} (hm : sm g (n + 1) ≤ 128) {h : Nat → Int32} (hh : ∀ i, i < g.2.2.1 n → h i = g.2.2.2 (g.2.1 n + i)) (c : Nat) (q : ∀ k, c ≤ k → k < 128 → f (p + k) = cdat g n k) (k : Nat) (h1 : c ≤ k) (h2 : k < 128) : cpy f (p + (128 - sm g (n + 1))) (g.2.2.1 n) h (p + k) = cdat g (n + 1) k := by
  rw [cdat_s]
  show _ = if _ then _ else _
  rw [sm_s] at hm ⊢
  by_cases d : 128 - (sm g n + g.2.2.1 n) ≤ k ∧ k < 128 - sm g n
  · rw [if_pos d, cpy_in (by omega), hh _ (by omega), show p + k - (p + (128 - (sm g n + g.2.2.1 n))) = k - (128 - (sm g n + g.2.2.1 n)) by omega]
  · rw [if_neg d, cpy_out (by omega), q k h1 h2]
section MC
variable {p : Nat} {g : PG}
theorem c_comp {u : TP} (hp : p < 8) (hW : WF g) (hC : CP u.1.2 p g) : ∃ (f : Ar) (b : TB), fX2_compactPage u (nI p) = some (nI (mvc g g.1), ((u.1.1.1, u.1.1.2.1, u.1.1.2.2.1, u.1.1.2.2.2 + 1), f), b) ∧ CP f p (comp g) ∧ ∀ j, ¬ (128 * p ≤ j ∧ j < 128 * p + 128) → f j = u.1.2 j := by
  have h31 := hW.1
  have hsm := hW.2.2.2.2.2
  obtain ⟨hh, hhd⟩ : ∃ hh : Nat → Nat → Int32, hh = fun i k => if k < i then u.1.2 (128 * p + k) else u.2.2 k := ⟨_, rfl⟩
  obtain ⟨z, hz⟩ : ∃ z, z = 2 + 2 * g.1 := ⟨_, rfl⟩
  obtain ⟨bf, hbf⟩ : ∃ bf : TB, bf = (nI 128, hh 128) := ⟨_, rfl⟩
  have hbk : ∀ k, k < 128 → bf.2 k = u.1.2 (128 * p + k) := fun k hk => by rw [hbf, hhd]; exact if_pos hk
  have hb1 : bf.1 = nI 128 := by rw [hbf]
  unfold fX2_compactPage
  rw [c_count hp hC, Option.bind_some]
  simp only [fX0_empty, Option.bind_some]
  rw [itr0 (step := fun a : TP × Int32 × Int32 × Int32 => fX2_compactPage_s18 a.1 a.2.1 a.2.2.1 a.2.2.2) (fun i => ((u.1, (nI i, hh i)), nI p, nI g.1, nI i)) ((u.1, bf), nI p, nI g.1) 128 ?a1 ?a2 ?a3 (by omega), Option.bind_some]
  case a1 =>
    rw [hhd]
    show ((u.1, (nI 0, fun k => if k < 0 then _ else _)), nI p, nI g.1, nI 0) = _
    simp only [Nat.not_lt_zero, if_false]
    rfl
  case a2 =>
    intro j hj
    show fX2_compactPage_s18 (u.1, (nI j, hh j)) _ _ _ = some (.inl ((u.1, (nI (j + 1), hh (j + 1))), _))
    unfold fX2_compactPage_s18
    simp (disch := omega) only [liN, e_le, if_neg (show ¬ 128 ≤ j by omega), c_byteAt, Option.bind_some, nI_add]
    rw [add_ok (m := j) rfl (by omega) (by omega), Option.bind_some]
    have e : upd (hh j) j (u.1.2 (128 * p + j)) = hh (j + 1) := by
      rw [hhd]
      funext k
      unfold upd
      show (if k = j then _ else if k < j then _ else _) = if k < j + 1 then _ else _
      by_cases c : k = j
      · rw [if_pos c, if_pos (by omega), c]
      · rw [if_neg c]
        by_cases d : k < j
        · rw [if_pos d, if_pos (by omega)]
        · rw [if_neg d, if_neg (by omega)]
    rw [e]
  case a3 =>
    show fX2_compactPage_s18 _ _ _ _ = _
    unfold fX2_compactPage_s18
    rw [hbf]
    simp (disch := omega) only [liN, e_le, Nat.le_refl, if_true]
  simp only [fX4_slotOffset, Option.bind_some, liN, pk_mul, nI_add]
  rw [← hz]
  rw [itr0 (step := fun a : TP × Int32 × Int32 × Int32 => fX2_compactPage_s52 a.1 a.2.1 a.2.2.1 a.2.2.2) (fun i => (((u.1.1, zf u.1.2 (128 * p + z) i), bf), nI p, nI g.1, nI (z + i))) (((u.1.1, zf u.1.2 (128 * p + z) (128 - z)), bf), nI p, nI g.1) (128 - z) ?b1 ?b2 ?b3 (by omega), Option.bind_some]
  case b1 => rw [zf_0]; rfl
  case b2 =>
    intro j hj
    show fX2_compactPage_s52 ((u.1.1, zf u.1.2 (128 * p + z) j), bf) _ _ _ = some (.inl (((u.1.1, zf u.1.2 (128 * p + z) (j + 1)), bf), _))
    unfold fX2_compactPage_s52
    simp (disch := omega) only [liN, e_le, if_neg (show ¬ 128 ≤ z + j by omega), c_setByte, Option.bind_some, nI_add]
    rw [← zf_s, show 128 * p + z + j = 128 * p + (z + j) by omega]; rfl
  case b3 =>
    show fX2_compactPage_s52 _ _ _ _ = _
    unfold fX2_compactPage_s52
    simp (disch := omega) only [liN, e_le, if_pos (show 128 ≤ z + (128 - z) by omega)]
  have hloop : ∃ d, itr (fun a : TP × Int32 × Int32 × Int32 × Int32 × Int32 => fX2_compactPage_s85 a.1 a.2.1 a.2.2.1 a.2.2.2.1 a.2.2.2.2.1 a.2.2.2.2.2) FU (((u.1.1, zf u.1.2 (128 * p + z) (128 - z)), bf), nI p, nI g.1, nI 128, nI 0, nI 0) = some d ∧ ∃ f : Ar, d = (((u.1.1, f), bf), nI p, nI (128 - sm g g.1), nI (mvc g g.1)) ∧ f (128 * p) = nI g.1 ∧ (∀ t, t < g.1 → f (128 * p + 2 + 2 * t) = nI ((comp g).2.1 t) ∧ f (128 * p + 3 + 2 * t) = nI (g.2.2.1 t)) ∧ (∀ k, z ≤ k → k < 128 → f (128 * p + k) = cdat g g.1 k) ∧ ∀ j, ¬ (128 * p ≤ j ∧ j < 128 * p + 128) → f j = u.1.2 j := by
    refine itrI (fun s x => ∃ f : Ar, x = (((u.1.1, f), bf), nI p, nI g.1, nI (128 - sm g s), nI (mvc g s), nI s) ∧ f (128 * p) = nI g.1 ∧ (∀ t, t < g.1 → f (128 * p + 2 + 2 * t) = nI (if t < s then cof g t else g.2.1 t) ∧ f (128 * p + 3 + 2 * t) = nI (g.2.2.1 t)) ∧ (∀ k, z ≤ k → k < 128 → f (128 * p + k) = cdat g s k) ∧ ∀ j, ¬ (128 * p ≤ j ∧ j < 128 * p + 128) → f j = u.1.2 j) _ g.1 ?_ ?_ ?_ (by omega)
    · refine ⟨_, rfl, ?_, ?_, ?_, ?_⟩
      · rw [zf_out (by omega), hC.1]
      · intro t ht
        rw [zf_out (by omega), zf_out (by omega), if_neg (Nat.not_lt_zero t)]
        exact hC.2.2.1 t ht
      · intro k h1 h2
        rw [zf_in (by omega)]; rfl
      · intro j hj
        rw [zf_out (by omega)]
    · intro s x hs hx
      obtain ⟨f, rfl, f1, f2, f3, f4⟩ := hx
      have hm := sm_mono g (s + 1) g.1 (by omega)
      have hms := sm_s g s
      have hL := hW.len hs
      have hO := hW.off hs
      have hrec : g.2.2.1 s = 0 ∧ g.2.1 s = 0 ∨ (3 ≤ g.2.2.1 s ∧ z ≤ g.2.1 s ∧ g.2.1 s + g.2.2.1 s ≤ 128) := by rcases hW.2.1 s hs with q | q <;> omega
      obtain ⟨lo, hlo⟩ : ∃ lo, lo = 128 - sm g (s + 1) := ⟨_, rfl⟩
      have hf2 := f2 s hs
      rw [if_neg (Nat.lt_irrefl s)] at hf2
      obtain ⟨fc, hfc⟩ : ∃ fc : Ar, fc = cpy f (128 * p + lo) (g.2.2.1 s) (fun i => bf.2 (g.2.1 s + i)) := ⟨_, rfl⟩
      have hfo : ∀ j, ¬ (128 * p + lo ≤ j ∧ j < 128 * p + lo + g.2.2.1 s) → fc j = f j := fun j hj => by rw [hfc]; exact cpy_out hj
      have hdat : ∀ k, z ≤ k → k < 128 → fc (128 * p + k) = cdat g (s + 1) k := by
        intro k h1 h2
        rw [hfc, hlo]
        refine cdat_cpy (by omega) (fun i hi => ?_) z f3 k h1 h2
        show bf.2 (g.2.1 s + i) = _
        rw [hbk _ (by omega)]
        exact hC.2.2.2 _ (by omega) (by omega)
      have hrest : ∀ (f' : Ar) (m : Nat), (m = mvc g (s + 1)) → (∀ j, j ≠ 128 * p + 2 + 2 * s → f' j = fc j) → (f' (128 * p + 2 + 2 * s) = nI (cof g s)) → ∃ f9 : Ar, (((u.1.1, f'), bf), nI p, nI g.1, nI lo, nI m, nI (s + 1)) = (((u.1.1, f9), bf), nI p, nI g.1, nI (128 - sm g (s + 1)), nI (mvc g (s + 1)), nI (s + 1)) ∧ f9 (128 * p) = nI g.1 ∧ (∀ t, t < g.1 → f9 (128 * p + 2 + 2 * t) = nI (if t < s + 1 then cof g t else g.2.1 t) ∧ f9 (128 * p + 3 + 2 * t) = nI (g.2.2.1 t)) ∧ (∀ k, z ≤ k → k < 128 → f9 (128 * p + k) = cdat g (s + 1) k) ∧ ∀ j, ¬ (128 * p ≤ j ∧ j < 128 * p + 128) → f9 j = u.1.2 j := by
        intro f' m e1 e2 e3
        refine ⟨f', by rw [e1, hlo], ?_, ?_, ?_, ?_⟩
        · rw [e2 _ (by omega), hfo _ (by omega), f1]
        · intro t ht
          refine ⟨?_, ?_⟩
          · by_cases c : t = s
            · rw [c, e3, if_pos (by omega)]
            · rw [e2 _ (by omega), hfo _ (by omega), (f2 t ht).1]
              by_cases d : t < s
              · rw [if_pos d, if_pos (by omega)]
              · rw [if_neg d, if_neg (by omega)]
          · rw [e2 _ (by omega), hfo _ (by omega), (f2 t ht).2]
        · intro k h1 h2
          rw [e2 _ (by omega), hdat k h1 h2]
        · intro j hj
          rw [e2 _ (by omega), hfo _ (by omega), f4 j hj]
      show ∃ y, fX2_compactPage_s85 ((u.1.1, f), bf) (nI p) (nI g.1) (nI (128 - sm g s)) (nI (mvc g s)) (nI s) = some (.inl y) ∧ _
      unfold fX2_compactPage_s85 fX2_compactPage_j188
      have e1 : fX3_sizeOf (u.1.1, f) (nI p) (nI s) = some (nI (g.2.2.1 s)) := by rw [c_sizeOf (by omega)]; exact congrArg some hf2.2
      have e2 : fX3_offsetOf (u.1.1, f) (nI p) (nI s) = some (nI (g.2.1 s)) := by rw [c_offsetOf (by omega)]; exact congrArg some hf2.1
      simp (disch := omega) only [e_le, if_neg (show ¬ g.1 ≤ s by omega), e1, e2, Option.bind_some, e_sub]
      rw [show 128 - sm g s - g.2.2.1 s = lo by omega]
      rw [itr0 (step := fun a : TP × Int32 × Int32 × Int32 × Int32 × Int32 × Int32 × Int32 × Int32 => fX2_compactPage_s123 a.1 a.2.1 a.2.2.1 a.2.2.2.1 a.2.2.2.2.1 a.2.2.2.2.2.1 a.2.2.2.2.2.2.1 a.2.2.2.2.2.2.2.1 a.2.2.2.2.2.2.2.2) (fun i => (((u.1.1, cpy f (128 * p + lo) i (fun i => bf.2 (g.2.1 s + i))), bf), nI p, nI g.1, nI lo, nI (mvc g s), nI s, nI (g.2.2.1 s), nI (g.2.1 s), nI i)) (((u.1.1, fc), bf), nI p, nI g.1, nI lo, nI (mvc g s), nI s, nI (g.2.2.1 s), nI (g.2.1 s)) (g.2.2.1 s) ?c1 ?c2 ?c3 (by omega), Option.bind_some]
      case c1 => rw [cpy_0]; rfl
      case c2 =>
        intro j hj
        show fX2_compactPage_s123 ((u.1.1, cpy f (128 * p + lo) j (fun i => bf.2 (g.2.1 s + i))), bf) _ _ _ _ _ _ _ _ = some (.inl (((u.1.1, cpy f (128 * p + lo) (j + 1) (fun i => bf.2 (g.2.1 s + i))), bf), _))
        unfold fX2_compactPage_s123
        simp (disch := omega) only [liN, e_le, if_neg (show ¬ g.2.2.1 s ≤ j by omega), nI_add]
        rw [at_ok hb1 (by omega) (by omega) (by omega), Option.bind_some, c_setByte (by omega), Option.bind_some, ← cpy_s, Nat.add_assoc]
      case c3 =>
        show fX2_compactPage_s123 _ _ _ _ _ _ _ _ _ = _
        unfold fX2_compactPage_s123
        rw [hfc]
        simp (disch := omega) only [liN, e_le, Nat.le_refl, if_true]
      have hml := mvc_le g s
      simp (disch := omega) only [liN, e_le, e_eq, nI_add]
      by_cases c0 : g.2.2.1 s = 0
      · rw [if_pos (by omega)]
        refine ⟨_, rfl, hrest fc (mvc g s) (by rw [mvc_s, if_pos (Or.inl c0)]) (fun j _ => rfl) ?_⟩
        rw [hfo _ (by omega), hf2.1]
        unfold cof
        rw [if_pos c0]
        congr 1; omega
      · rw [if_neg (by omega)]
        by_cases c1 : g.2.1 s = lo
        · rw [if_pos c1]
          refine ⟨_, rfl, hrest fc (mvc g s) (by rw [mvc_s, if_pos (Or.inr (by omega))]) (fun j _ => rfl) ?_⟩
          rw [hfo _ (by omega), hf2.1]
          unfold cof
          rw [if_neg c0, c1, hlo]
        · rw [if_neg c1]
          simp (disch := omega) only [fX4_slotOffset, liN, pk_mul, nI_add, c_setByte, Option.bind_some]
          refine ⟨_, rfl, hrest (upd fc (128 * p + (2 + 2 * s)) (nI lo)) (mvc g s + 1) (by rw [mvc_s, if_neg (by omega)]) (fun j hj => updN (by omega)) ?_⟩
          rw [show 128 * p + 2 + 2 * s = 128 * p + (2 + 2 * s) by omega, updS]
          unfold cof
          rw [if_neg c0, hlo]
    · intro x hx
      obtain ⟨f, rfl, f1, f2, f3, f4⟩ := hx
      refine ⟨_, ?_, f, rfl, f1, ?_, f3, f4⟩
      · show fX2_compactPage_s85 _ _ _ _ _ _ = _
        unfold fX2_compactPage_s85
        simp (disch := omega) only [e_le, Nat.le_refl, if_true]
      · intro t ht
        have := f2 t ht
        rw [if_pos ht] at this
        rw [show (comp g).2.1 t = cof g t from if_pos ht]
        exact this
  obtain ⟨d, hd, f, rfl, f1, f2, f3, f4⟩ := hloop
  rw [hd, Option.bind_some]
  simp (disch := omega) only [c_setByte, Option.bind_some]
  refine ⟨_, _, rfl, ⟨?_, ?_, ?_, ?_⟩, ?_⟩
  · rw [updN (by omega), f1]; rfl
  · rw [updS, show (comp g).1 = g.1 from rfl, lw_comp (by omega) g.1 (Nat.le_refl _)]
  · intro t ht
    change t < g.1 at ht
    rw [updN (by omega), updN (by omega)]
    exact f2 t ht
  · intro k h1 h2
    change 2 + 2 * g.1 ≤ k at h1
    rw [updN (by omega)]
    exact f3 k (by omega) h2
  · intro j hj
    rw [updN (by omega), f4 j hj]
end MC

