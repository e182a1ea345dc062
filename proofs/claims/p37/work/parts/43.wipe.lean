def zf (f : Ar) (b n : Nat) : Ar := fun j => if b ≤ j ∧ j < b + n then 0 else f j
theorem zf_0 (f : Ar) (b : Nat) : zf f b 0 = f := by
  funext j
  unfold zf
  rw [if_neg (by omega)]
theorem zf_s (f : Ar) (b n : Nat) : upd (zf f b n) (b + n) 0 = zf f b (n + 1) := by
  funext j
  unfold upd zf
  by_cases c : j = b + n
  · rw [if_pos c, if_pos (by omega)]
  · rw [if_neg c]
    by_cases d : b ≤ j ∧ j < b + n
    · rw [if_pos d, if_pos (by omega)]
    · rw [if_neg d, if_neg (by omega)]
theorem zf_out {f : Ar} {b n j : Nat} (h : ¬ (b ≤ j ∧ j < b + n)) : zf f b n j = f j := if_neg h
theorem zf_in {f : Ar} {b n j : Nat} (h : b ≤ j ∧ j < b + n) : zf f b n j = 0 := if_pos h
def wipe (g : PG) (s : Nat) : PG := (g.1, va_up g.2.1 s 0, va_up g.2.2.1 s 0, zf g.2.2.2 (g.2.1 s) (g.2.2.1 s))
def tr (g : PG) : Nat → Nat
  | 0 => 0
  | n + 1 => if g.2.2.1 n = 0 then tr g n else n + 1
def trim (g : PG) : PG := (tr g g.1, g.2)
def rem (g : PG) (s : Nat) : PG := trim (wipe g s)
theorem va_upS {α : Type} {f : Nat → α} {k : Nat} {x : α} : va_up f k x k = x := if_pos rfl
theorem va_upN {α : Type} {f : Nat → α} {k j : Nat} {x : α} (h : j ≠ k) : va_up f k x j = f j := if_neg h
theorem sm_cong {g h : PG} : ∀ n, (∀ s, s < n → g.2.2.1 s = h.2.2.1 s) → sm g n = sm h n
  | 0, _ => rfl
  | n + 1, e => by
    show sm g n + g.2.2.1 n = sm h n + h.2.2.1 n
    rw [sm_cong n (fun s hs => e s (by omega)), e n (by omega)]
theorem sm_eq {g h : PG} (e : g.2.2.1 = h.2.2.1) (n : Nat) : sm g n = sm h n := sm_cong n (fun s _ => by rw [e])
theorem sm_wipe (g : PG) (s : Nat) : ∀ n, sm (wipe g s) n + (if s < n then g.2.2.1 s else 0) = sm g n
  | 0 => rfl
  | n + 1 => by
    have ih := sm_wipe g s n
    show sm (wipe g s) n + (wipe g s).2.2.1 n + _ = sm g n + g.2.2.1 n
    have e : (wipe g s).2.2.1 n = va_up g.2.2.1 s 0 n := rfl
    rw [e]
    by_cases c : n = s
    · subst c
      rw [va_upS, if_pos (by omega)]
      rw [if_neg (by omega)] at ih
      omega
    · rw [va_upN c]
      by_cases d : s < n
      · rw [if_pos (by omega)]; rw [if_pos d] at ih; omega
      · rw [if_neg (by omega)]; rw [if_neg d] at ih; omega
theorem wipe_WF {g : PG} (h : WF g) {s : Nat} (hs : s < g.1) : WF (wipe g s) := by
  obtain ⟨h1, h2, h3, h4, h5, h6⟩ := h
  refine ⟨h1, ?_, ?_, ?_, ?_, ?_⟩
  · intro t ht
    show (va_up g.2.2.1 s 0 t = 0 ∧ va_up g.2.1 s 0 t = 0) ∨ (3 ≤ va_up g.2.2.1 s 0 t ∧ 2 + 2 * g.1 ≤ va_up g.2.1 s 0 t ∧ va_up g.2.1 s 0 t + va_up g.2.2.1 s 0 t ≤ 128)
    by_cases c : t = s
    · subst c; rw [va_upS, va_upS]; exact Or.inl ⟨rfl, rfl⟩
    · rw [va_upN c, va_upN c]; exact h2 t ht
  · intro t ht h31
    show va_up g.2.2.1 s 0 t = 0 ∧ va_up g.2.1 s 0 t = 0
    have ht' : g.1 ≤ t := ht
    rw [va_upN (by omega), va_upN (by omega)]
    exact h3 t ht h31
  · intro a b ha hb hab la lb
    change 0 < va_up g.2.2.1 s 0 a at la
    change 0 < va_up g.2.2.1 s 0 b at lb
    show va_up g.2.1 s 0 a + va_up g.2.2.1 s 0 a ≤ va_up g.2.1 s 0 b ∨ va_up g.2.1 s 0 b + va_up g.2.2.1 s 0 b ≤ va_up g.2.1 s 0 a
    have ca : a ≠ s := fun q => by rw [q, va_upS] at la; omega
    have cb : b ≠ s := fun q => by rw [q, va_upS] at lb; omega
    rw [va_upN ca] at la
    rw [va_upN cb] at lb
    rw [va_upN ca, va_upN ca, va_upN cb, va_upN cb]
    exact h4 a b ha hb hab la lb
  · intro k hk hn
    show zf g.2.2.2 (g.2.1 s) (g.2.2.1 s) k = 0
    by_cases c : g.2.1 s ≤ k ∧ k < g.2.1 s + g.2.2.1 s
    · exact zf_in c
    · rw [zf_out c]
      refine h5 k hk (fun t ht q => ?_)
      by_cases d : t = s
      · subst d; exact c q
      · have := hn t ht
        change ¬ (va_up g.2.1 s 0 t ≤ k ∧ k < va_up g.2.1 s 0 t + va_up g.2.2.1 s 0 t) at this
        rw [va_upN d, va_upN d] at this
        exact this q
  · have := sm_wipe g s g.1
    show sm (wipe g s) g.1 + 2 + 2 * g.1 ≤ 128
    omega
theorem tr_le (g : PG) : ∀ n, tr g n ≤ n
  | 0 => Nat.le_refl 0
  | n + 1 => by
    have := tr_le g n
    unfold tr
    split <;> omega
theorem tr_out (g : PG) : ∀ n s, tr g n ≤ s → s < n → g.2.2.1 s = 0
  | 0, s, _, h => absurd h (Nat.not_lt_zero s)
  | n + 1, s, h1, h2 => by
    have ih := tr_out g n s
    unfold tr at h1
    by_cases c : g.2.2.1 n = 0
    · rw [if_pos c] at h1
      by_cases d : s = n
      · rw [d]; exact c
      · exact ih h1 (by omega)
    · rw [if_neg c] at h1; omega
theorem sm_tr (g : PG) : ∀ n, sm g (tr g n) = sm g n
  | 0 => rfl
  | n + 1 => by
    have ih := sm_tr g n
    unfold tr
    by_cases c : g.2.2.1 n = 0
    · rw [if_pos c, ih]; show sm g n = sm g n + g.2.2.1 n; omega
    · rw [if_neg c]
theorem lw_tr (g : PG) : ∀ n, lw g (tr g n) = lw g n
  | 0 => rfl
  | n + 1 => by
    have ih := lw_tr g n
    unfold tr
    by_cases c : g.2.2.1 n = 0
    · rw [if_pos c, ih, lw_s, if_neg (by omega)]
    · rw [if_neg c]
theorem trim_WF {g : PG} (h : WF g) : WF (trim g) := by
  obtain ⟨h1, h2, h3, h4, h5, h6⟩ := h
  have hle := tr_le g g.1
  have hout := tr_out g g.1
  refine ⟨Nat.le_trans hle h1, ?_, ?_, ?_, ?_, ?_⟩
  · intro s hs
    change s < tr g g.1 at hs
    rcases h2 s (by omega) with q | q
    · exact Or.inl q
    · exact Or.inr ⟨q.1, by show 2 + 2 * tr g g.1 ≤ g.2.1 s; omega, q.2.2⟩
  · intro s hs h31
    change tr g g.1 ≤ s at hs
    by_cases c : s < g.1
    · have e := hout s hs c
      rcases h2 s c with q | q
      · exact q
      · omega
    · exact h3 s (by omega) h31
  · intro a b ha hb
    change a < tr g g.1 at ha
    change b < tr g g.1 at hb
    exact h4 a b (by omega) (by omega)
  · intro k hk hn
    refine h5 k hk (fun s hs q => ?_)
    by_cases c : s < tr g g.1
    · exact hn s c q
    · have e := hout s (by omega) hs
      omega
  · rw [sm_eq (g := trim g) (h := g) rfl]
    show sm g (tr g g.1) + 2 + 2 * tr g g.1 ≤ 128
    rw [sm_tr]; omega
theorem lw_cong {g h : PG} : ∀ n, (∀ s, s < n → g.2.2.1 s = h.2.2.1 s ∧ g.2.1 s = h.2.1 s) → lw g n = lw h n
  | 0, _ => rfl
  | n + 1, e => by
    rw [lw_s, lw_s, lw_cong n (fun s hs => e s (by omega)), (e n (by omega)).1, (e n (by omega)).2]
section MW
variable {p : Nat} {g : PG}

theorem c_lowloop {u : TP} (hp : p < 8) (h31 : g.1 ≤ 31) (hl : ∀ s, s < g.1 → g.2.2.1 s ≤ 128 ∧ g.2.1 s ≤ 128) (hC : ∀ s, s < g.1 → u.1.2 (128 * p + 2 + 2 * s) = nI (g.2.1 s) ∧ u.1.2 (128 * p + 3 + 2 * s) = nI (g.2.2.1 s)) : itr (fun a : TP × Int32 × Int32 × Int32 × Int32 => fX2_eraseRecord_s96 a.1 a.2.1 a.2.2.1 a.2.2.2.1 a.2.2.2.2) FU (u, nI p, nI g.1, (128 : Int32), (0 : Int32)) = some (u, nI p, nI (lw g g.1)) := by
  refine itr0 (fun i => (u, nI p, nI g.1, nI (lw g i), nI i)) (u, nI p, nI (lw g g.1)) g.1 rfl ?_ ?_ (by omega)
  · intro j hj
    have h1 := hl j hj
    have h2 := lw_le g j
    show fX2_eraseRecord_s96 u _ _ _ _ = some (.inl (u, nI p, nI g.1, nI (lw g (j + 1)), nI (j + 1)))
    unfold fX2_eraseRecord_s96 fX2_eraseRecord_j133
    have e1 : fX3_sizeOf u.1 (nI p) (nI j) = some (nI (g.2.2.1 j)) := by rw [c_sizeOf (by omega), (hC j hj).2]
    have e2 : fX3_offsetOf u.1 (nI p) (nI j) = some (nI (g.2.1 j)) := by rw [c_offsetOf (by omega), (hC j hj).1]
    simp (disch := omega) only [liN, e_le, if_neg (show ¬ g.1 ≤ j by omega), e1, e2, Option.bind_some, e_lt, nI_add]
    rw [lw_s]
    by_cases c1 : g.2.2.1 j ≤ 0
    · rw [if_pos c1, if_neg (by omega)]
    · rw [if_neg c1]
      by_cases c2 : g.2.1 j < lw g j
      · rw [if_pos c2, if_pos (by omega)]
      · rw [if_neg c2, if_neg (by omega)]
  · show fX2_eraseRecord_s96 u _ _ _ _ = _
    unfold fX2_eraseRecord_s96
    simp (disch := omega) only [e_le, Nat.le_refl, if_true]
theorem c_erase {u : TP} (hp : p < 8) (hW : WF g) (hC : CP u.1.2 p g) {s : Nat} (hs : s < g.1) : ∃ f : Ar, fX2_eraseRecord u (nI p) (nI s) = some ((u.1.1, f), u.2) ∧ CP f p (wipe g s) ∧ ∀ j, ¬ (128 * p ≤ j ∧ j < 128 * p + 128) → f j = u.1.2 j := by
  have h31 := hW.1
  have hL := hW.len hs
  have hO := hW.off hs
  have hrec : g.2.2.1 s = 0 ∨ (2 + 2 * g.1 ≤ g.2.1 s ∧ g.2.1 s + g.2.2.1 s ≤ 128) := by rcases hW.2.1 s hs with q | q <;> omega
  obtain ⟨b, hb⟩ : ∃ b, b = 128 * p + g.2.1 s := ⟨_, rfl⟩
  obtain ⟨f1, hf1⟩ : ∃ f1, f1 = upd (upd (zf u.1.2 b (g.2.2.1 s)) (128 * p + 2 + 2 * s) 0) (128 * p + 3 + 2 * s) 0 := ⟨_, rfl⟩
  have hgo : ∀ j, j ≠ 128 * p + 2 + 2 * s → j ≠ 128 * p + 3 + 2 * s → ¬ (b ≤ j ∧ j < b + g.2.2.1 s) → f1 j = u.1.2 j := by
    intro j a1 a2 a3
    rw [hf1, updN a2, updN a1, zf_out a3]
  have hz1 : f1 (128 * p + 2 + 2 * s) = 0 := by rw [hf1, updN (by omega), updS]
  have hz2 : f1 (128 * p + 3 + 2 * s) = 0 := by rw [hf1, updS]
  have hcnt : f1 (128 * p) = nI g.1 := by rw [hgo _ (by omega) (by omega) (by omega), hC.1]
  have hslots : ∀ t, t < (wipe g s).1 → f1 (128 * p + 2 + 2 * t) = nI ((wipe g s).2.1 t) ∧ f1 (128 * p + 3 + 2 * t) = nI ((wipe g s).2.2.1 t) := by
    intro t ht
    change t < g.1 at ht
    show f1 (128 * p + 2 + 2 * t) = nI (va_up g.2.1 s 0 t) ∧ f1 (128 * p + 3 + 2 * t) = nI (va_up g.2.2.1 s 0 t)
    by_cases c : t = s
    · subst c; rw [va_upS, va_upS, hz1, hz2]; exact ⟨rfl, rfl⟩
    · rw [va_upN c, va_upN c, hgo _ (by omega) (by omega) (by omega), hgo _ (by omega) (by omega) (by omega)]
      exact hC.2.2.1 t ht
  have hlow := c_lowloop (u := ((u.1.1, f1), u.2)) (g := wipe g s) hp h31 (fun t ht => by have := (wipe_WF hW hs).len ht; have := (wipe_WF hW hs).off ht; omega) hslots
  refine ⟨upd f1 (128 * p + 1) (nI (lw (wipe g s) g.1)), ?_, ?_, ?_⟩
  · unfold fX2_eraseRecord
    rw [c_off hp hC h31 hs, Option.bind_some, c_size hp hC h31 hs, Option.bind_some]
    refine itrB (fun i => (((u.1.1, zf u.1.2 b i), u.2), nI p, nI s, nI (g.2.1 s), nI (g.2.2.1 s), nI i)) (((u.1.1, zf u.1.2 b (g.2.2.1 s)), u.2), nI p, nI s) (g.2.2.1 s) ?_ ?_ ?_ (by omega) ?_
    · show (((u.1.1, zf u.1.2 b 0), u.2), nI p, nI s, nI (g.2.1 s), nI (g.2.2.1 s), nI 0) = _
      rw [zf_0]; rfl
    · intro j hj
      show fX2_eraseRecord_s24 ((u.1.1, zf u.1.2 b j), u.2) _ _ _ _ _ = some (.inl (((u.1.1, zf u.1.2 b (j + 1)), u.2), _))
      unfold fX2_eraseRecord_s24
      simp (disch := omega) only [liN, e_le, if_neg (show ¬ g.2.2.1 s ≤ j by omega), nI_add, c_setByte, Option.bind_some]
      rw [← zf_s, hb, Nat.add_assoc]; rfl
    · show fX2_eraseRecord_s24 _ _ _ _ _ _ = _
      unfold fX2_eraseRecord_s24
      simp (disch := omega) only [e_le, Nat.le_refl, if_true]
    · simp (disch := omega) only [fX4_slotOffset, Option.bind_some, liN, pk_mul, nI_add, c_setByte]
      have e1 : upd (upd (zf u.1.2 b (g.2.2.1 s)) (128 * p + (2 + 2 * s)) (nI 0)) (128 * p + (2 + 2 * s + 1)) (nI 0) = f1 := by
        rw [hf1, show 128 * p + (2 + 2 * s) = 128 * p + 2 + 2 * s by omega, show 128 * p + (2 + 2 * s + 1) = 128 * p + 3 + 2 * s by omega]; rfl
      rw [e1, c_slotCount hp, Option.bind_some]
      show (itr (fun a : TP × Int32 × Int32 × Int32 × Int32 => fX2_eraseRecord_s96 a.1 a.2.1 a.2.2.1 a.2.2.2.1 a.2.2.2.2) FU (((u.1.1, f1), u.2), nI p, f1 (128 * p), (128 : Int32), (0 : Int32))).bind _ = _
      rw [hcnt]
      change itr _ FU (((u.1.1, f1), u.2), nI p, nI g.1, (128 : Int32), (0 : Int32)) = _ at hlow
      rw [hlow, Option.bind_some]
      simp (disch := omega) only [c_setByte, Option.bind_some]
      rfl
  · refine ⟨?_, ?_, ?_, ?_⟩
    · rw [updN (by omega), hcnt]; rfl
    · rw [updS]; rfl
    · intro t ht
      have ht' : t < g.1 := ht
      rw [updN (by omega), updN (by omega)]
      exact hslots t ht
    · intro k hk1 hk2
      change 2 + 2 * g.1 ≤ k at hk1
      show _ = zf g.2.2.2 (g.2.1 s) (g.2.2.1 s) k
      rw [updN (by omega)]
      by_cases c : g.2.1 s ≤ k ∧ k < g.2.1 s + g.2.2.1 s
      · rw [zf_in c, hf1, updN (by omega), updN (by omega), zf_in (by omega)]
      · rw [zf_out c, hgo _ (by omega) (by omega) (by omega), hC.2.2.2 k hk1 hk2]
  · intro j hj
    rw [updN (by omega), hgo j (by omega) (by omega) (by omega)]
end MW

