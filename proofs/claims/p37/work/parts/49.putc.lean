section MP
variable {p : Nat} {g : PG}
theorem c_j68 {u : TP × TB} {s n z lo : Nat} (hp : p < 8) (hC : CP u.1.1.2 p g) (hn : n = (ext g s).1) (hn31 : n ≤ 31) (hs : s ≤ g.1) (hl : g.2.2.1 s = 0) (hlw : lw (ext g s) (ext g s).1 = lw g g.1) (hb : u.2.1 = nI z) (h3 : 3 ≤ z) (hz : z ≤ 63) (hlo : lw g g.1 = lo + z) (hfit : 2 + 2 * n ≤ lo) : ∃ f : Ar, fX2_putRecord_j68 63 u (nI p) (nI s) (nI n) = some (((u.1.1.1, f), u.1.2), u.2) ∧ CP f p (wb (pl (ext g s) s z) s u.2.2 z) ∧ ∀ j, ¬ (128 * p ≤ j ∧ j < 128 * p + 128) → f j = u.1.1.2 j := by
  have hle := lw_le g g.1
  have hc := ext_cnt hs
  have hsn : s < n := by
    rw [hn, hc]; split <;> omega
  have hgn : g.1 ≤ n := by
    rw [hn, hc]; split <;> omega
  have hng : n ≤ g.1 + 1 := by
    rw [hn, hc]; split <;> omega
  have hns : ∀ t, t < n → t ≠ s → t < g.1 := by
    intro t h1 h2
    by_cases c : s < g.1
    · rw [if_pos c] at hc; omega
    · rw [if_neg c] at hc; omega
  obtain ⟨F, hF⟩ : ∃ F : Ar, F = cpy (upd u.1.1.2 (128 * p) (nI n)) (128 * p + lo) z u.2.2 := ⟨_, rfl⟩
  have hFo : ∀ j, j ≠ 128 * p → ¬ (128 * p + lo ≤ j ∧ j < 128 * p + lo + z) → F j = u.1.1.2 j := by
    intro j h1 h2
    rw [hF, cpy_out h2, updN h1]
  refine ⟨upd (upd (upd F (128 * p + (2 + 2 * s)) (nI lo)) (128 * p + (2 + 2 * s + 1)) (nI z)) (128 * p + 1) (nI lo), ?_, ?_, ?_⟩
  · unfold fX2_putRecord_j68
    simp (disch := omega) only [liN, c_setByte, Option.bind_some, c_byteAt, Nat.add_zero]
    rw [updN (by omega), hC.2.1, hb, hlo, e_sub (by omega), show lo + z - z = lo by omega]
    rw [itr0 (step := fun a : (TP × TB) × Int32 × Int32 × Int32 × Int32 => fX2_putRecord_s98 63 a.1 a.2.1 a.2.2.1 a.2.2.2.1 a.2.2.2.2) (fun i => ((((u.1.1.1, cpy (upd u.1.1.2 (128 * p) (nI n)) (128 * p + lo) i u.2.2), u.1.2), u.2), nI p, nI s, nI lo, nI i)) ((((u.1.1.1, F), u.1.2), u.2), nI p, nI s, nI lo) z ?a1 ?a2 ?a3 (by omega), Option.bind_some]
    case a1 => rw [cpy_0]
    case a2 =>
      intro j hj
      show fX2_putRecord_s98 63 (((u.1.1.1, cpy (upd u.1.1.2 (128 * p) (nI n)) (128 * p + lo) j u.2.2), u.1.2), u.2) _ _ _ _ = some (.inl ((((u.1.1.1, cpy (upd u.1.1.2 (128 * p) (nI n)) (128 * p + lo) (j + 1) u.2.2), u.1.2), u.2), _))
      unfold fX2_putRecord_s98
      rw [at_ok hb hj (by omega) (by omega)]
      simp (disch := omega) only [liN, hb, e_le, if_neg (show ¬ z ≤ j by omega), nI_add, c_setByte, Option.bind_some]
      rw [← cpy_s, Nat.add_assoc]
    case a3 =>
      show fX2_putRecord_s98 63 _ _ _ _ _ = _
      unfold fX2_putRecord_s98
      rw [hF]
      simp (disch := omega) only [hb, e_le, Nat.le_refl, if_true]
    simp (disch := omega) only [fX4_slotOffset, Option.bind_some, liN, pk_mul, nI_add, c_setByte, hb]
  · refine ⟨?_, ?_, ?_, ?_⟩
    · show _ = nI (ext g s).1
      rw [updN (by omega), updN (by omega), updN (by omega), hF, cpy_out (by omega), updS, hn]
    · rw [updS]
      show _ = nI (lw (wb (pl (ext g s) s z) s u.2.2 z) (ext g s).1)
      rw [lw_cong (g := wb (pl (ext g s) s z) s u.2.2 z) (h := pl (ext g s) s z) _ (fun _ _ => ⟨rfl, rfl⟩), lw_pl (h := ext g s) (by omega) (by omega) hl (by omega) _ (Nat.le_refl _), if_pos (by omega), hlw, hlo]
      congr 1; omega
    · intro t ht
      change t < (ext g s).1 at ht
      show _ = nI (va_up g.2.1 s (lw (ext g s) (ext g s).1 - z) t) ∧ _ = nI (va_up g.2.2.1 s z t)
      by_cases c : t = s
      · subst c
        rw [va_upS, va_upS, hlw, hlo]
        rw [updN (by omega), updN (by omega), show 128 * p + 2 + 2 * t = 128 * p + (2 + 2 * t) by omega, updS, updN (by omega), show 128 * p + 3 + 2 * t = 128 * p + (2 + 2 * t + 1) by omega, updS, show lo + z - z = lo by omega]
        exact ⟨rfl, rfl⟩
      · rw [va_upN c, va_upN c]
        have := hC.2.2.1 t (hns t (by omega) c)
        rw [updN (by omega), updN (by omega), updN (by omega), updN (by omega), updN (by omega), updN (by omega), hFo _ (by omega) (by omega), hFo _ (by omega) (by omega)]
        exact this
    · intro k h1 h2
      change 2 + 2 * (ext g s).1 ≤ k at h1
      show _ = cpy g.2.2.2 (va_up g.2.1 s (lw (ext g s) (ext g s).1 - z) s) z u.2.2 k
      rw [va_upS, hlw, hlo, updN (by omega), updN (by omega), updN (by omega), hF, show lo + z - z = lo by omega]
      by_cases c : lo ≤ k ∧ k < lo + z
      · rw [cpy_in c, cpy_in (by omega), show 128 * p + k - (128 * p + lo) = k - lo by omega]
      · rw [cpy_out c, cpy_out (by omega), updN (by omega)]
        exact hC.2.2.2 k (by omega) h2
  · intro j hj
    rw [updN (by omega), updN (by omega), updN (by omega), hFo j (by omega) (by omega)]
theorem c_j31 {u : TP × TB} {s z : Nat} (hp : p < 8) (hW : WF g) (hC : CP u.1.1.2 p g) (hs : s ≤ g.1) (h31 : s < 31) (hl : g.2.2.1 s = 0) (hb : u.2.1 = nI z) (h3 : 3 ≤ z) (hz : z ≤ 63) (hr : sm g g.1 + 2 + 2 * (ext g s).1 + z ≤ 128) : ∃ (f : Ar) (b : TB), fX2_putRecord_j31 63 u (nI p) (nI s) = some ((((u.1.1.1.1, u.1.1.1.2.1, u.1.1.1.2.2.1, cc (cf g s z) u.1.1.1.2.2.2), f), b), u.2) ∧ CP f p (wb (pl (pg g s z) s z) s u.2.2 z) ∧ ∀ j, ¬ (128 * p ≤ j ∧ j < 128 * p + 128) → f j = u.1.1.2 j := by
  have h131 := hW.1
  have hle := lw_le g g.1
  have hc := ext_cnt hs
  have hlw := lw_ext hW hs h31
  obtain ⟨n, hn⟩ : ∃ n, n = (ext g s).1 := ⟨_, rfl⟩
  have hn31 : n ≤ 31 := by
    rw [hn, hc]; split <;> omega
  have hsl : (if g.1 < s + 1 then nI (s + 1) else nI g.1) = nI n := by
    rw [hn, hc]
    by_cases c : s < g.1
    · rw [if_neg (by omega), if_pos c]
    · rw [if_pos (by omega), if_neg c]; congr 1; omega
  unfold fX2_putRecord_j31 fX2_gapWith
  rw [c_count hp hC, Option.bind_some]
  simp (disch := omega) only [liN, nI_add, e_lt, hsl, fX4_slotOffset, Option.bind_some, pk_mul]
  rw [c_byteAt (by omega), Option.bind_some, hC.2.1, hb]
  simp (disch := omega) only [Option.bind_some, e_gap]
  by_cases c : z + (2 + 2 * n) ≤ lw g g.1
  · have ecf : cf g s z = false := by
      unfold cf
      rw [hlw, ← hn]
      simp; omega
    rw [if_pos c]
    unfold pg
    rw [ecf]
    obtain ⟨f, h1, h2, h4⟩ := c_j68 (u := u) (lo := lw g g.1 - z) hp hC hn hn31 hs hl hlw hb h3 hz (by omega) (by omega)
    exact ⟨f, u.1.2, h1, h2, h4⟩
  · have ecf : cf g s z = true := by
      unfold cf
      rw [hlw, ← hn]
      simp; omega
    rw [if_neg c]
    unfold pg
    rw [ecf, if_pos rfl]
    obtain ⟨f, b, h1, h2, h4⟩ := c_comp (u := u.1) hp hW hC
    rw [h1, Option.bind_some]
    have hsm : sm g g.1 ≤ 126 := by omega
    have hlc := lw_comp hsm g.1 (Nat.le_refl _)
    have hex : ext (comp g) s = comp (ext g s) := by
      by_cases d : s < g.1
      · rw [ext_id d, ext_id (show s < (comp g).1 from d)]
      · have e : s = g.1 := by omega
        rw [comp_ext hW e h31, ext_new (show s = (comp g).1 from e)]; rfl
    have hcW := comp_WF hW.q hW.2.2.1
    obtain ⟨f2, k1, k2, k3⟩ := c_j68 (g := comp g) (u := (((((u.1.1.1.1, u.1.1.1.2.1, u.1.1.1.2.2.1, u.1.1.1.2.2.2 + 1), f) : TS), b), u.2)) (s := s) (n := n) (z := z) (lo := 128 - sm g g.1 - z) hp h2 (by rw [hex, hn]; rfl) hn31 hs hl (lw_ext hcW hs h31) hb h3 hz (by show lw (comp g) g.1 = _; rw [hlc]; omega) (by omega)
    refine ⟨f2, b, k1, ?_, ?_⟩
    · rw [← hex]; exact k2
    · intro j hj
      rw [k3 j hj]; exact h4 j hj
theorem c_put {u : TP × TB} {s z : Nat} (hp : p < 8) (hW : WF g) (hC : CP u.1.1.2 p g) (hs : s ≤ g.1) (h31 : s < 31) (hb : u.2.1 = nI z) (h3 : 3 ≤ z) (hz : z ≤ 63) (hr : sm (wipe g s) g.1 + 2 + 2 * (ext g s).1 + z ≤ 128) : ∃ (f : Ar) (b : TB), fX2_putRecord 63 u (nI (100 * p + s)) = some ((((u.1.1.1.1, u.1.1.1.2.1, u.1.1.1.2.2.1, cc (cf (wipe g s) s z) u.1.1.1.2.2.2), f), b), u.2) ∧ CP f p (put g s z u.2.2) ∧ ∀ j, ¬ (128 * p ≤ j ∧ j < 128 * p + 128) → f j = u.1.1.2 j := by
  have h131 := hW.1
  unfold fX2_putRecord
  rw [c_page (by omega) (by omega), Option.bind_some, c_slot (by omega) (by omega), Option.bind_some, c_count hp hC, Option.bind_some]
  simp (disch := omega) only [e_le]
  by_cases c : s < g.1
  · rw [if_neg (by omega)]
    obtain ⟨f, h1, h2, h4⟩ := c_erase (u := u.1) hp hW hC c
    rw [h1, Option.bind_some]
    obtain ⟨f2, b, k1, k2, k3⟩ := c_j31 (g := wipe g s) (u := ((((u.1.1.1, f) : TS), u.1.2), u.2)) (s := s) (z := z) hp (wipe_WF hW c) h2 hs h31 va_upS hb h3 hz hr
    exact ⟨f2, b, k1, k2, fun j hj => by rw [k3 j hj]; exact h4 j hj⟩
  · rw [if_pos (by omega)]
    have q := hW.2.2.1 s (by omega) h31
    have hw := wipe_id q.1 q.2
    unfold put
    rw [hw] at hr ⊢
    exact c_j31 hp hW hC hs h31 q.1 hb h3 hz hr
end MP

