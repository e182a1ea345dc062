section MP
variable {p : Nat} {g : PG}
theorem c_j68 {u : TP × TB} {s n z lo : Nat} (hp : p < 8) (hC : CP u.1.1.2 p g) (hn : n = (ext g s).1) (hn31 : n ≤ 31) (hs : s ≤ g.1) (hl : g.2.2.1 s = 0) (hlw : lw (ext g s) (ext g s).1 = lw g g.1) (hb : u.2.1 = nI z) (h3 : 3 ≤ z) (hz : z ≤ 63) (hlo : lw g g.1 = lo + z) (hfit : 2 + 2 * n ≤ lo) : ∃ f : Ar, fX2_putRecord_j68 63 u (nI p) (nI s) (nI n) = some (((u.1.1.1, f), u.1.2), u.2) ∧ CP f p (wb (pl (ext g s) s z) s u.2.2 z) ∧ ∀ j, ¬ (128 * p ≤ j ∧ j < 128 * p + 128) → f j = u.1.1.2 j := by
  have hle := lw_le g g.1
  have hc := ext_cnt hs
  have hsn : s < n := by
    rw [hn, hc]; split <;> omega
  have hgn : g.1 ≤ n := by
    rw [hn, hc]; split <;> omega
  have hng : n ≤ g.1 + 1 := by
    rw [hn, hc]; split <;> omega
  have hns : ∀ t, t < n → t ≠ s → t < g.1 := by
    intro t h1 h2
    by_cases c : s < g.1
    · rw [if_pos c] at hc; omega
    · rw [if_neg c] at hc; omega
  obtain ⟨F, hF⟩ : ∃ F : Ar, F = cpy (upd u.1.1.2 (128 * p) (nI n)) (128 * p + lo) z u.2.2 := ⟨_, rfl⟩
  have hFo : ∀ j, j ≠ 128 * p → ¬ (128 * p + lo ≤ j ∧ j < 128 * p + lo + z) → F j = u.1.1.2 j := by
    intro j h1 h2
    rw [hF, cpy_out h2, updN h1]
  refine ⟨upd (upd (upd F (128 * p + (2 + 2 * s)) (nI lo)) (128 * p + (2 + 2 * s + 1)) (nI z)) (128 * p + 1) (nI lo), ?_, ?_, ?_⟩
  · unfold fX2_putRecord_j68
    simp (disch := omega) only [liN, c_setByte, Option.bind_some, c_byteAt, Nat.add_zero]
    rw [updN (by omega), hC.2.1, hb, hlo, e_sub (by omega), show lo + z - z = lo by omega]
    rw [itr0 (step := fun a : (TP × TB) × Int32 × Int32 × Int32 × Int32 => fX2_putRecord_s98 63 a.1 a.2.1 a.2.2.1 a.2.2.2.1 a.2.2.2.2) (fun i => ((((u.1.1.1, cpy (upd u.1.1.2 (128 * p) (nI n)) (128 * p + lo) i u.2.2), u.1.2), u.2), nI p, nI s, nI lo, nI i)) ((((u.1.1.1, F), u.1.2), u.2), nI p, nI s, nI lo) z ?a1 ?a2 ?a3 (by omega), Option.bind_some]
    case a1 => rw [cpy_0]
    case a2 =>
      intro j hj
      show fX2_putRecord_s98 63 (((u.1.1.1, cpy (upd u.1.1.2 (128 * p) (nI n)) (128 * p + lo) j u.2.2), u.1.2), u.2) _ _ _ _ = some (.inl ((((u.1.1.1, cpy (upd u.1.1.2 (128 * p) (nI n)) (128 * p + lo) (j + 1) u.2.2), u.1.2), u.2), _))
      unfold fX2_putRecord_s98
      rw [at_ok hb hj (by omega) (by omega)]
      simp (disch := omega) only [liN, hb, e_le, if_neg (show ¬ z ≤ j by omega), nI_add, c_setByte, Option.bind_some]
      rw [← cpy_s, Nat.add_assoc]
    case a3 =>
      show fX2_putRecord_s98 63 _ _ _ _ _ = _
      unfold fX2_putRecord_s98
      rw [hF]
      simp (disch := omega) only [hb, e_le, Nat.le_refl, if_true]
    simp (disch := omega) only [fX4_slotOffset, Option.bind_some, liN, pk_mul, nI_add, c_setByte, hb]
  · refine ⟨?_, ?_, ?_, ?_⟩
    · show _ = nI (ext g s).1
      rw [updN (by omega), updN (by omega), updN (by omega), hF, cpy_out (by omega), updS, hn]
    · rw [updS]
      show _ = nI (lw (wb (pl (ext g s) s z) s u.2.2 z) (ext g s).1)
      rw [lw_cong (g := wb (pl (ext g s) s z) s u.2.2 z) (h := pl (ext g s) s z) _ (fun _ _ => ⟨rfl, rfl⟩), lw_pl (h := ext g s) (by omega) (by omega) hl (by omega) _ (Nat.le_refl _), if_pos (by omega), hlw, hlo]
      congr 1; omega
    · intro t ht
      change t < (ext g s).1 at ht
      show _ = nI (va_up g.2.1 s (lw (ext g s) (ext g s).1 - z) t) ∧ _ = nI (va_up g.2.2.1 s z t)
      by_cases c : t = s
      · subst c
        rw [va_upS, va_upS, hlw, hlo]
        rw [updN (by omega), updN (by omega), show 128 * p + 2 + 2 * t = 128 * p + (2 + 2 * t) by omega, updS, updN (by omega), show 128 * p + 3 + 2 * t = 128 * p + (2 + 2 * t + 1) by omega, updS, show lo + z - z = lo by omega]
        exact ⟨rfl, rfl⟩
      · rw [va_upN c, va_upN c]
        have := hC.2.2.1 t (hns t (by omega) c)
        rw [updN (by omega), updN (by omega), updN (by omega), updN (by omega), updN (by omega), updN (by omega), hFo _ (by omega) (by omega), hFo _ (by omega) (by omega)]
        exact this
    · intro k h1 h2
      change 2 + 2 * (ext g s).1 ≤ k at h1
      show _ = cpy g.2.2.2 (va_up g.2.1 s (lw (ext g s) (ext g s).1 - z) s) z u.2.2 k
      rw [va_upS, hlw, hlo, updN (by omega), updN (by omega), updN (by omega), hF, show lo + z - z = lo by omega]
      by_cases c : lo ≤ k ∧ k < lo + z
      · rw [cpy_in c, cpy_in (by omega), show 128 * p + k - (128 * p + lo) = k - lo by omega]
      · rw [cpy_out c, cpy_out (by omega), updN (by omega)]
        exact hC.2.2.2 k (by omega) h2
  · intro j hj
    rw [updN (by omega), updN (by omega), updN (by omega), hFo j (by omega) (by omega)]
theorem c_j31 {u : TP × TB} {s z : Nat} (hp : p < 8) (hW : WF g) (hC : CP u.1.1.2 p g) (hs : s ≤ g.1) (h31 : s < 31) (hl : g.2.2.1 s = 0) (hb : u.2.1 = nI z) (h3 : 3 ≤ z) (hz : z ≤ 63) (hr : sm g g.1 + 2 + 2 * (ext g s).1 + z ≤ 128) : ∃ (f : Ar) (b : TB), fX2_putRecord_j31 63 u (nI p) (nI s) = some ((((u.1.1.1.1, u.1.1.1.2.1, u.1.1.1.2.2.1, cc (cf g s z) u.1.1.1.2.2.2), f), b), u.2) ∧ CP f p (wb (pl (pg g s z) s z) s u.2.2 z) ∧ ∀ j, ¬ (128 * p ≤ j ∧ j < 128 * p + 128) → f j = u.1.1.2 j := by
  have h131 := hW.1
  have hle := lw_le g g.1
  have hc := ext_cnt hs
  have hlw := lw_ext hW hs h31
  obtain ⟨n, hn⟩ : ∃ n, n = (ext g s).1 := ⟨_, rfl⟩
  have hn31 : n ≤ 31 := by
    rw [hn, hc]; split <;> omega
  have hsl : (if g.1 < s + 1 then nI (s + 1) else nI g.1) = nI n := by
    rw [hn, hc]
    by_cases c : s < g.1
    · rw [if_neg (by omega), if_pos c]
    · rw [if_pos (by omega), if_neg c]; congr 1; omega
  unfold fX2_putRecord_j31 fX2_gapWith
  rw [c_count hp hC, Option.bind_some]
  simp (disch := omega) only [liN, nI_add, e_lt, hsl, fX4_slotOffset, Option.bind_some, pk_mul]
  rw [c_byteAt (by omega), Option.bind_some, hC.2.1, hb]
  simp (disch := omega) only [Option.bind_some, e_gap]
  by_cases c : z + (2 + 2 * n) ≤ lw g g.1
  · have ecf : cf g s z = false := by
      unfold cf
      rw [hlw, ← hn]
      simp; omega
    rw [if_pos c]
    unfold pg
    rw [ecf]
    obtain ⟨f, h1, h2, h4⟩ := c_j68 (u := u) (lo := lw g g.1 - z) hp hC hn hn31 hs hl hlw hb h3 hz (by omega) (by omega)
    exact ⟨f, u.1.2, h1, h2, h4⟩
  · have ecf : cf g s z = true := by
      unfold cf
      rw [hlw, ← hn]
      simp; omega
    rw [if_neg c]
    unfold pg
    rw [ecf, if_pos rfl]
    obtain ⟨f, b, h1, h2, h4⟩ := c_comp (u := u.1) hp hW hC
    rw [h1, Option.bind_some]
    have hsm : sm g g.1 ≤ 126 := by omega
    have hlc := lw_comp hsm g.1 (Nat.le_refl _)
    have hex : ext (comp g) s = comp (ext g s) := by
      by_cases d : s < g.1
      · rw [ext_id d, ext_id (show s < (comp g).1 from d)]
      · have e : s = g.1 := by omega
        rw [comp_ext hW e h31, ext_new (show s = (comp g).1 from e)]; rfl
    have hcW := comp_WF hW.q hW.2.2.1
    obtain ⟨f2, k1, k2, k3⟩ := c_j68 (g := comp g) (u := (((((u.1.1.1.1, u.1.1.1.2.1, u.1.1.1.2.2.1, u.1.1.1.2.2.2 + 1), f) : TS), b), u.2)) (s := s) (n := n) (z := z) (lo := 128 - sm g g.1 - z) hp h2 (by rw [hex, hn]; rfl) hn31 hs hl (lw_ext hcW hs h31) hb h3 hz (by show lw (comp g) g.1 = _; rw [hlc]; omega) (by omega)
    refine ⟨f2, b, k1, ?_, ?_⟩
    · rw [← hex]; exact k2
    · intro j hj
      rw [k3 j hj]; exact h4 j hj
theorem c_put {u : TP × TB} {s z : Nat} (hp : p < 8) (hW : WF g) (hC : CP u.1.1.2 p g) (hs : s ≤ g.1) (h31 : s < 31) (hb : u.2.1 = nI z) (h3 : 3 ≤ z) (hz : z ≤ 63) (hr : sm (wipe g s) g.1 + 2 + 2 * (ext g s).1 + z ≤ 128) : ∃ (f : Ar) (b : TB), fX2_putRecord 63 u (nI (100 * p + s)) = some ((((u.1.1.1.1, u.1.1.1.2.1, u.1.1.1.2.2.1, cc (cf (wipe g s) s z) u.1.1.1.2.2.2), f), b), u.2) ∧ CP f p (put g s z u.2.2) ∧ ∀ j, ¬ (128 * p ≤ j ∧ j < 128 * p + 128) → f j = u.1.1.2 j := by
  have h131 := hW.1
  unfold fX2_putRecord
  rw [c_page (by omega) (by omega), Option.bind_some, c_slot (by omega) (by omega), Option.bind_some, c_count hp hC, Option.bind_some]
  simp (disch := omega) only [e_le]
  by_cases c : s < g.1
  · rw [if_neg (by omega)]
    obtain ⟨f, h1, h2, h4⟩ := c_erase (u := u.1) hp hW hC c
    rw [h1, Option.bind_some]
    obtain ⟨f2, b, k1, k2, k3⟩ := c_j31 (g := wipe g s) (u := ((((u.1.1.1, f) : TS), u.1.2), u.2)) (s := s) (z := z) hp (wipe_WF hW c) h2 hs h31 va_upS hb h3 hz hr
    exact ⟨f2, b, k1, k2, fun j hj => by rw [k3 j hj]; exact h4 j hj⟩
  · rw [if_pos (by omega)]
    have q := hW.2.2.1 s (by omega) h31
    have hw := wipe_id q.1 q.2
    unfold put
    rw [hw] at hr ⊢
    exact c_j31 hp hW hC hs h31 q.1 hb h3 hz hr
theorem m_j15 {u : TM} {s z : Nat} (hp : p < 8) (hW : WF g) (hR : RP u.2.1 p g) (hs : s < g.1) (hz : z ≤ lw g g.1) : ∃ f : Ar, fX5_puts_j15 u (nI p) (nI s) (nI z) = some (u.1, f, u.2.2) ∧ RP f p (pl g s z) ∧ ∀ j, ¬ (4 + 191 * p ≤ j ∧ j < 4 + 191 * p + 191) → f j = u.2.1 j := by
  have h31 := hW.1
  have hle := lw_le g g.1
  unfold fX5_puts_j15
  rw [m_lowest hp hW.q hR, Option.bind_some]
  simp (disch := omega) only [liN, nI_add, e_sub, m_lay, Option.bind_some]
  refine ⟨_, rfl, ⟨?_, ?_, ?_⟩, ?_⟩
  · rw [updN (by omega), updN (by omega), hR.1]; rfl
  · intro t ht
    show _ = nI (va_up g.2.1 s (lw g g.1 - z) t) ∧ _ = nI (va_up g.2.2.1 s z t)
    by_cases c : t = s
    · subst c
      rw [va_upS, va_upS, updN (by omega), updS, updS]
      exact ⟨rfl, rfl⟩
    · rw [va_upN c, va_upN c, updN (by omega), updN (by omega), updN (by omega), updN (by omega)]
      exact hR.2.1 t ht
  · intro k hk
    rw [updN (by omega), updN (by omega)]
    exact hR.2.2 k hk
  · intro j hj
    rw [updN (by omega), updN (by omega)]
theorem m_puts {u : TM} {s z : Nat} (hp : p < 8) (hW : WF g) (hR : RP u.2.1 p (ext g s)) (hs : s ≤ g.1) (h31 : s < 31) (h3 : 0 < z) (hr : sm g g.1 + 2 + 2 * (ext g s).1 + z ≤ 128) : ∃ (f m : Ar), fX5_puts u (nI p) (nI s) (nI z) = some (u.1, f, u.2.2.1, u.2.2.2.1, m) ∧ RP f p (pl (pg g s z) s z) ∧ f 3 = cc (cf g s z) (u.2.1 3) ∧ ∀ j, j ≠ 3 → ¬ (4 + 191 * p ≤ j ∧ j < 4 + 191 * p + 191) → f j = u.2.1 j := by
  have hQ := ext_WQ hW hs h31 (by omega)
  have hle := lw_le (ext g s) (ext g s).1
  have hlw := lw_ext hW hs h31
  have hge := lw_ge hW g.1 (Nat.le_refl _)
  have hq31 := hQ.1
  obtain ⟨k1, k2, k3, k4, k5⟩ := pg_ok hW hs h31 h3 hr
  have hsn : s < (ext g s).1 := by rw [ext_cnt hs]; split <;> omega
  unfold fX5_puts fX5_gapOf
  rw [m_lowest hp hQ hR, Option.bind_some]
  simp only [liN]
  rw [m_cnt hp hR, Option.bind_some]
  simp (disch := omega) only [pk_mul, e_sub, Option.bind_some, e_gap]
  by_cases c : z + 2 * (ext g s).1 ≤ lw (ext g s) (ext g s).1 - 2
  · have ecf : cf g s z = false := by
      unfold cf
      simp; omega
    rw [if_pos c]
    have epg : pg g s z = ext g s := by unfold pg; rw [ecf]; rfl
    rw [epg] at k1 ⊢
    obtain ⟨f, q1, q2, q3⟩ := m_j15 (u := u) (z := z) hp k1 hR hsn (by omega)
    exact ⟨f, u.2.2.2.2, q1, q2, by rw [ecf, q3 3 (by omega)]; rfl, fun j _ hj => q3 j hj⟩
  · have ecf : cf g s z = true := by
      unfold cf
      simp; omega
    rw [if_neg c]
    have epg : pg g s z = comp (ext g s) := by unfold pg; rw [ecf]; rfl
    rw [epg] at k1 k3 ⊢
    obtain ⟨f, m, q1, q2, q3, q4⟩ := m_comp (u := u) hp hQ hR
    rw [q1, Option.bind_some]
    obtain ⟨f2, r1, r2, r3⟩ := m_j15 (u := (u.1, f, u.2.2.1, u.2.2.2.1, m)) (z := z) hp k1 q2 hsn (by omega)
    exact ⟨f2, m, r1, r2, by rw [ecf, r3 3 (by omega)]; exact q3, fun j h3 hj => by rw [r3 j hj]; exact q4 j h3 hj⟩
theorem m_stores {u : TM} {z : Nat} (hp : p < 8) (hW : WF g) (hR : RP u.2.1 p g) (h3 : 0 < z) (hr : room g z = true) : ∃ (f m : Ar), fX5_stores u (nI p) (nI z) = some (nI (fe g), u.1, f, u.2.2.1, u.2.2.2.1, m) ∧ RP f p (pl (pg g (fe g) z) (fe g) z) ∧ f 3 = cc (cf g (fe g) z) (u.2.1 3) ∧ ∀ j, j ≠ 3 → ¬ (4 + 191 * p ≤ j ∧ j < 4 + 191 * p + 191) → f j = u.2.1 j := by
  have h31 := hW.1
  have hle := fe_le g
  have hsm := hW.2.2.2.2.2
  unfold fX5_stores fX5_stores_j27
  rw [m_emptySlot hp hW hR, Option.bind_some]
  simp only [m1d]
  unfold room fr at hr
  by_cases c : fe g < g.1
  · rw [if_pos c] at hr
    simp only [decide_eq_true_eq] at hr
    simp (disch := omega) only [if_pos c, nI_neM1, if_false]
    obtain ⟨f, m, q1, q2, q3, q4⟩ := m_puts (u := u) (s := fe g) hp hW (by rw [ext_id c]; exact hR) hle (by omega) h3 (by rw [ext_id c]; omega)
    rw [q1, Option.bind_some]
    exact ⟨f, m, rfl, q2, q3, q4⟩
  · have e : fe g = g.1 := by omega
    rw [if_neg c] at hr
    simp only [decide_eq_true_eq] at hr
    simp (disch := omega) only [if_neg c, if_true, liN, m_cnt hp hR, Option.bind_some, nI_add, m_lay, Nat.add_zero]
    have hRx : RP (upd u.2.1 (4 + 191 * p) (nI (g.1 + 1))) p (ext g (fe g)) := by
      rw [ext_new e]
      refine ⟨updS, fun t ht => ?_, fun k hk => ?_⟩
      · rw [updN (by omega), updN (by omega)]; exact hR.2.1 t ht
      · rw [updN (by omega)]; exact hR.2.2 k hk
    obtain ⟨f, m, q1, q2, q3, q4⟩ := m_puts (u := (u.1, upd u.2.1 (4 + 191 * p) (nI (g.1 + 1)), u.2.2)) (s := fe g) hp hW hRx hle (by omega) h3 (by rw [ext_new e]; show _ + 2 * (g.1 + 1) + _ ≤ _; omega)
    rw [e] at q1
    rw [q1, Option.bind_some]
    refine ⟨f, m, by rw [e], q2, ?_, ?_⟩
    · rw [q3]
      show cc _ (upd _ _ _ 3) = _
      rw [updN (by omega)]
    · intro j h3 hj
      rw [q4 j h3 hj]
      exact updN (by omega)
theorem m_replaces {u : TM} {s z : Nat} (hp : p < 8) (hW : WF g) (hR : RP u.2.1 p g) (hs : s < g.1) (h3 : 0 < z) (hr : sm (wipe g s) g.1 + 2 + 2 * g.1 + z ≤ 128) : ∃ (f m : Ar), fX5_replaces u (nI p) (nI s) (nI z) = some (u.1, f, u.2.2.1, u.2.2.2.1, m) ∧ RP f p (pl (pg (wipe g s) s z) s z) ∧ f 3 = cc (cf (wipe g s) s z) (u.2.1 3) ∧ ∀ j, j ≠ 3 → ¬ (4 + 191 * p ≤ j ∧ j < 4 + 191 * p + 191) → f j = u.2.1 j := by
  have h31 := hW.1
  have hw1 : (wipe g s).1 = g.1 := rfl
  unfold fX5_replaces
  obtain ⟨f, k1, k2, k3⟩ := m_wipes hp hW hR hs
  rw [k1, Option.bind_some]
  have ex : ext (wipe g s) s = wipe g s := ext_id hs
  obtain ⟨f2, m, q1, q2, q3, q4⟩ := m_puts (g := wipe g s) (u := (u.1, f, u.2.2)) (s := s) (z := z) hp (wipe_WF hW hs) (by rw [ex]; exact k2) (Nat.le_of_lt hs) (by omega) h3 (by rw [ex, hw1]; omega)
  rw [q1]
  refine ⟨f2, m, rfl, q2, ?_, ?_⟩
  · rw [q3]
    show cc _ (f 3) = _
    rw [k3 3 (by omega)]
  · intro j h3 hj
    rw [q4 j h3 hj]
    exact k3 j hj
end MP
