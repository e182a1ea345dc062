def ext (g : PG) (s : Nat) : PG := (if s < g.1 then g.1 else s + 1, g.2)
def cf (g : PG) (s z : Nat) : Bool := decide (¬ 2 + 2 * (ext g s).1 + z ≤ lw (ext g s) (ext g s).1)
def pg (g : PG) (s z : Nat) : PG := if cf g s z then comp (ext g s) else ext g s
def pl (h : PG) (s z : Nat) : PG := (h.1, va_up h.2.1 s (lw h h.1 - z), va_up h.2.2.1 s z, h.2.2.2)
def wb (g : PG) (s : Nat) (b : Nat → Int32) (n : Nat) : PG := (g.1, g.2.1, g.2.2.1, cpy g.2.2.2 (g.2.1 s) n b)
def put (g : PG) (s z : Nat) (b : Nat → Int32) : PG := wb (pl (pg (wipe g s) s z) s z) s b z
def cc (b : Bool) (x : Int32) : Int32 := if b then x + 1 else x
theorem ext_id {g : PG} {s : Nat} (h : s < g.1) : ext g s = g := by
  unfold ext
  rw [if_pos h]
theorem ext_new {g : PG} {s : Nat} (h : s = g.1) : ext g s = (g.1 + 1, g.2) := by
  unfold ext
  rw [if_neg (by omega), h]
theorem wipe_id {g : PG} {s : Nat} (h1 : g.2.2.1 s = 0) (h2 : g.2.1 s = 0) : wipe g s = g := by
  have e1 : va_up g.2.1 s 0 = g.2.1 := by
    funext t
    by_cases c : t = s
    · rw [c, va_upS, h2]
    · rw [va_upN c]
  have e2 : va_up g.2.2.1 s 0 = g.2.2.1 := by
    funext t
    by_cases c : t = s
    · rw [c, va_upS, h1]
    · rw [va_upN c]
  unfold wipe
  rw [e1, e2, h1, zf_0]
theorem cdat_eq {g h : PG} (e : g.2 = h.2) : ∀ n, cdat g n = cdat h n
  | 0 => rfl
  | n + 1 => by
    have e1 : ∀ m, sm g m = sm h m := fun m => sm_eq (g := g) (h := h) (by rw [e]) m
    rw [cdat_s, cdat_s, cdat_eq e n, e1, e1, e]
theorem comp_ext {g : PG} {s : Nat} (hW : WF g) (hs : s = g.1) (h31 : s < 31) : comp (ext g s) = (g.1 + 1, (comp g).2) := by
  have h3 := hW.2.2.1 s (by omega) h31
  rw [ext_new hs]
  have hsm : sm g (g.1 + 1) = sm g g.1 := by rw [sm_s, ← hs, h3.1]; rfl
  have e1 : (fun t => if t < g.1 + 1 then cof (g.1 + 1, g.2) t else g.2.1 t) = (fun t => if t < g.1 then cof g t else g.2.1 t) := by
    funext t
    have ec : cof (g.1 + 1, g.2) t = cof g t := by
      unfold cof
      rw [sm_eq (g := (g.1 + 1, g.2)) (h := g) rfl]
    by_cases c : t < g.1
    · rw [if_pos c, if_pos (by omega), ec]
    · by_cases d : t = g.1
      · rw [if_neg c, if_pos (by omega), ec]
        unfold cof
        rw [d, ← hs, if_pos h3.1, h3.2]
      · rw [if_neg c, if_neg (by omega)]
  have e2 : cdat (g.1 + 1, g.2) (g.1 + 1) = cdat g g.1 := by
    rw [cdat_eq (g := (g.1 + 1, g.2)) (h := g) rfl, cdat_s, hsm]
    funext k
    show (if _ then _ else _) = _
    rw [if_neg (by omega)]
  unfold comp
  show (g.1 + 1, (fun t => if t < g.1 + 1 then cof (g.1 + 1, g.2) t else g.2.1 t), g.2.2.1, cdat (g.1 + 1, g.2) (g.1 + 1)) = _
  rw [e1, e2]
theorem lw_eq2 {g h : PG} (e : g.2 = h.2) (n : Nat) : lw g n = lw h n := lw_cong n (fun s _ => by rw [e]; exact ⟨rfl, rfl⟩)
theorem lw_ext {g : PG} {s : Nat} (hW : WF g) (hs : s ≤ g.1) (h31 : s < 31) : lw (ext g s) (ext g s).1 = lw g g.1 := by
  by_cases c : s < g.1
  · rw [ext_id c]
  · have h3 := hW.2.2.1 s (by omega) h31
    have e : s = g.1 := by omega
    rw [ext_new e, lw_eq2 (g := (g.1 + 1, g.2)) (h := g) rfl]
    show lw g (g.1 + 1) = _
    rw [lw_s, ← e, h3.1, if_neg (by omega)]
theorem sm_ext {g : PG} {s : Nat} (hW : WF g) (hs : s ≤ g.1) (h31 : s < 31) : sm (ext g s) (ext g s).1 = sm g g.1 := by
  by_cases c : s < g.1
  · rw [ext_id c]
  · have h3 := hW.2.2.1 s (by omega) h31
    have e : s = g.1 := by omega
    rw [ext_new e, sm_eq (g := (g.1 + 1, g.2)) (h := g) rfl]
    show sm g (g.1 + 1) = _
    rw [sm_s, ← e, h3.1]; rfl
theorem ext_WQ {g : PG} {s : Nat} (hW : WF g) (hs : s ≤ g.1) (h31 : s < 31) (hr : sm g g.1 + 2 + 2 * (ext g s).1 ≤ 128) : WQ (ext g s) := by
  by_cases c : s < g.1
  · rw [ext_id c]; exact hW.q
  · have h3 := hW.2.2.1 s (by omega) h31
    have e : s = g.1 := by omega
    have e1 : (ext g s).1 = g.1 + 1 := by rw [ext_new e]
    refine ⟨by omega, ?_, by rw [sm_ext hW hs h31]; exact hr⟩
    intro t ht
    show (g.2.2.1 t = 0 ∧ g.2.1 t = 0) ∨ (3 ≤ g.2.2.1 t ∧ g.2.1 t + g.2.2.1 t ≤ 128)
    by_cases d : t < g.1
    · rcases hW.2.1 t d with q | q <;> omega
    · rw [show t = s by omega]; exact Or.inl h3
theorem ext_cnt {g : PG} {s : Nat} (hs : s ≤ g.1) : (ext g s).1 = if s < g.1 then g.1 else g.1 + 1 := by
  unfold ext
  by_cases c : s < g.1
  · rw [if_pos c, if_pos c]
  · rw [if_neg c, if_neg c]; show s + 1 = g.1 + 1; omega
theorem ext_h3 {g : PG} {s : Nat} (hW : WF g) (hs : s ≤ g.1) : ∀ t, (ext g s).1 ≤ t → t < 31 → (ext g s).2.2.1 t = 0 ∧ (ext g s).2.1 t = 0 := by
  intro t h1 h2
  have := ext_cnt hs
  refine hW.2.2.1 t ?_ h2
  by_cases c : s < g.1
  · rw [if_pos c] at this; omega
  · rw [if_neg c] at this; omega
theorem pg_ok {g : PG} {s z : Nat} (hW : WF g) (hs : s ≤ g.1) (h31 : s < 31) (hz : 0 < z) (hr : sm g g.1 + 2 + 2 * (ext g s).1 + z ≤ 128) : WF (pg g s z) ∧ (pg g s z).1 = (ext g s).1 ∧ 2 + 2 * (ext g s).1 + z ≤ lw (pg g s z) (pg g s z).1 ∧ (∀ t, (pg g s z).2.2.1 t = g.2.2.1 t) ∧ (g.2.2.1 s = 0 → g.2.1 s = 0 → (pg g s z).2.1 s = 0) := by
  have hQ := ext_WQ hW hs h31 (by omega)
  have hc := ext_cnt hs
  unfold pg cf
  by_cases c : 2 + 2 * (ext g s).1 + z ≤ lw (ext g s) (ext g s).1
  · rw [if_neg (by simpa using c)]
    refine ⟨⟨hQ.1, ?_, ext_h3 hW hs, ?_, ?_, hQ.2.2⟩, rfl, c, fun _ => rfl, fun _ h => h⟩
    · intro t ht
      rcases hQ.2.1 t ht with q | q
      · exact Or.inl q
      · have := lw_low (ext g s) _ t ht (by omega)
        exact Or.inr ⟨q.1, by omega, q.2⟩
    · intro a b ha hb hab la lb
      have ha' : a < g.1 := by
        refine Nat.lt_of_not_le fun q => ?_
        have := (hW.2.2.1 a q (by have := hQ.1; omega)).1
        have e : (ext g s).2.2.1 a = g.2.2.1 a := rfl
        omega
      have hb' : b < g.1 := by
        refine Nat.lt_of_not_le fun q => ?_
        have := (hW.2.2.1 b q (by have := hQ.1; omega)).1
        have e : (ext g s).2.2.1 b = g.2.2.1 b := rfl
        omega
      exact hW.2.2.2.1 a b ha' hb' hab la lb
    · intro k hk hn
      refine hW.2.2.2.2.1 k hk (fun t ht => hn t ?_)
      rw [hc]
      split <;> omega
  · rw [if_pos (by simpa using c)]
    refine ⟨comp_WF hQ (ext_h3 hW hs), rfl, ?_, fun _ => rfl, ?_⟩
    · show _ ≤ lw (comp (ext g s)) (ext g s).1
      have hsm : sm (ext g s) (ext g s).1 ≤ 126 := by have := hQ.2.2; omega
      rw [lw_comp hsm (ext g s).1 (Nat.le_refl _), sm_ext hW hs h31]
      omega
    · intro e1 e2
      show (if s < (ext g s).1 then cof (ext g s) s else g.2.1 s) = 0
      unfold cof
      have e3 : (ext g s).2.2.1 s = 0 := e1
      rw [if_pos e3, e2]
      split <;> rfl
theorem sm_pl {h : PG} {s z : Nat} (hl : h.2.2.1 s = 0) : ∀ n, sm (pl h s z) n = sm h n + (if s < n then z else 0)
  | 0 => rfl
  | n + 1 => by
    rw [sm_s, sm_s, sm_pl hl n]
    have e : (pl h s z).2.2.1 n = va_up h.2.2.1 s z n := rfl
    rw [e]
    by_cases c : n = s
    · rw [c, va_upS, if_neg (by omega), if_pos (by omega), hl]
    · rw [va_upN c]
      by_cases d : s < n
      · rw [if_pos d, if_pos (by omega)]; omega
      · rw [if_neg d, if_neg (by omega)]; omega
theorem lw_anti (g : PG) : ∀ (m n : Nat), m ≤ n → lw g n ≤ lw g m := by
  intro m n h
  induction n with
  | zero => rw [show m = 0 by omega]; exact Nat.le_refl _
  | succ n ih =>
    by_cases c : m = n + 1
    · rw [c]; exact Nat.le_refl _
    · have := ih (by omega)
      rw [lw_s]
      split <;> omega
theorem lw_pl {h : PG} {s z : Nat} (hz : 0 < z) (hlo : z ≤ lw h h.1) (hl : h.2.2.1 s = 0) (hs : s < h.1) : ∀ n, n ≤ h.1 → lw (pl h s z) n = if s < n then lw h h.1 - z else lw h n
  | 0, _ => rfl
  | n + 1, hn => by
    have ih := lw_pl hz hlo hl hs n (by omega)
    have ha := lw_anti h n h.1 (by omega)
    rw [lw_s, ih]
    have e1 : (pl h s z).2.2.1 n = va_up h.2.2.1 s z n := rfl
    have e2 : (pl h s z).2.1 n = va_up h.2.1 s (lw h h.1 - z) n := rfl
    rw [e1, e2]
    by_cases c : n = s
    · subst c
      rw [va_upS, va_upS]
      simp only [if_neg (Nat.lt_irrefl n), if_pos (show n < n + 1 by omega), if_pos (show 0 < z ∧ lw h h.1 - z < lw h n by omega)]
    · rw [va_upN c, va_upN c]
      by_cases d : s < n
      · simp only [if_pos d, if_pos (show s < n + 1 by omega)]
        by_cases e : 0 < h.2.2.1 n
        · have := lw_low h h.1 n (by omega) e
          rw [if_neg (by omega)]
        · rw [if_neg (by omega)]
      · simp only [if_neg d, if_neg (show ¬ s < n + 1 by omega)]
        rw [lw_s]
theorem pl_WF {h : PG} {s z : Nat} (hW : WF h) (hs : s < h.1) (h3 : 3 ≤ z) (hl : h.2.2.1 s = 0) (hlo : 2 + 2 * h.1 + z ≤ lw h h.1) (hr : sm h h.1 + 2 + 2 * h.1 + z ≤ 128) : WF (pl h s z) := by
  obtain ⟨w1, w2, w3, w4, w5, w6⟩ := hW
  have hle := lw_le h h.1
  have eo : ∀ t, (pl h s z).2.1 t = va_up h.2.1 s (lw h h.1 - z) t := fun _ => rfl
  have el : ∀ t, (pl h s z).2.2.1 t = va_up h.2.2.1 s z t := fun _ => rfl
  refine ⟨w1, ?_, ?_, ?_, ?_, ?_⟩
  · intro t ht
    rw [eo, el]
    by_cases c : t = s
    · rw [c, va_upS, va_upS]
      exact Or.inr ⟨h3, by show 2 + 2 * h.1 ≤ _; omega, by omega⟩
    · rw [va_upN c, va_upN c]; exact w2 t ht
  · intro t ht h31
    have ht' : h.1 ≤ t := ht
    rw [eo, el, va_upN (by omega), va_upN (by omega)]
    exact w3 t ht h31
  · intro a b ha hb hab la lb
    rw [el] at la lb
    rw [eo, eo, el, el]
    by_cases ca : a = s
    · have cb : b ≠ s := by omega
      rw [va_upN cb] at lb
      rw [ca, va_upS, va_upS, va_upN cb, va_upN cb]
      have := lw_low h h.1 b hb lb
      omega
    · rw [va_upN ca] at la
      by_cases cb : b = s
      · rw [cb, va_upS, va_upS, va_upN ca, va_upN ca]
        have := lw_low h h.1 a ha la
        omega
      · rw [va_upN cb] at lb
        rw [va_upN ca, va_upN ca, va_upN cb, va_upN cb]
        exact w4 a b ha hb hab la lb
  · intro k hk hn
    refine w5 k hk (fun t ht q => ?_)
    by_cases c : t = s
    · rw [c, hl] at q; omega
    · have := hn t ht
      rw [eo, el, va_upN c, va_upN c] at this
      exact this q
  · show sm (pl h s z) h.1 + 2 + 2 * h.1 ≤ 128
    rw [sm_pl hl, if_pos hs]
    omega
theorem wb_WF {g : PG} {s n : Nat} {b : Nat → Int32} (hW : WF g) (hs : s < g.1) (hn : n ≤ g.2.2.1 s) : WF (wb g s b n) := by
  obtain ⟨w1, w2, w3, w4, w5, w6⟩ := hW
  refine ⟨w1, w2, w3, w4, ?_, ?_⟩
  · intro k hk hq
    show cpy g.2.2.2 (g.2.1 s) n b k = 0
    have := hq s hs
    change ¬ (g.2.1 s ≤ k ∧ k < g.2.1 s + g.2.2.1 s) at this
    rw [cpy_out (by omega)]
    exact w5 k hk hq
  · rw [sm_eq (g := wb g s b n) (h := g) rfl]; exact w6

