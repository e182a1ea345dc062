theorem ct_zero {P : Nat → Bool} : ∀ n, (∀ x, x < n → P x = false) → ct P n = 0
  | 0, _ => rfl
  | n + 1, h => by
    show ct P n + (if P n then 1 else 0) = 0
    rw [ct_zero n (fun x hx => h x (by omega)), h n (by omega)]
    rfl
theorem put_cnt2 (g : PG) (s z : Nat) (b : Nat → Int32) : (put g s z b).1 = (ext g s).1 := by
  show (pg (wipe g s) s z).1 = _
  unfold pg
  split <;> rfl
theorem put_len (g : PG) (s z : Nat) (b : Nat → Int32) : (put g s z b).2.2.1 = va_up (va_up g.2.2.1 s 0) s z := by
  show va_up (pg (wipe g s) s z).2.2.1 s z = _
  unfold pg
  split <;> rfl
theorem sm_upd {g h : PG} {s z : Nat} (h1 : ∀ t, t ≠ s → h.2.2.1 t = g.2.2.1 t) (h2 : h.2.2.1 s = z) (h3 : g.2.2.1 s = 0) : ∀ n, sm h n = sm g n + (if s < n then z else 0)
  | 0 => rfl
  | n + 1 => by
    have ih := sm_upd h1 h2 h3 n
    show sm h n + h.2.2.1 n = sm g n + g.2.2.1 n + (if s < n + 1 then z else 0)
    by_cases c : n = s
    · subst c
      rw [ih, h2, h3, if_neg (Nat.lt_irrefl n), if_pos (Nat.lt_succ_self n)]
    · rw [ih, h1 n c]
      by_cases d : s < n
      · rw [if_pos d, if_pos (show s < n + 1 by omega)]; omega
      · rw [if_neg d, if_neg (show ¬ s < n + 1 by omega)]; omega
theorem Cap_pred1 {e t z f j : Nat} (he : 1 ≤ e) (hz : z ≤ f) (h : Cap e t z f (j + 1)) : Cap (e - 1) (t - 1) z (f - z) j := by
  obtain ⟨h1, h2, h3⟩ := h
  have e1 : nd e z (j + 1) = nd (e - 1) z j + z := by
    unfold nd
    rw [Nat.succ_mul]
    omega
  have e2 : nd e z (j + 1 + 1) = nd (e - 1) z (j + 1) + z := by
    unfold nd
    rw [Nat.succ_mul (j + 1)]
    omega
  refine ⟨by omega, by omega, ?_⟩
  rcases h3 with q | q
  · exact Or.inl (by omega)
  · exact Or.inr (by omega)
theorem Cap_pred2 {t z f j : Nat} (hz : z + 2 ≤ f) (h : Cap 0 t z f (j + 1)) : Cap 0 (t - 1) z (f - z - 2) j := by
  obtain ⟨h1, h2, h3⟩ := h
  have e1 : nd 0 z (j + 1) = nd 0 z j + z + 2 := by
    unfold nd
    rw [Nat.succ_mul]
    omega
  have e2 : nd 0 z (j + 1 + 1) = nd 0 z (j + 1) + z + 2 := by
    unfold nd
    rw [Nat.succ_mul (j + 1)]
    omega
  refine ⟨by omega, by omega, ?_⟩
  rcases h3 with q | q
  · exact Or.inl (by omega)
  · exact Or.inr (by omega)
theorem us_none {g : PG} (h : ¬ fe g < g.1) : us g g.1 = 0 := by
  have e : fe g = g.1 := by have := fe_le g; omega
  rw [us_e g g.1 (Nat.le_refl _)]
  exact ct_zero _ (fun x hx => fst_no (ept g) g.1 x (by rw [show fst (ept g) g.1 = g.1 from e]; exact hx))
theorem us_some {g : PG} (h : fe g < g.1) : 1 ≤ us g g.1 := by
  have hy : g.2.2.1 (fe g) = 0 := by simpa [ept, fe] using fst_yes (ept g) g.1 h
  have h1 := us_yes (g := g) (s := fe g) (Or.inr hy)
  have h2 := us_mono g (show fe g + 1 ≤ g.1 by omega)
  omega
theorem nd_1 {e z : Nat} (h : 1 ≤ e) : nd e z 1 = z := by
  unfold nd
  omega
theorem nd_01 {z : Nat} : nd 0 z 1 = z + 2 := by
  unfold nd
  omega
theorem cpk_zero {g : PG} {z : Nat} (h : room g z = false) : cpk g z = 0 := by
  refine Cap_uniq (cpk_ok g z) ⟨Nat.zero_le _, by unfold nd; omega, ?_⟩
  unfold room at h
  by_cases c : fe g < g.1
  · rw [if_pos c] at h
    have h := of_decide_eq_false h
    have := us_some c
    rw [nd_1 this]
    exact Or.inr (by omega)
  · rw [if_neg c] at h
    have h := of_decide_eq_false h
    rw [us_none c, nd_01]
    omega
theorem cpk_put {g : PG} {z : Nat} {b : Nat → Int32} (hW : WF g) (hz : 0 < z) (hl0 : g.2.2.1 (fe g) = 0) (h : room g z = true) : cpk g z = cpk (put g (fe g) z b) z + 1 := by
  have hle := fe_le g
  have h31 := hW.1
  have hsm := hW.2.2.2.2.2
  have hlen : ∀ t, t ≠ fe g → (put g (fe g) z b).2.2.1 t = g.2.2.1 t := by
    intro t ht
    rw [put_len, va_upN ht, va_upN ht]
  have hlen2 : (put g (fe g) z b).2.2.1 (fe g) = z := by rw [put_len, va_upS]
  have hsum := sm_upd hlen hlen2 hl0
  have hcnt := put_cnt2 g (fe g) z b
  have hk := cpk_ok g z
  unfold room at h
  by_cases c : fe g < g.1
  · rw [if_pos c] at h
    have h := of_decide_eq_true h
    have he := us_some c
    rw [ext_id c] at hcnt
    have hu : us g g.1 = us (put g (fe g) z b) g.1 + 1 := by
      have f := ct_flip (P := usb (put g (fe g) z b)) (Q := usb g) (x0 := fe g) (by
        unfold usb
        rw [hlen2, hcnt]
        exact decide_eq_false (by omega)) (decide_eq_true (Or.inr hl0)) (fun x hx => by
        unfold usb
        rw [hlen x hx, hcnt]) g.1
      rw [if_pos c] at f
      exact f
    have hf : fr (put g (fe g) z b) = fr g - z := by
      unfold fr
      rw [hcnt, hsum, if_pos c]
      omega
    obtain ⟨j, hj⟩ : ∃ j, cpk g z = j + 1 := by
      refine ⟨cpk g z - 1, ?_⟩
      have h0 : cpk g z ≠ 0 := by
        intro w
        rw [w] at hk
        obtain ⟨-, -, q⟩ := hk
        rw [show 0 + 1 = 1 from rfl, nd_1 he] at q
        omega
      omega
    rw [hj] at hk
    have hk2 := Cap_pred1 he h hk
    have hk3 := cpk_ok (put g (fe g) z b) z
    rw [hcnt, hf, show us (put g (fe g) z b) g.1 = us g g.1 - 1 by omega] at hk3
    rw [show us g g.1 + (31 - g.1) - 1 = us g g.1 - 1 + (31 - g.1) by omega] at hk2
    rw [hj, Cap_uniq hk2 hk3]
  · rw [if_neg c] at h
    have h := of_decide_eq_true h
    have e : fe g = g.1 := by omega
    have he := us_none c
    have hc2 : (put g (fe g) z b).1 = g.1 + 1 := by
      rw [hcnt]
      show (if fe g < g.1 then g.1 else fe g + 1) = _
      rw [if_neg c, e]
    have hu : us (put g (fe g) z b) (g.1 + 1) = 0 := by
      refine ct_zero _ (fun x hx => ?_)
      refine decide_eq_false ?_
      rw [hc2]
      by_cases d : x = fe g
      · rw [d, hlen2]; omega
      · rw [hlen x d]
        have := fst_no (ept g) g.1 x (by rw [show fst (ept g) g.1 = g.1 from e]; omega)
        have := of_decide_eq_false this
        omega
    have hf : fr (put g (fe g) z b) = fr g - z - 2 := by
      unfold fr
      rw [hc2, hsum, if_pos (by omega), sm_s, ← e, hl0]
      omega
    rw [he] at hk
    obtain ⟨j, hj⟩ : ∃ j, cpk g z = j + 1 := by
      refine ⟨cpk g z - 1, ?_⟩
      have h0 : cpk g z ≠ 0 := by
        intro w
        rw [w] at hk
        obtain ⟨-, -, q⟩ := hk
        rw [show 0 + 1 = 1 from rfl, nd_01] at q
        omega
      omega
    rw [hj] at hk
    have hk2 := Cap_pred2 h.2 hk
    have hk3 := cpk_ok (put g (fe g) z b) z
    rw [hc2, hu, hf] at hk3
    rw [show 0 + (31 - g.1) - 1 = 0 + (31 - (g.1 + 1)) by omega] at hk2
    rw [hj, Cap_uniq hk2 hk3]
theorem csum_upd {A A' : AS} {z p : Nat} (h1 : ∀ q, q ≠ p → A'.2.1 q = A.2.1 q) (h2 : cpk (A.2.1 p) z = cpk (A'.2.1 p) z + 1) : ∀ n, csum A z n = csum A' z n + (if p < n then 1 else 0)
  | 0 => rfl
  | n + 1 => by
    have ih := csum_upd h1 h2 n
    show csum A z n + cpk (A.2.1 n) z = csum A' z n + cpk (A'.2.1 n) z + (if p < n + 1 then 1 else 0)
    by_cases c : n = p
    · subst c
      rw [ih, h2, if_neg (Nat.lt_irrefl n), if_pos (Nat.lt_succ_self n)]
      omega
    · rw [ih, h1 n c]
      by_cases d : p < n
      · rw [if_pos d, if_pos (show p < n + 1 by omega)]; omega
      · rw [if_neg d, if_neg (show ¬ p < n + 1 by omega)]; omega
theorem csum_zero {A : AS} {z : Nat} : ∀ n, (∀ p, p < n → cpk (A.2.1 p) z = 0) → csum A z n = 0
  | 0, _ => rfl
  | n + 1, h => by
    show csum A z n + cpk (A.2.1 n) z = 0
    rw [csum_zero n (fun p hp => h p (by omega)), h n (by omega)]
section CX
variable {A : AS} {p s l : Nat} {c : Nat → Int32}
theorem cap_ins (hA : WA A) (hp : p < 8) (hl : l ≤ 60) (hr : room (A.2.1 p) (hs l) = true) : csum A (hs l) 8 = csum (ins A p l c) (hs l) 8 + 1 := by
  have hz := hs_b hl
  have hf := fe_e hA hp hr
  have e : (ins A p l c).2.1 p = put (A.2.1 p) (fe (A.2.1 p)) (hs l) (bh l c) := va_upS
  have h := csum_upd (A := A) (A' := ins A p l c) (z := hs l) (p := p) (fun q hq => va_upN hq) (by rw [e]; exact cpk_put (hA.2.1 p hp) (by omega) hf.2.1 hr) 8
  rw [if_pos hp] at h
  exact h
theorem cap_none (hA : WA A) (h : ¬ fp A (hs l) M1 M1 < 8) : csum A (hs l) 8 = 0 := by
  have hn := hA.1
  have hle := fp_le A (hs l) M1 M1
  refine csum_zero 8 (fun p hp => cpk_zero ?_)
  have h1 := fst_no (okp A (hs l) M1 M1) A.1 p (by show p < fp A (hs l) M1 M1; omega)
  have e : decide (¬ nI p = M1 ∧ ¬ nI p = M1) = true := decide_eq_true ⟨nz (by omega), nz (by omega)⟩
  unfold okp at h1
  rw [e] at h1
  exact h1
theorem fr_cpt (A : AS) (p : Nat) : fr ((cpt A p).2.1 p) = fr (A.2.1 p) := by
  have e : (cpt A p).2.1 p = comp (A.2.1 p) := va_upS
  rw [e]
  unfold fr
  rw [sm_comp]
  rfl
theorem gp_cpt (hA : WA A) (hp : p < A.1) : gp (cpt A p) p = fr (A.2.1 p) := by
  have hW := hA.2.1 p (by have := hA.1; omega)
  have h6 := hW.2.2.2.2.2
  have e : (cpt A p).2.1 p = comp (A.2.1 p) := va_upS
  have ec : (comp (A.2.1 p)).1 = (A.2.1 p).1 := rfl
  unfold gp fr
  rw [e, ec, lw_comp (by omega) _ (Nat.le_refl _)]
  omega
theorem gr_iff (hA : WA A) (h : isr A p s) (hl : l ≤ 60) : (l ≤ gr A p s) = (hs l ≤ rr A p s) := by
  have hb := has_b hA (isr_has h)
  have hrr : 3 ≤ rr A p s := by unfold rr; omega
  apply propext
  unfold gr hs
  constructor
  · intro q
    split <;> (split at q <;> omega)
  · intro q
    split at q <;> (split <;> omega)
theorem gr_ge (A : AS) {p s k : Nat} (h : k + 1 ≤ ln A p s) (hk : k ≤ 60) : k ≤ gr A p s := by
  have : ln A p s ≤ rr A p s := by unfold rr; omega
  unfold gr
  split <;> omega
theorem chg_gr (hA : WA A) (hI : RI A) (hk : isr A p s) (hl : l ≤ 60) (hw : wy A p s l ≠ M1) : (if hs l ≤ rr A p s then l else 1) ≤ gr (chg A p s l c) p s := by
  have hz := hs_b hl
  unfold chg
  by_cases h1 : hs l ≤ rr A p s
  · simp only [if_pos h1]
    obtain ⟨-, -, k3, -⟩ := hm_d (c := c) hA hI hk hl h1
    exact gr_ge _ (by omega) hl
  · simp only [if_neg h1]
    by_cases h2 : kn A p s = 2 ∧ l + 3 ≤ rr A (tp A p s) (ts A p s)
    · simp only [if_pos h2]
      obtain ⟨-, k2, -⟩ := mv2_d (c := c) hA hI h2.1 hl h2.2
      have q := nt' hA hI h2.1
      exact gr_ge _ (by have := (k2.2 q.1).1; omega) (by omega)
    · simp only [if_neg h2]
      obtain ⟨k1, k2, k3, k4, k5, k6, k7⟩ := wy_3 hA hI hk hl h1 h2 hw
      obtain ⟨-, ⟨-, a2, -⟩, -⟩ := mv3_d (c := c) hA hI hk k2 k3 hl k4 k5 k6
      exact gr_ge _ (by omega) (by omega)
end CX
