def sp (A : AS) (p : Nat) (g : PG) : AS := (A.1, va_up A.2.1 p g, A.2.2)
def opn (A : AS) (p : Nat) : AS := (if p = A.1 then A.1 + 1 else A.1, A.2)
def bk (A : AS) (b : Bool) : AS := (A.1, A.2.1, A.2.2.1, A.2.2.2.1, cc b A.2.2.2.2)
def rems (A : AS) (p s : Nat) : AS := sp A p (rem (A.2.1 p) s)
def puts (A : AS) (p s z : Nat) (b : Nat → Int32) : AS := bk (sp A p (put (A.2.1 p) s z b)) (cf (wipe (A.2.1 p) s) s z)
def poff (A : AS) (p s z : Nat) : AS := bk (sp A p (pl (pg (wipe (A.2.1 p) s) s z) s z)) (cf (wipe (A.2.1 p) s) s z)
def rtn (A : AS) : AS := (A.1, A.2.1, A.2.2.1, A.2.2.2.1 + 1, A.2.2.2.2)
def mvd (A : AS) : AS := (A.1, A.2.1, A.2.2.1 + 1, A.2.2.2.1, A.2.2.2.2)
theorem CA_sp {u : TS} {A : AS} (hA : WA A) (hC : CA u A) {f : Ar} {p : Nat} {g : PG} (hp : p < A.1) (h1 : CP f p g) (h2 : ∀ j, ¬ (128 * p ≤ j ∧ j < 128 * p + 128) → f j = u.2 j) : CA (u.1, f) (sp A p g) := by
  refine ⟨hC.1, ?_, ?_⟩
  · intro q hq
    change q < A.1 at hq
    show CP f q (va_up A.2.1 p g q)
    by_cases c : q = p
    · subst c; rw [va_upS]; exact h1
    · rw [va_upN c]
      have h := hC.2.1 q hq
      refine ⟨?_, ?_, ?_, ?_⟩
      · rw [h2 _ (by omega)]; exact h.1
      · rw [h2 _ (by omega)]; exact h.2.1
      · intro s hs
        have := (hA.2.1 q (by have := hA.1; omega)).1
        rw [h2 _ (by omega), h2 _ (by omega)]; exact h.2.2.1 s hs
      · intro k k1 k2
        rw [h2 _ (by omega)]; exact h.2.2.2 k k1 k2
  · intro q k1 k2 o ho
    change A.1 ≤ q at k1
    show f (128 * q + o) = 0
    rw [h2 _ (by omega)]
    exact hC.2.2 q k1 k2 o ho
theorem WA_sp {A : AS} (hA : WA A) {p : Nat} {g : PG} (hp : p < A.1) (hg : WF g) : WA (sp A p g) := by
  refine ⟨hA.1, ?_, ?_⟩
  · intro q hq
    show WF (va_up A.2.1 p g q)
    by_cases c : q = p
    · rw [c, va_upS]; exact hg
    · rw [va_upN c]; exact hA.2.1 q hq
  · intro q h1 h2
    change A.1 ≤ q at h1
    show va_up A.2.1 p g q = g0
    rw [va_upN (by omega)]
    exact hA.2.2 q h1 h2
theorem WA_bk {A : AS} (hA : WA A) (b : Bool) : WA (bk A b) := hA
theorem WA_opn {A : AS} (hA : WA A) {p : Nat} (hp : p < 8) : WA (opn A p) := by
  refine ⟨?_, hA.2.1, ?_⟩
  · show (if p = A.1 then _ else _) ≤ 8
    have := hA.1
    split <;> omega
  · intro q h1 h2
    refine hA.2.2 q ?_ h2
    change (if p = A.1 then A.1 + 1 else A.1) ≤ q at h1
    split at h1 <;> omega
theorem c_opn {u : TP} {A : AS} (hA : WA A) (hC : CA u.1 A) {p : Nat} (hp : p < 8) : ∃ v : TP, fX2_openIfNew u (nI p) = some v ∧ CA v.1 (opn A p) := by
  have hn := hA.1
  unfold fX2_openIfNew
  rw [c_pc hC]
  simp (disch := omega) only [lit, e_eq, e_le, c_setByte, Option.bind_some, if_neg (show ¬ 8 ≤ p by omega)]
  unfold opn
  by_cases c : p = A.1
  · rw [if_pos c, if_pos c]
    refine ⟨_, rfl, ?_, ?_, ?_⟩
    · show (u.1.1.1 + nI 1, u.1.1.2) = _
      rw [hC.1, nI_add]
    · intro q hq
      change q < A.1 + 1 at hq
      show CP (upd u.1.2 (128 * p + 1) (nI 128)) q (A.2.1 q)
      by_cases d : q = p
      · subst d
        have h0 := hC.2.2 q (by omega) hp
        rw [hA.2.2 q (by omega) hp]
        refine ⟨?_, ?_, ?_, ?_⟩
        · rw [updN (by omega)]
          have := h0 0 (by omega)
          rw [Nat.add_zero] at this
          rw [this]; rfl
        · rw [updS]; rfl
        · intro t ht
          exact absurd ht (Nat.not_lt_zero t)
        · intro k k1 k2
          change 2 + 2 * 0 ≤ k at k1
          rw [updN (by omega), h0 k k2]; rfl
      · have h := hC.2.1 q (by omega)
        have h31 := (hA.2.1 q (by omega)).1
        refine ⟨?_, ?_, ?_, ?_⟩
        · rw [updN (by omega)]; exact h.1
        · rw [updN (by omega)]; exact h.2.1
        · intro t ht
          rw [updN (by omega), updN (by omega)]; exact h.2.2.1 t ht
        · intro k k1 k2
          rw [updN (by omega)]; exact h.2.2.2 k k1 k2
    · intro q h1 h2 o ho
      change A.1 + 1 ≤ q at h1
      show upd u.1.2 (128 * p + 1) (nI 128) (128 * q + o) = 0
      rw [updN (by omega)]
      exact hC.2.2 q (by omega) h2 o ho
  · rw [if_neg c, if_neg c]
    exact ⟨_, rfl, hC⟩
theorem c_rems {u : TP} {A : AS} (hA : WA A) (hC : CA u.1 A) {p s : Nat} (hp : p < A.1) (hs : s < (A.2.1 p).1) : ∃ v : TP, fX2_removeRecord u (nI (100 * p + s)) = some v ∧ CA v.1 (rems A p s) := by
  have hn := hA.1
  obtain ⟨f, h1, h2, h3⟩ := c_remove (u := u) (show p < 8 by omega) (hA.2.1 p (by omega)) (hC.2.1 p hp) hs
  exact ⟨_, h1, CA_sp hA hC hp h2 h3⟩
theorem WA_rems {A : AS} (hA : WA A) {p s : Nat} (hp : p < A.1) (hs : s < (A.2.1 p).1) : WA (rems A p s) :=
  WA_sp hA hp (trim_WF (wipe_WF (hA.2.1 p (by have := hA.1; omega)) hs))
theorem c_puts {u : TP × TB} {A : AS} (hA : WA A) (hC : CA u.1.1 A) {p s z : Nat} (hp : p < A.1) (hs : s ≤ (A.2.1 p).1) (h31 : s < 31) (hb : u.2.1 = nI z) (h3 : 3 ≤ z) (hz : z ≤ 63) (hr : sm (wipe (A.2.1 p) s) (A.2.1 p).1 + 2 + 2 * (ext (A.2.1 p) s).1 + z ≤ 128) : ∃ v : TP, fX2_putRecord 63 u (nI (100 * p + s)) = some (v, u.2) ∧ CA v.1 (puts A p s z u.2.2) := by
  have hn := hA.1
  obtain ⟨f, b, h1, h2, h4⟩ := c_put (u := u) (show p < 8 by omega) (hA.2.1 p (by omega)) (hC.2.1 p hp) hs h31 hb h3 hz hr
  refine ⟨_, h1, ?_⟩
  have h := CA_sp hA hC hp h2 h4
  refine ⟨?_, h.2⟩
  show (u.1.1.1.1, u.1.1.1.2.1, u.1.1.1.2.2.1, cc (cf (wipe (A.2.1 p) s) s z) u.1.1.1.2.2.2) = _
  rw [hC.1]
  rfl
theorem put_WF {g : PG} (hW : WF g) {s z : Nat} {b : Nat → Int32} (hs : s ≤ g.1) (h31 : s < 31) (h3 : 3 ≤ z) (hr : sm (wipe g s) g.1 + 2 + 2 * (ext g s).1 + z ≤ 128) : WF (put g s z b) ∧ WF (pl (pg (wipe g s) s z) s z) ∧ s < (pg (wipe g s) s z).1 ∧ WF (pg (wipe g s) s z) ∧ z ≤ lw (pg (wipe g s) s z) (pg (wipe g s) s z).1 := by
  have hww : WF (wipe g s) := by
    by_cases c : s < g.1
    · exact wipe_WF hW c
    · have q := hW.2.2.1 s (by omega) h31
      rw [wipe_id q.1 q.2]; exact hW
  have ex : (ext (wipe g s) s).1 = (ext g s).1 := rfl
  obtain ⟨k1, k2, k3, k4, k5⟩ := pg_ok (g := wipe g s) (s := s) (z := z) hww hs h31 (by omega) (by rw [ex]; exact hr)
  have hsn : s < (ext g s).1 := by rw [ext_cnt hs]; split <;> omega
  have hl : (pg (wipe g s) s z).2.2.1 s = 0 := by rw [k4]; exact va_upS
  have hsm : sm (pg (wipe g s) s z) (pg (wipe g s) s z).1 = sm (wipe g s) (pg (wipe g s) s z).1 := sm_cong _ (fun t _ => k4 t)
  have hsm2 : sm (wipe g s) (ext (wipe g s) s).1 = sm (wipe g s) g.1 := by
    have := sm_ext (g := wipe g s) (s := s) hww hs h31
    rw [sm_eq (g := ext (wipe g s) s) (h := wipe g s) rfl] at this
    exact this
  have hp := pl_WF (h := pg (wipe g s) s z) (s := s) (z := z) k1 (by rw [k2, ex]; exact hsn) h3 hl (by rw [k2] at k3 ⊢; exact k3) (by rw [hsm, k2, hsm2, ex]; exact hr)
  refine ⟨wb_WF hp (by show s < (pg (wipe g s) s z).1; rw [k2, ex]; exact hsn) ?_, hp, by rw [k2, ex]; exact hsn, k1, by rw [k2] at k3 ⊢; omega⟩
  show z ≤ va_up _ s z s
  rw [va_upS]; exact Nat.le_refl _

