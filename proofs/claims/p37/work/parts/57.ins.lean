theorem RI_step {A A' : AS} (hA : WA A) (hI : RI A) (D : Nat → Nat → Prop) (hS : ∀ q t, ¬ D q t → Same A A' q t) (hD : ∀ q t, D q t → has A' q t → RR A' q t) (hN : ∀ a b, kn A a b = 2 → ¬ D a b → ¬ D (tp A a b) (ts A a b)) : RI A' := by
  intro q t h
  by_cases c : D q t
  · exact hD q t c h
  · have s := hS q t c
    have h0 := s.1.mp h
    have hb := has_b hA h0
    obtain ⟨e, d⟩ := s.2 h0
    have r := hI q t h0
    have d0 := d 0 (by omega)
    refine ⟨?_, ?_, ?_, ?_, ?_⟩
    · rw [e, d0]; exact r.1
    · rw [e, d0]; exact r.2.1
    · rw [e, d0]; exact r.2.2.1
    · rw [e, d0]
      intro w
      obtain ⟨r1, q2, t2, r2, r3, r4, r5⟩ := r.2.2.2.1 w
      exact ⟨r1, q2, t2, r2, r3, by rw [d 1 (by omega)]; exact r4, by rw [d 2 (by omega)]; exact r5⟩
    · intro w
      rw [d0] at w
      have hk : kn A q t = 2 := kn_2.mpr ⟨h0, w⟩
      obtain ⟨n1, n2, n3, n4, n5, n6, n7, n8, n9⟩ := nt' hA hI hk
      have s2 := hS _ _ (hN q t hk c)
      have hb2 := has_b hA n3
      obtain ⟨e2, d2⟩ := s2.2 n3
      exact ⟨by rw [e]; exact n2, tp A q t, ts A q t, by rw [d 1 (by omega)]; exact n5, by rw [d 2 (by omega)]; exact n6, s2.1.mpr n3, n4, by rw [d2 0 (by omega)]; exact n7, by rw [d2 1 (by omega)]; exact n8, by rw [d2 2 (by omega)]; exact n9⟩
theorem RR_home {A : AS} {p s l : Nat} {c : Nat → Int32} (hl : l ≤ 60) (h1 : ln A p s = hs l) (h2 : ∀ i, i < hs l → db A p s i = bh l c i) : RR A p s := by
  have hz := hs_b hl
  have h0 := h2 0 (by omega)
  have hne : ∀ (a b : Nat), a < 10 → b < 10 → a ≠ b → nI a ≠ nI b := by
    intro a b ha hb hab w
    rw [nI_eq (by omega) (by omega)] at w
    exact hab w
  have hc : (bh l c 0 = nI 4 ∧ l = 0) ∨ (bh l c 0 = nI 5 ∧ l = 1) ∨ (bh l c 0 = nI 1 ∧ 2 ≤ l) := by
    unfold bh
    rw [if_pos rfl]
    by_cases a : l = 0
    · rw [if_pos a]; exact Or.inl ⟨rfl, a⟩
    · rw [if_neg a]
      by_cases b : l = 1
      · rw [if_pos b]; exact Or.inr (Or.inl ⟨rfl, b⟩)
      · rw [if_neg b]; exact Or.inr (Or.inr ⟨rfl, by omega⟩)
  have hs0 : l < 2 → hs l = 3 := fun h => if_neg (by omega)
  unfold RR
  rw [h1, h0]
  rcases hc with ⟨e, el⟩ | ⟨e, el⟩ | ⟨e, el⟩
  · rw [e]
    exact ⟨fun _ => hs0 (by omega), fun w => absurd w (hne 4 5 (by omega) (by omega) (by omega)), fun _ _ => by omega, fun w => absurd w (hne 4 3 (by omega) (by omega) (by omega)), fun w => absurd w (hne 4 2 (by omega) (by omega) (by omega))⟩
  · rw [e]
    exact ⟨fun w => absurd w (hne 5 4 (by omega) (by omega) (by omega)), fun _ => hs0 (by omega), fun _ _ => by omega, fun w => absurd w (hne 5 3 (by omega) (by omega) (by omega)), fun w => absurd w (hne 5 2 (by omega) (by omega) (by omega))⟩
  · rw [e]
    exact ⟨fun w => absurd w (hne 1 4 (by omega) (by omega) (by omega)), fun w => absurd w (hne 1 5 (by omega) (by omega) (by omega)), fun _ _ => by omega, fun w => absurd w (hne 1 3 (by omega) (by omega) (by omega)), fun w => absurd w (hne 1 2 (by omega) (by omega) (by omega))⟩
def fp1 (A : AS) (z : Nat) : Nat := fp A z M1 M1
def ins (A : AS) (p l : Nat) (c : Nat → Int32) : AS := puts (opn A p) p (fe (A.2.1 p)) (hs l) (bh l c)
theorem fp_room {A : AS} (hA : WA A) {z : Nat} {e1 e2 : Int32} (h8 : fp A z e1 e2 < 8) (hz : z ≤ 124) : room (A.2.1 (fp A z e1 e2)) z = true := by
  have hle := fp_le A z e1 e2
  by_cases c : fp A z e1 e2 < A.1
  · have hy := fst_yes (okp A z e1 e2) A.1 c
    change okp A z e1 e2 (fp A z e1 e2) = true at hy
    simp only [okp, Bool.and_eq_true, decide_eq_true_eq] at hy
    exact hy.2
  · rw [hA.2.2 _ (by omega) h8]
    unfold room
    rw [if_neg (show ¬ fe g0 < g0.1 from Nat.not_lt_zero _)]
    have : fr g0 = 126 := by decide
    exact decide_eq_true ⟨by decide, by omega⟩
theorem opn_cnt {A : AS} {p : Nat} (h : p ≤ A.1) : p < (opn A p).1 := by
  show p < if p = A.1 then A.1 + 1 else A.1
  split <;> omega
section INS
variable {A : AS} {p l : Nat}
theorem ins_eff {c : Nat → Int32} (hA : WA A) (hI : RI A) (hp : p < 8) (hle : p ≤ A.1) (hl : l ≤ 60) (hr : room (A.2.1 p) (hs l) = true) : WA (ins A p l c) ∧ RI (ins A p l c) := by
  have hz := hs_b hl
  have hf := fe_e hA hp hr
  have hO := WA_opn hA hp
  obtain ⟨k1, k2, k3, k4, k5⟩ := puts_eff (A := opn A p) (p := p) (s := fe (A.2.1 p)) (z := hs l) (b := bh l c) hO (opn_cnt hle) (fe_le (A.2.1 p)) hf.1 hz.1 hf.2.2.2
  refine ⟨k5, ?_⟩
  refine RI_step hA hI (fun q t => q = p ∧ t = fe (A.2.1 p)) (fun q t h => Same_trans (Same_opn hA hp) (k1 q t h)) ?_ ?_
  · rintro q t ⟨rfl, rfl⟩ _
    exact RR_home hl k3 k4
  · intro a b hk _ w
    have q := nt' hA hI hk
    have h3 : 0 < (A.2.1 (tp A a b)).2.2.1 (ts A a b) := q.2.2.1.2.2
    rw [w.1, w.2] at h3
    omega
theorem c_ins {u : TH} (hA : WA A) (hC : CA u.1.1 A) (hp : p < 8) (hle : p ≤ A.1) (hl : l ≤ 60) (hL : u.2.2.1.1 = nI l) (hr : room (A.2.1 p) (hs l) = true) : ∃ v : TH, fX4_insertContent u (nI p) = some (nI (100 * p + fe (A.2.1 p)), v) ∧ CA v.1.1 (ins A p l u.2.2.1.2) ∧ v.2.1 = u.2.1 ∧ v.2.2.1 = u.2.2.1 ∧ v.2.2.2.2 = u.2.2.2.2 := by
  have hz := hs_b hl
  have hf := fe_e hA hp hr
  have hO := WA_opn hA hp
  obtain ⟨v1, k1, k2⟩ := c_opn (u := u.1) hA hC hp
  obtain ⟨r, k3, k4⟩ := c_wHome (u := (v1, u.2)) hl hL
  obtain ⟨v2, k5, k6⟩ := c_puts (u := (v1, (nI (hs l), r))) (A := opn A p) (p := p) (s := fe (A.2.1 p)) (z := hs l) hO k2 (opn_cnt hle) (fe_le (A.2.1 p)) hf.1 rfl hz.1 (by omega) hf.2.2.2
  unfold fX4_insertContent
  rw [k1, Option.bind_some, c_slotToUse' hp (hO.2.1 p hp) (k2.2.1 p (opn_cnt hle)), Option.bind_some, c_place, Option.bind_some, k3, Option.bind_some]
  have e : fe ((opn A p).2.1 p) = fe (A.2.1 p) := rfl
  rw [e, k5, Option.bind_some]
  refine ⟨_, rfl, ?_, rfl, rfl, rfl⟩
  unfold ins
  rw [← puts_cong k4]
  exact k6
end INS

