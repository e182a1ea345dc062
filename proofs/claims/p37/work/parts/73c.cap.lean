def usb (g : PG) : Nat → Bool := fun t => decide (g.1 ≤ t ∨ g.2.2.1 t = 0)
def us (g : PG) (s : Nat) : Nat := ct (usb g) s
def nd (e z k : Nat) : Nat := k * z + 2 * (k - e)
def Cap (e t z f k : Nat) : Prop := k ≤ t ∧ nd e z k ≤ f ∧ (k = t ∨ f < nd e z (k + 1))
theorem nd_mono {e z a b : Nat} (h : a ≤ b) : nd e z a ≤ nd e z b := by
  have := Nat.mul_le_mul_right z h
  unfold nd
  omega
theorem Cap_uniq {e t z f a b : Nat} (h : Cap e t z f a) (k : Cap e t z f b) : a = b := by
  obtain ⟨h1, h2, h3⟩ := h
  obtain ⟨k1, k2, k3⟩ := k
  rcases Nat.lt_trichotomy a b with c | c | c
  · have := nd_mono (e := e) (z := z) (show a + 1 ≤ b from c)
    omega
  · exact c
  · have := nd_mono (e := e) (z := z) (show b + 1 ≤ a from c)
    omega
def cpk (g : PG) (z : Nat) : Nat := fst (fun k => decide (fr g < nd (us g g.1) z (k + 1))) (us g g.1 + (31 - g.1))
theorem cpk_ok (g : PG) (z : Nat) : Cap (us g g.1) (us g g.1 + (31 - g.1)) z (fr g) (cpk g z) := by
  have hle : cpk g z ≤ us g g.1 + (31 - g.1) := fst_le _ _
  refine ⟨hle, ?_, ?_⟩
  · by_cases c : cpk g z = 0
    · rw [c]
      unfold nd
      omega
    · have h := fst_no (fun k => decide (fr g < nd (us g g.1) z (k + 1))) (us g g.1 + (31 - g.1)) (cpk g z - 1) (by
        show cpk g z - 1 < cpk g z
        omega)
      have h := of_decide_eq_false h
      rw [show cpk g z - 1 + 1 = cpk g z by omega] at h
      omega
  · by_cases c : cpk g z = us g g.1 + (31 - g.1)
    · exact Or.inl c
    · exact Or.inr (of_decide_eq_true (fst_yes (fun k => decide (fr g < nd (us g g.1) z (k + 1))) (us g g.1 + (31 - g.1)) (by
        show cpk g z < _
        omega)))
theorem us_s (g : PG) (s : Nat) : us g (s + 1) = us g s + (if usb g s then 1 else 0) := rfl
theorem us_yes {g : PG} {s : Nat} (h : g.1 ≤ s ∨ g.2.2.1 s = 0) : us g (s + 1) = us g s + 1 := by
  rw [us_s, show usb g s = true from decide_eq_true h]; rfl
theorem us_no {g : PG} {s : Nat} (h : ¬ (g.1 ≤ s ∨ g.2.2.1 s = 0)) : us g (s + 1) = us g s := by
  rw [us_s, show usb g s = false from decide_eq_false h]; rfl
theorem ct_mono (P : Nat → Bool) {a : Nat} : ∀ m, ct P a ≤ ct P (a + m)
  | 0 => Nat.le_refl _
  | m + 1 => by
    have := ct_mono P (a := a) m
    show ct P a ≤ ct P (a + m) + (if P (a + m) then 1 else 0)
    omega
theorem us_mono (g : PG) {a b : Nat} (h : a ≤ b) : us g a ≤ us g b := by
  obtain ⟨m, rfl⟩ : ∃ m, b = a + m := ⟨b - a, by omega⟩
  exact ct_mono _ m
theorem us_end (g : PG) : ∀ m, us g (g.1 + m) = us g g.1 + m
  | 0 => rfl
  | m + 1 => by
    rw [← Nat.add_assoc, us_yes (Or.inl (by omega)), us_end g m]
    omega
theorem us_31 {g : PG} (h : g.1 ≤ 31) : us g 31 = us g g.1 + (31 - g.1) := by
  have := us_end g (31 - g.1)
  rw [show g.1 + (31 - g.1) = 31 by omega] at this
  exact this
theorem us_e (g : PG) : ∀ s, s ≤ g.1 → us g s = ct (ept g) s
  | 0, _ => rfl
  | s + 1, h => by
    rw [us_s, us_e g s (by omega)]
    show _ = ct (ept g) s + (if ept g s then 1 else 0)
    have e : usb g s = ept g s := by
      unfold usb ept
      by_cases c : g.2.2.1 s = 0
      · rw [decide_eq_true c, decide_eq_true (Or.inr c)]
      · rw [decide_eq_false c, decide_eq_false (by omega)]
    rw [e]
theorem e_nn {a b : Nat} (ha : a < 2 ^ 30) (hb : b < 2 ^ 30) : (0 ≤ nI a - nI b) = (b ≤ a) := by
  apply propext
  rw [Int32.le_iff_toInt_le, pk_sub_toInt ha hb]
  have : (0 : Int32).toInt = 0 := rfl
  omega
theorem c_fit {u : TP} {p z : Nat} {g : PG} (h31 : g.1 ≤ 31) (hz : z ≤ 61) (hc : fX3_slotCount u.1 (nI p) = some (nI g.1)) (hf : fX2_freeBytes u (nI p) = some (nI (fr g))) (hs1 : ∀ s, s < g.1 → g.2.2.1 s ≤ 128 ∧ fX3_sizeOf u.1 (nI p) (nI s) = some (nI (g.2.2.1 s))) : fX2_recordsThatFit u (nI p) (nI z) = some (nI (cpk g z)) := by
  have hfr : fr g ≤ 126 := by unfold fr; omega
  have ht := us_31 h31
  unfold fX2_recordsThatFit
  rw [hc, Option.bind_some, hf, Option.bind_some]
  have hloop : ∃ d, itr (fun a : Int32 × Int32 × Int32 × Int32 × Int32 × Int32 => fX2_recordsThatFit_s22 u a.1 a.2.1 a.2.2.1 a.2.2.2.1 a.2.2.2.2.1 a.2.2.2.2.2) FU (nI p, nI z, nI g.1, nI (fr g), (0 : Int32), (0 : Int32)) = some d ∧ ∃ k, d.2 = nI k ∧ Cap (us g g.1) (us g g.1 + (31 - g.1)) z (fr g) k := by
    refine itrX (fun s x => x = (nI p, nI z, nI g.1, nI (fr g - nd (us g g.1) z (us g s)), nI (us g s), nI s) ∧ nd (us g g.1) z (us g s) ≤ fr g) _ 31 ⟨?_, ?_⟩ ?_ ?_ (by omega)
    · show _ = (nI p, nI z, nI g.1, nI (fr g - nd (us g g.1) z 0), nI 0, nI 0)
      have : nd (us g g.1) z 0 = 0 := by unfold nd; omega
      rw [this]; rfl
    · show nd (us g g.1) z 0 ≤ fr g
      unfold nd; omega
    · intro s x hs2 hx
      obtain ⟨rfl, hle⟩ := hx
      obtain ⟨k, hk⟩ : ∃ k, k = us g s := ⟨_, rfl⟩
      rw [← hk] at hle ⊢
      have hstep : ∀ c : Nat, c ≤ 63 → us g (s + 1) = k + 1 → nd (us g g.1) z (k + 1) = nd (us g g.1) z k + c → (∃ y, fX2_recordsThatFit_j74 u (nI p) (nI z) (nI g.1) (nI k) (nI s) (nI c) (nI (fr g - nd (us g g.1) z k)) = some (.inl y) ∧ y = (nI p, nI z, nI g.1, nI (fr g - nd (us g g.1) z (us g (s + 1))), nI (us g (s + 1)), nI (s + 1)) ∧ nd (us g g.1) z (us g (s + 1)) ≤ fr g) ∨ ∃ d, fX2_recordsThatFit_j74 u (nI p) (nI z) (nI g.1) (nI k) (nI s) (nI c) (nI (fr g - nd (us g g.1) z k)) = some (.inr d) ∧ ∃ k, d.2 = nI k ∧ Cap (us g g.1) (us g g.1 + (31 - g.1)) z (fr g) k := by
        intro c hc63 e1 e2
        have hmono := us_mono g (show s + 1 ≤ 31 by omega)
        unfold fX2_recordsThatFit_j74 fX2_recordsThatFit_j88
        simp (disch := omega) only [e_nn]
        by_cases d : c ≤ fr g - nd (us g g.1) z k
        · rw [if_pos d, e_sub d]
          refine Or.inl ⟨_, rfl, ?_, ?_⟩
          · rw [e1, e2, ← Nat.sub_sub]
            simp only [lit, nI_add]
          · rw [e1]; omega
        · rw [if_neg d]
          exact Or.inr ⟨_, rfl, k, rfl, by omega, hle, Or.inr (by omega)⟩
      show (∃ y, fX2_recordsThatFit_s22 u (nI p) (nI z) (nI g.1) (nI (fr g - nd (us g g.1) z k)) (nI k) (nI s) = some (.inl y) ∧ _) ∨ ∃ d, fX2_recordsThatFit_s22 u (nI p) (nI z) (nI g.1) (nI (fr g - nd (us g g.1) z k)) (nI k) (nI s) = some (.inr d) ∧ _
      unfold fX2_recordsThatFit_s22 fX2_recordsThatFit_j40 fX2_recordsThatFit_j60
      rw [if_neg (by rw [show (31 : Int32) = nI 31 from rfl, e_le (by omega) (by omega)]; omega)]
      by_cases c : s < g.1
      · rw [if_pos (nI_lt c (by omega)), if_pos rfl, (hs1 s c).2, Option.bind_some]
        have h128 := (hs1 s c).1
        by_cases d : g.2.2.1 s = 0
        · have e1 := us_yes (g := g) (s := s) (Or.inr d)
          have hke := us_mono g (show s + 1 ≤ g.1 by omega)
          rw [if_pos (by rw [d]; rfl), if_pos rfl]
          refine hstep z (by omega) (by omega) ?_
          unfold nd
          rw [Nat.succ_mul]
          omega
        · have e1 := us_no (g := g) (s := s) (by omega)
          rw [if_neg (by rw [show (0 : Int32) = nI 0 from rfl, e_eq (by omega) (by omega)]; exact d)]
          unfold fX2_recordsThatFit_j88
          refine Or.inl ⟨_, rfl, ?_, ?_⟩
          · rw [e1, ← hk]
            simp only [lit, nI_add]
          · rw [e1, ← hk]; exact hle
      · have e1 := us_yes (g := g) (s := s) (Or.inl (by omega))
        have hke := us_mono g (show g.1 ≤ s by omega)
        rw [if_neg (by rw [e_lt (by omega) (by omega)]; exact c), if_neg (by decide), if_neg (by decide), show nI z + (2 : Int32) = nI (z + 2) from by rw [show (2 : Int32) = nI 2 from rfl, nI_add]]
        refine hstep (z + 2) (by omega) (by omega) ?_
        unfold nd
        rw [Nat.succ_mul]
        omega
    · intro x hx
      obtain ⟨rfl, hle⟩ := hx
      refine ⟨(1, nI (us g 31)), ?_, us g 31, rfl, by omega, hle, Or.inl ht⟩
      show fX2_recordsThatFit_s22 u _ _ _ _ _ (nI 31) = _
      unfold fX2_recordsThatFit_s22
      rw [if_pos (by decide)]
  obtain ⟨d, e1, k, e2, e3⟩ := hloop
  rw [e1, Option.bind_some, ite_self, e2, Cap_uniq e3 (cpk_ok g z)]
def csum (A : AS) (z : Nat) : Nat → Nat
  | 0 => 0
  | p + 1 => csum A z p + cpk (A.2.1 p) z
section CQ
variable {A : AS}
theorem c_fit2 {u : TP} (hA : WA A) (hC : CA u.1 A) {p z : Nat} (hp : p < 8) (hz : z ≤ 61) : fX2_recordsThatFit u (nI p) (nI z) = some (nI (cpk (A.2.1 p) z)) := by
  have hW := hA.2.1 p hp
  have h31 := hW.1
  by_cases c : p < A.1
  · have hC' := hC.2.1 p c
    refine c_fit h31 hz (c_count hp hC') (c_free hp hW hC') (fun s hs1 => ⟨?_, c_size hp hC' h31 hs1⟩)
    have := hW.len hs1
    omega
  · have h0 := hC.2.2 p (by omega) hp 0 (by omega)
    rw [Nat.add_zero] at h0
    rw [hA.2.2 p (by omega) hp]
    have hc : fX3_slotCount u.1 (nI p) = some (nI 0) := by
      rw [c_slotCount hp, h0]; rfl
    refine c_fit (g := g0) (by decide) hz hc ?_ (fun s hs1 => absurd hs1 (Nat.not_lt_zero s))
    unfold fX2_freeBytes
    rw [hc, Option.bind_some]
    simp only [fX4_slotOffset, Option.bind_some, lit, pk_mul, nI_add]
    rw [e_sub (by omega)]
    refine itrB (fun i => (nI p, nI 0, nI (128 - (2 + 2 * 0)), nI i)) (nI 126) 0 rfl (fun j hj => absurd hj (Nat.not_lt_zero j)) ?_ (by omega) ?_
    · rfl
    · rfl
end CQ

