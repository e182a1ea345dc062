theorem lit (n : Nat) : (OfNat.ofNat n : Int32) = nI (OfNat.ofNat n) := id rfl
def db (A : AS) (p s i : Nat) : Int32 := (A.2.1 p).2.2.2 ((A.2.1 p).2.1 s + i)
def ln (A : AS) (p s : Nat) : Nat := (A.2.1 p).2.2.1 s
abbrev has (A : AS) (p s : Nat) : Prop := p < A.1 ∧ s < (A.2.1 p).1 ∧ 0 < ln A p s
def kn (A : AS) (p s : Nat) : Nat := if has A p s then (if db A p s 0 = nI 2 then 2 else if db A p s 0 = nI 3 then 3 else 1) else 0
def RR (A : AS) (p s : Nat) : Prop :=
  (db A p s 0 = nI 4 → ln A p s = 3) ∧ (db A p s 0 = nI 5 → ln A p s = 3) ∧ (db A p s 0 ≠ nI 2 → db A p s 0 ≠ nI 3 → ln A p s ≤ 61) ∧ (db A p s 0 = nI 3 → ln A p s ≤ 63 ∧ ∃ q t, q < 8 ∧ t < 31 ∧ db A p s 1 = nI q ∧ db A p s 2 = nI t) ∧
  (db A p s 0 = nI 2 → ln A p s = 3 ∧ ∃ q t, db A p s 1 = nI q ∧ db A p s 2 = nI t ∧ has A q t ∧ q ≠ p ∧ db A q t 0 = nI 3 ∧ db A q t 1 = nI p ∧ db A q t 2 = nI s)
def RI (A : AS) : Prop := ∀ p s, has A p s → RR A p s
def tp (A : AS) (p s : Nat) : Nat := (db A p s 1).toNatClampNeg
def ts (A : AS) (p s : Nat) : Nat := (db A p s 2).toNatClampNeg
def pp (A : AS) (p s : Nat) : Nat := if kn A p s = 2 then tp A p s else p
def ps (A : AS) (p s : Nat) : Nat := if kn A p s = 2 then ts A p s else s
def rl (A : AS) (p s : Nat) : Nat := if db A p s 0 = nI 3 then ln A p s - 3 else if db A p s 0 = nI 4 then 0 else if db A p s 0 = nI 5 then 1 else ln A p s - 1
def hs (l : Nat) : Nat := if 2 ≤ l then l + 1 else 3
theorem kn_le (A : AS) (p s : Nat) : kn A p s ≤ 3 := by
  unfold kn
  split
  · split
    · omega
    · split <;> omega
  · omega
theorem kn_has {A : AS} {p s : Nat} (h : kn A p s ≠ 0) : has A p s := by
  unfold kn at h
  by_cases c : has A p s
  · exact c
  · rw [if_neg c] at h; exact absurd rfl h
theorem kn_2 {A : AS} {p s : Nat} : kn A p s = 2 ↔ has A p s ∧ db A p s 0 = nI 2 := by
  unfold kn
  constructor
  · intro h
    by_cases c : has A p s
    · rw [if_pos c] at h
      refine ⟨c, ?_⟩
      by_cases d : db A p s 0 = nI 2
      · exact d
      · rw [if_neg d] at h
        split at h <;> omega
    · rw [if_neg c] at h; omega
  · rintro ⟨h1, h2⟩
    rw [if_pos h1, if_pos h2]
theorem has_b {A : AS} (hA : WA A) {p s : Nat} (h : has A p s) : p < 8 ∧ s < 31 ∧ 3 ≤ ln A p s ∧ ln A p s ≤ 126 ∧ 2 + 2 * (A.2.1 p).1 ≤ (A.2.1 p).2.1 s ∧ (A.2.1 p).2.1 s + ln A p s ≤ 128 := by
  have h8 : p < 8 := by have := hA.1; have := h.1; omega
  have hW := hA.2.1 p h8
  have h31 := hW.1
  have := h.2.1
  have h3 := h.2.2
  unfold ln at h3 ⊢
  rcases hW.2.1 s h.2.1 with q | q <;> omega
theorem nt {A : AS} (hI : RI A) {p s : Nat} (h : kn A p s = 2) : has A p s ∧ ln A p s = 3 ∧ has A (tp A p s) (ts A p s) ∧ tp A p s ≠ p ∧ db A p s 1 = nI (tp A p s) ∧ db A p s 2 = nI (ts A p s) ∧ db A (tp A p s) (ts A p s) 0 = nI 3 ∧ db A (tp A p s) (ts A p s) 1 = nI p ∧ db A (tp A p s) (ts A p s) 2 = nI s ∨ ¬ WA A := by
  by_cases hA : WA A
  · refine Or.inl ?_
    obtain ⟨h1, h2⟩ := kn_2.mp h
    obtain ⟨a, q, t, b1, b2, b3, b4, b5, b6, b7⟩ := (hI p s h1).2.2.2.2 h2
    have hb := has_b hA b3
    have e1 : tp A p s = q := by unfold tp; rw [b1, nI_clamp (by omega)]
    have e2 : ts A p s = t := by unfold ts; rw [b2, nI_clamp (by omega)]
    rw [e1, e2]
    exact ⟨h1, a, b3, b4, b1, b2, b5, b6, b7⟩
  · exact Or.inr hA
theorem nt' {A : AS} (hA : WA A) (hI : RI A) {p s : Nat} (h : kn A p s = 2) : has A p s ∧ ln A p s = 3 ∧ has A (tp A p s) (ts A p s) ∧ tp A p s ≠ p ∧ db A p s 1 = nI (tp A p s) ∧ db A p s 2 = nI (ts A p s) ∧ db A (tp A p s) (ts A p s) 0 = nI 3 ∧ db A (tp A p s) (ts A p s) 1 = nI p ∧ db A (tp A p s) (ts A p s) 2 = nI s := by
  rcases nt hI h with q | q
  · exact q
  · exact absurd hA q
theorem c_pageX {x : Nat} (h : x < 2 ^ 31) : fX4_pageIn (nI x) = some (nI (x / 100)) := by
  unfold fX4_pageIn
  simp only [lit]
  rw [pk_div h (by omega) (by omega)]
theorem c_slotX {x : Nat} (h : x < 2 ^ 31) : fX4_slotIn (nI x) = some (nI (x % 100)) := by
  unfold fX4_slotIn
  simp only [lit]
  rw [pk_rem h (by omega) (by omega)]
theorem c_rb {u : TS} {A : AS} (hA : WA A) (hC : CA u A) {p s i : Nat} (h : has A p s) (hi : i < ln A p s) : fX3_recordByte u (nI p) (nI s) (nI i) = some (db A p s i) := by
  have hb := has_b hA h
  have h31 := (hA.2.1 p hb.1).1
  have hC' := hC.2.1 p h.1
  unfold fX3_recordByte
  rw [c_off hb.1 hC' h31 h.2.1, Option.bind_some, nI_add, c_byteAt (by omega), Option.bind_some]
  exact congrArg some (hC'.2.2.2 _ (by omega) (by omega))
theorem c_kind {u : TH} {A : AS} (hA : WA A) (hC : CA u.1.1 A) {x : Nat} (hx : x < 2 ^ 31) : fX4_kind u (nI x) = some (nI (kn A (x / 100) (x % 100))) := by
  have hn := hA.1
  unfold fX4_kind
  rw [if_pos (nI_pos' hx), c_pageX hx, Option.bind_some, c_slotX hx, Option.bind_some, c_pc hC]
  unfold kn
  by_cases c1 : A.1 ≤ x / 100
  · rw [if_pos (by rw [e_le (by omega) (by omega)]; exact c1), if_neg (fun h => by have := h.1; omega)]; rfl
  · rw [if_neg (by rw [e_le (by omega) (by omega)]; exact c1)]
    have hW := hA.2.1 (x / 100) (by omega)
    have h31 := hW.1
    have hC' := hC.2.1 (x / 100) (by omega)
    rw [c_count (by omega) hC', Option.bind_some]
    by_cases c2 : (A.2.1 (x / 100)).1 ≤ x % 100
    · rw [if_pos (by rw [e_le (by omega) (by omega)]; exact c2), if_neg (fun h => by have := h.2.1; omega)]; rfl
    · rw [if_neg (by rw [e_le (by omega) (by omega)]; exact c2), c_size (by omega) hC' h31 (by omega), Option.bind_some]
      have hL := hW.len (s := x % 100) (by omega)
      simp (disch := omega) only [lit, e_eq]
      by_cases c3 : (A.2.1 (x / 100)).2.2.1 (x % 100) = 0
      · rw [if_pos c3, if_neg (fun h => by have := h.2.2; unfold ln at this; omega)]
      · have hh : has A (x / 100) (x % 100) := ⟨by omega, by omega, by unfold ln; omega⟩
        have hb := has_b hA hh
        rw [if_neg c3, if_pos hh, c_rb hA hC hh (by omega), Option.bind_some]
        by_cases d1 : db A (x / 100) (x % 100) 0 = nI 2
        · rw [if_pos d1, if_pos d1, d1]
        · rw [if_neg d1, if_neg d1]
          by_cases d2 : db A (x / 100) (x % 100) 0 = nI 3
          · rw [if_pos d2, if_pos d2, d2]
          · rw [if_neg d2, if_neg d2]
