def ssm (A : AS) : Nat → Nat
  | 0 => 0
  | p + 1 => ssm A p + sm (A.2.1 p) (A.2.1 p).1
theorem ssm_le {A : AS} (hA : WA A) : ∀ p, p ≤ 8 → ssm A p ≤ 126 * p
  | 0, _ => Nat.le_refl 0
  | p + 1, h => by
    have ih := ssm_le hA p (by omega)
    have h6 := (hA.2.1 p (by omega)).2.2.2.2.2
    show ssm A p + sm (A.2.1 p) (A.2.1 p).1 ≤ 126 * (p + 1)
    omega
def ffv (A : AS) : UInt64 := if A.1 = 0 then FP.dconst0 else fpz A.1 (ssm A A.1)
theorem ffv_ok {A : AS} (hA : WA A) : (A.1 ≠ 0 → nf64 (fpz A.1 (ssm A A.1)) = some (fpz A.1 (ssm A A.1))) ∧ nf32 (FP.d2f (ffv A)) = some (FP.d2f (ffv A)) ∧ (∃ v, fX4_bitsOfFraction (FP.d2f (ffv A)) = some v) ∧ ¬ (Op.cmpValue (FP.dcmp (ffv A) FP.dconst0) .l) < 0 ∧ ¬ 0 < (Op.cmpValue (FP.dcmp (ffv A) FP.dconst1) .g) := by
  have hn := hA.1
  by_cases c : A.1 = 0
  · have e : ffv A = FP.dconst0 := if_pos c
    rw [e]
    exact ⟨fun w => absurd c w, by decide +kernel, ⟨0, by decide +kernel⟩, by decide +kernel, by decide +kernel⟩
  · have h := fp_all (n := A.1) (b := ssm A A.1) (by omega) hn (ssm_le hA A.1 hn)
    unfold fpc at h
    simp only [Bool.and_eq_true, decide_eq_true_eq] at h
    obtain ⟨⟨⟨⟨h1, h2⟩, h3⟩, h4⟩, h5⟩ := h
    have e : ffv A = fpz A.1 (ssm A A.1) := if_neg c
    rw [e]
    exact ⟨fun _ => h1, h2, Option.isSome_iff_exists.mp h3, h4, h5⟩
section DG
variable {A : AS}
theorem c_sizes {u : TP} (hA : WA A) (hC : CA u.1 A) {p : Nat} (hp : p < A.1) : fX2_sizeOfRecords u (nI p) = some (nI (sm (A.2.1 p) (A.2.1 p).1)) := by
  have hn := hA.1
  have hW := hA.2.1 p (by omega)
  have hC' := hC.2.1 p hp
  have h6 := hW.2.2.2.2.2
  unfold fX2_sizeOfRecords
  rw [c_count (by omega) hC', Option.bind_some, c_free (by omega) hW hC']
  simp only [fX4_slotOffset, Option.bind_some, lit, pk_mul, nI_add]
  have e : fr (A.2.1 p) = 126 - 2 * (A.2.1 p).1 - sm (A.2.1 p) (A.2.1 p).1 := rfl
  rw [e_sub (by omega), e_sub (by omega), e]
  congr 2
  omega
theorem c_factor {u : TH} (hA : WA A) (hC : CA u.1.1 A) : fX4_fillFactor u = some (ffv A) := by
  have hn := hA.1
  unfold fX4_fillFactor
  rw [c_pc hC]
  by_cases c : A.1 = 0
  · unfold ffv
    rw [c, if_neg (by decide), if_pos rfl]
  · rw [if_pos (show (0 : Int32) < nI A.1 from nI_lt (a := 0) (by omega) (by omega))]
    have e : ffv A = fpz A.1 (ssm A A.1) := if_neg c
    rw [e]
    refine itrB (fun p => (nI (ssm A p), nI p)) (nI (ssm A A.1)) A.1 rfl ?_ ?_ (by omega) ?_
    · intro p hp
      show fX4_fillFactor_s16 u _ _ = some (.inl (nI (ssm A p + sm (A.2.1 p) (A.2.1 p).1), nI (p + 1)))
      unfold fX4_fillFactor_s16
      rw [c_pc hC, if_neg (by rw [e_le (by omega) (by omega)]; omega), c_sizes hA hC hp, Option.bind_some]
      simp only [lit, nI_add]
    · show fX4_fillFactor_s16 u _ _ = _
      unfold fX4_fillFactor_s16
      rw [c_pc hC, if_pos (by rw [e_le (by omega) (by omega)]; exact Nat.le_refl _)]
    · rw [show (128 : Int32) * nI A.1 = nI (128 * A.1) from pk_mul 128 A.1]
      have h := (ffv_ok hA).1 c
      unfold fpz at h ⊢
      rw [h, Option.bind_some]
def hb8 (A : AS) (p : Nat) (h : Int64) : Nat → Int64
  | 0 => h
  | o + 1 => (31 : Int64) * hb8 A p h o + (pby A p o).toInt64
def hpg (A : AS) (h : Int64) : Nat → Int64
  | 0 => h
  | p + 1 => hb8 A p ((31 : Int64) * ((31 : Int64) * hpg A h p + (nI (fr (A.2.1 p))).toInt64) + (nI (gp A p)).toInt64) 128
def hst (A : AS) : Int64 := (31 : Int64) * ((31 : Int64) * ((31 : Int64) * ((31 : Int64) * ((31 : Int64) * ((31 : Int64) * (4436 : Int64) + (nI A.1).toInt64) + (nI (ct (fun x => kb A 1 x || kb A 2 x) (100 * A.1))).toInt64) + (nI (ct (kb A 2) (100 * A.1))).toInt64) + A.2.2.1.toInt64) + A.2.2.2.1.toInt64) + A.2.2.2.2.toInt64
theorem c_digest {u : TH} (hA : WA A) (hC : CA u.1.1 A) {v : Int32} (hv : fX4_bitsOfFraction (FP.d2f (ffv A)) = some v) : fX4_digest u = some ((31 : Int64) * hpg A (hst A) A.1 + v.toInt64) := by
  have hn := hA.1
  have e1 : u.1.1.1.2.1 = A.2.2.1 := by rw [hC.1]
  have e2 : u.1.1.1.2.2.1 = A.2.2.2.1 := by rw [hC.1]
  have e3 : u.1.1.1.2.2.2 = A.2.2.2.2 := by rw [hC.1]
  unfold fX4_digest
  rw [c_rows hA hC, Option.bind_some, c_notes hA hC, Option.bind_some, c_pc hC, e1, e2, e3]
  refine itrB (fun p => (hpg A (hst A) p, nI p)) (hpg A (hst A) A.1) A.1 rfl ?_ ?_ (by omega) ?_
  · intro p hp
    show fX4_digest_s90 u (hpg A (hst A) p) (nI p) = some (.inl (hb8 A p ((31 : Int64) * ((31 : Int64) * hpg A (hst A) p + (nI (fr (A.2.1 p))).toInt64) + (nI (gp A p)).toInt64) 128, nI (p + 1)))
    generalize hpg A (hst A) p = h
    unfold fX4_digest_s90
    rw [c_pc hC, if_neg (by rw [e_le (by omega) (by omega)]; omega), c_free (by omega) (hA.2.1 p (by omega)) (hC.2.1 p hp), Option.bind_some, c_count (by omega) (hC.2.1 p hp), Option.bind_some, c_gap hA hC hp, Option.bind_some]
    generalize (31 : Int64) * ((31 : Int64) * h + (nI (fr (A.2.1 p))).toInt64) + (nI (gp A p)).toInt64 = g
    rw [itr0 (step := fun a : Int64 × Int32 × Int32 => fX4_digest_s144 u a.1 a.2.1 a.2.2) (fun o => (hb8 A p g o, nI p, nI o)) (hb8 A p g 128, nI p) 128 ?a0 ?a1 ?a2 (by omega), Option.bind_some]
    · simp only [lit, nI_add]
    case a0 => rfl
    case a1 =>
      intro o ho
      show fX4_digest_s144 u (hb8 A p g o) (nI p) (nI o) = some (.inl ((31 : Int64) * hb8 A p g o + (pby A p o).toInt64, nI p, nI (o + 1)))
      unfold fX4_digest_s144
      rw [if_neg (by rw [show (128 : Int32) = nI 128 from rfl, e_le (by omega) (by omega)]; omega), c_pby hA hC hp ho, Option.bind_some]
      simp only [lit, nI_add]
    case a2 =>
      show fX4_digest_s144 u _ _ (nI 128) = _
      unfold fX4_digest_s144
      rw [if_pos (by decide)]
  · show fX4_digest_s90 u _ _ = _
    unfold fX4_digest_s90
    rw [c_pc hC, if_pos (by rw [e_le (by omega) (by omega)]; exact Nat.le_refl _)]
  · rw [c_factor hA hC, Option.bind_some, (ffv_ok hA).2.1, Option.bind_some, hv, Option.bind_some]
end DG
def dg (A : AS) : Int64 := (31 : Int64) * hpg A (hst A) A.1 + ((fX4_bitsOfFraction (FP.d2f (ffv A))).getD 0).toInt64
theorem c_dig {u : TH} {A : AS} (hA : WA A) (hC : CA u.1.1 A) : fX4_digest u = some (dg A) := by
  obtain ⟨v, hv⟩ := (ffv_ok hA).2.2.1
  rw [c_digest hA hC hv]
  unfold dg
  rw [hv]
  rfl
