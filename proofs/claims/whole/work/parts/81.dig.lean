def ssm (A : AS) : Nat → Nat
  | 0 => 0
  | p + 1 => ssm A p + sm (A.2.1 p) (A.2.1 p).1
theorem ssm_le {A : AS} (hA : WA A) : ∀ p, p ≤ 8 → ssm A p ≤ 126 * p
  | 0, _ => Nat.le_refl 0
  | p + 1, h => by
    have ih := ssm_le hA p (by omega)
    have h6 := (hA.2.1 p (by omega)).2.2.2.2.2
    show ssm A p + sm (A.2.1 p) (A.2.1 p).1 ≤ 126 * (p + 1)
    omega
def ffv (A : AS) : UInt64 := if A.1 = 0 then FP.dconst0 else fpz A.1 (ssm A A.1)
theorem ffv_ok {A : AS} (hA : WA A) : (A.1 ≠ 0 → nf64 (fpz A.1 (ssm A A.1)) = some (fpz A.1 (ssm A A.1))) ∧ nf32 (FP.d2f (ffv A)) = some (FP.d2f (ffv A)) ∧ ∃ v, fX4_bitsOfFraction (FP.d2f (ffv A)) = some v ∧ fX5_bits (FP.d2f (ffv A)) = some v := by
  have hn := hA.1
  by_cases c : A.1 = 0
  · refine ⟨fun w => absurd c w, ?_, ?_⟩
    · unfold ffv
      rw [if_pos c]
      decide +kernel
    · unfold ffv
      rw [if_pos c]
      exact ⟨0, by decide +kernel, by decide +kernel⟩
  · have h := fp_all (n := A.1) (b := ssm A A.1) (by omega) hn (ssm_le hA A.1 hn)
    unfold fpc at h
    simp only [Bool.and_eq_true, decide_eq_true_eq] at h
    obtain ⟨⟨⟨h1, h2⟩, h3⟩, h4⟩ := h
    have e : ffv A = fpz A.1 (ssm A A.1) := if_neg c
    rw [e]
    refine ⟨fun _ => h1, h2, ?_⟩
    obtain ⟨v, hv⟩ := Option.isSome_iff_exists.mp h4
    exact ⟨v, h3.trans hv, hv⟩
section DG
variable {A : AS}
theorem c_sizes {u : TP} (hA : WA A) (hC : CA u.1 A) {p : Nat} (hp : p < A.1) : fX2_sizeOfRecords u (nI p) = some (nI (sm (A.2.1 p) (A.2.1 p).1)) := by
  have hn := hA.1
  have hW := hA.2.1 p (by omega)
  have hC' := hC.2.1 p hp
  have h6 := hW.2.2.2.2.2
  unfold fX2_sizeOfRecords
  rw [c_count (by omega) hC', Option.bind_some, c_free (by omega) hW hC']
  simp only [fX4_slotOffset, Option.bind_some, lit, pk_mul, nI_add]
  have e : fr (A.2.1 p) = 126 - 2 * (A.2.1 p).1 - sm (A.2.1 p) (A.2.1 p).1 := rfl
  rw [e_sub (by omega), e_sub (by omega), e]
  congr 2
  omega
theorem c_factor {u : TH} (hA : WA A) (hC : CA u.1.1 A) : fX4_fillFactor u = some (ffv A) := by
  have hn := hA.1
  unfold fX4_fillFactor
  rw [c_pc hC]
  by_cases c : A.1 = 0
  · unfold ffv
    rw [c, if_neg (by decide), if_pos rfl]
  · rw [if_pos (show (0 : Int32) < nI A.1 from nI_lt (a := 0) (by omega) (by omega))]
    have e : ffv A = fpz A.1 (ssm A A.1) := if_neg c
    rw [e]
    refine itrB (fun p => (nI (ssm A p), nI p)) (nI (ssm A A.1)) A.1 rfl ?_ ?_ (by omega) ?_
    · intro p hp
      show fX4_fillFactor_s16 u _ _ = some (.inl (nI (ssm A p + sm (A.2.1 p) (A.2.1 p).1), nI (p + 1)))
      unfold fX4_fillFactor_s16
      rw [c_pc hC, if_neg (by rw [e_le (by omega) (by omega)]; omega), c_sizes hA hC hp, Option.bind_some]
      simp only [lit, nI_add]
    · show fX4_fillFactor_s16 u _ _ = _
      unfold fX4_fillFactor_s16
      rw [c_pc hC, if_pos (by rw [e_le (by omega) (by omega)]; exact Nat.le_refl _)]
    · rw [show (128 : Int32) * nI A.1 = nI (128 * A.1) from pk_mul 128 A.1]
      have h := (ffv_ok hA).1 c
      unfold fpz at h ⊢
      rw [h, Option.bind_some]
theorem m_factor {y : TM} (hA : WA A) (hR : RA y.2.1 A) : fX5_factor y = some (ffv A) := by
  have hn := hA.1
  have e0 : rd y.2.1 10724 (0 : Int32) = some (nI A.1) := m_n hR
  unfold fX5_factor
  refine itrB (fun p => (nI (ssm A p), nI p)) (nI (ssm A A.1)) A.1 rfl ?_ ?_ (by omega) ?_
  · intro p hp
    show fX5_factor_s4 y _ _ = some (.inl (nI (ssm A p + sm (A.2.1 p) (A.2.1 p).1), nI (p + 1)))
    unfold fX5_factor_s4
    rw [e0, Option.bind_some, if_neg (by rw [e_le (by omega) (by omega)]; omega), m_sizes (by omega) (hA.2.1 p (by omega)) (hR.2.2.2.2 p (by omega)), Option.bind_some]
    simp only [lit, nI_add]
  · show fX5_factor_s4 y _ _ = _
    unfold fX5_factor_s4
    rw [e0, Option.bind_some, if_pos (by rw [e_le (by omega) (by omega)]; exact Nat.le_refl _)]
  · rw [e0, Option.bind_some]
    by_cases c : A.1 = 0
    · unfold ffv
      rw [c, if_pos (show nI 0 = (0 : Int32) from rfl), if_pos rfl]
    · rw [if_neg (nI_ne0 (by omega) (by omega)), Option.bind_some, show (128 : Int32) * nI A.1 = nI (128 * A.1) from pk_mul 128 A.1]
      have e : ffv A = fpz A.1 (ssm A A.1) := if_neg c
      rw [e]
      have h := (ffv_ok hA).1 c
      unfold fpz at h ⊢
      rw [h, Option.bind_some]
def hb8 (A : AS) (p : Nat) (h : Int64) : Nat → Int64
  | 0 => h
  | o + 1 => (31 : Int64) * hb8 A p h o + (pby A p o).toInt64
def hpg (A : AS) (h : Int64) : Nat → Int64
  | 0 => h
  | p + 1 => hb8 A p ((31 : Int64) * ((31 : Int64) * hpg A h p + (nI (fr (A.2.1 p))).toInt64) + (nI (gp A p)).toInt64) 128
def hst (A : AS) : Int64 := (31 : Int64) * ((31 : Int64) * ((31 : Int64) * ((31 : Int64) * ((31 : Int64) * ((31 : Int64) * (4436 : Int64) + (nI A.1).toInt64) + (nI (ct (fun x => kb A 1 x || kb A 2 x) (100 * A.1))).toInt64) + (nI (ct (kb A 2) (100 * A.1))).toInt64) + A.2.2.1.toInt64) + A.2.2.2.1.toInt64) + A.2.2.2.2.toInt64
theorem c_digest {u : TH} (hA : WA A) (hC : CA u.1.1 A) {v : Int32} (hv : fX4_bitsOfFraction (FP.d2f (ffv A)) = some v) : fX4_digest u = some ((31 : Int64) * hpg A (hst A) A.1 + v.toInt64) := by
  have hn := hA.1
  have e1 : u.1.1.1.2.1 = A.2.2.1 := by rw [hC.1]
  have e2 : u.1.1.1.2.2.1 = A.2.2.2.1 := by rw [hC.1]
  have e3 : u.1.1.1.2.2.2 = A.2.2.2.2 := by rw [hC.1]
  unfold fX4_digest
  rw [c_rows hA hC, Option.bind_some, c_notes hA hC, Option.bind_some, c_pc hC, e1, e2, e3]
  refine itrB (fun p => (hpg A (hst A) p, nI p)) (hpg A (hst A) A.1) A.1 rfl ?_ ?_ (by omega) ?_
  · intro p hp
    show fX4_digest_s90 u (hpg A (hst A) p) (nI p) = some (.inl (hb8 A p ((31 : Int64) * ((31 : Int64) * hpg A (hst A) p + (nI (fr (A.2.1 p))).toInt64) + (nI (gp A p)).toInt64) 128, nI (p + 1)))
    generalize hpg A (hst A) p = h
    unfold fX4_digest_s90
    rw [c_pc hC, if_neg (by rw [e_le (by omega) (by omega)]; omega), c_free (by omega) (hA.2.1 p (by omega)) (hC.2.1 p hp), Option.bind_some, c_count (by omega) (hC.2.1 p hp), Option.bind_some, c_gap hA hC hp, Option.bind_some]
    generalize (31 : Int64) * ((31 : Int64) * h + (nI (fr (A.2.1 p))).toInt64) + (nI (gp A p)).toInt64 = g
    rw [itr0 (step := fun a : Int64 × Int32 × Int32 => fX4_digest_s144 u a.1 a.2.1 a.2.2) (fun o => (hb8 A p g o, nI p, nI o)) (hb8 A p g 128, nI p) 128 ?a0 ?a1 ?a2 (by omega), Option.bind_some]
    · simp only [lit, nI_add]
    case a0 => rfl
    case a1 =>
      intro o ho
      show fX4_digest_s144 u (hb8 A p g o) (nI p) (nI o) = some (.inl ((31 : Int64) * hb8 A p g o + (pby A p o).toInt64, nI p, nI (o + 1)))
      unfold fX4_digest_s144
      rw [if_neg (by rw [show (128 : Int32) = nI 128 from rfl, e_le (by omega) (by omega)]; omega), c_pby hA hC hp ho, Option.bind_some]
      simp only [lit, nI_add]
    case a2 =>
      show fX4_digest_s144 u _ _ (nI 128) = _
      unfold fX4_digest_s144
      rw [if_pos (by decide)]
  · show fX4_digest_s90 u _ _ = _
    unfold fX4_digest_s90
    rw [c_pc hC, if_pos (by rw [e_le (by omega) (by omega)]; exact Nat.le_refl _)]
  · rw [c_factor hA hC, Option.bind_some, (ffv_ok hA).2.1, Option.bind_some, hv, Option.bind_some]
def sth (y : TM) (H : Int64) : TM := ((0, y.1.2.1, y.1.2.2.1, y.1.2.2.2.1, y.1.2.2.2.2.1, y.1.2.2.2.2.2.1, y.1.2.2.2.2.2.2.1, H), y.2)
theorem mixE {y : TM} {H v : Int64} : fX5_mix (sth y H) v = some (sth y ((31 : Int64) * H + v)) := rfl
theorem m_digest {y : TM} (hA : WA A) (hR : RA y.2.1 A) {v : Int32} (hv : fX5_bits (FP.d2f (ffv A)) = some v) : fX5_digest y = some ((31 : Int64) * hpg A (hst A) A.1 + v.toInt64, sth y ((31 : Int64) * hpg A (hst A) A.1 + v.toInt64)) := by
  have hn := hA.1
  have e0 : ∀ H, rd (sth y H).2.1 10724 (0 : Int32) = some (nI A.1) := fun H => m_n hR
  have e1 : ∀ H, rd (sth y H).2.1 10724 (1 : Int32) = some A.2.2.1 := fun H => by
    show rd y.2.1 10724 (nI 1) = _
    rw [rdN (by omega) (by omega), hR.2.1]
  have e2 : ∀ H, rd (sth y H).2.1 10724 (2 : Int32) = some A.2.2.2.1 := fun H => by
    show rd y.2.1 10724 (nI 2) = _
    rw [rdN (by omega) (by omega), hR.2.2.1]
  have e3 : ∀ H, rd (sth y H).2.1 10724 (3 : Int32) = some A.2.2.2.2 := fun H => by
    show rd y.2.1 10724 (nI 3) = _
    rw [rdN (by omega) (by omega), hR.2.2.2.1]
  have r1 : ∀ H, fX5_counted (sth y H) (1 : Int32) (2 : Int32) = some (nI (ct (fun x => kb A 1 x || kb A 2 x) (100 * A.1))) := fun H => m_rows (y := sth y H) hA hR
  have r2 : ∀ H, fX5_counted (sth y H) (2 : Int32) (2 : Int32) = some (nI (ct (kb A 2) (100 * A.1))) := fun H => m_notes (y := sth y H) hA hR
  unfold fX5_digest
  show ((rd (sth y 0).2.1 10724 (0 : Int32)).bind fun z11 => ((fX5_mix (sth y 4436) z11.toInt64).bind _)) = _
  rw [e0, Option.bind_some, mixE, Option.bind_some, r1, Option.bind_some, mixE, Option.bind_some, r2, Option.bind_some, mixE, Option.bind_some, e1, Option.bind_some, mixE, Option.bind_some, e2, Option.bind_some, mixE, Option.bind_some, e3, Option.bind_some, mixE, Option.bind_some]
  refine itrB (fun p => (sth y (hpg A (hst A) p), nI p)) (sth y (hpg A (hst A) A.1)) A.1 rfl ?_ ?_ (by omega) ?_
  · intro p hp
    show fX5_digest_s80 (sth y (hpg A (hst A) p)) (nI p) = some (.inl (sth y (hb8 A p ((31 : Int64) * ((31 : Int64) * hpg A (hst A) p + (nI (fr (A.2.1 p))).toInt64) + (nI (gp A p)).toInt64) 128), nI (p + 1)))
    generalize hpg A (hst A) p = h
    have f1 : ∀ H, fX5_freeOf (sth y H) (nI p) = some (nI (fr (A.2.1 p))) := fun H => m_free (u := sth y H) (by omega) (hA.2.1 p (by omega)) (hR.2.2.2.2 p (by omega))
    have f2 : ∀ H, fX5_gapOf (sth y H) (nI p) = some (nI (gp A p)) := fun H => m_gap (y := sth y H) hA hR hp
    unfold fX5_digest_s80
    rw [e0, Option.bind_some, if_neg (by rw [e_le (by omega) (by omega)]; omega), f1, Option.bind_some, mixE, Option.bind_some, f2, Option.bind_some, mixE, Option.bind_some]
    generalize (31 : Int64) * ((31 : Int64) * h + (nI (fr (A.2.1 p))).toInt64) + (nI (gp A p)).toInt64 = g
    rw [itr0 (step := fun a : TM × Int32 × Int32 => fX5_digest_s112 a.1 a.2.1 a.2.2) (fun o => (sth y (hb8 A p g o), nI p, nI o)) (sth y (hb8 A p g 128), nI p) 128 ?a0 ?a1 ?a2 (by omega), Option.bind_some]
    · simp only [lit, nI_add]
    case a0 => rfl
    case a1 =>
      intro o ho
      have f3 : fX5_byteOfPage (sth y (hb8 A p g o)) (nI p) (nI o) = some (pby A p o) := m_pby (y := sth y (hb8 A p g o)) hA hR hp ho
      show fX5_digest_s112 (sth y (hb8 A p g o)) (nI p) (nI o) = some (.inl (sth y ((31 : Int64) * hb8 A p g o + (pby A p o).toInt64), nI p, nI (o + 1)))
      unfold fX5_digest_s112
      rw [if_neg (by rw [show (128 : Int32) = nI 128 from rfl, e_le (by omega) (by omega)]; omega), f3, Option.bind_some, mixE, Option.bind_some]
      simp only [lit, nI_add]
    case a2 =>
      show fX5_digest_s112 _ _ (nI 128) = _
      unfold fX5_digest_s112
      rw [if_pos (by decide)]
  · show fX5_digest_s80 _ _ = _
    unfold fX5_digest_s80
    rw [e0, Option.bind_some, if_pos (by rw [e_le (by omega) (by omega)]; exact Nat.le_refl _)]
  · have f4 : ∀ H, fX5_factor (sth y H) = some (ffv A) := fun H => m_factor (y := sth y H) hA hR
    rw [f4, Option.bind_some, (ffv_ok hA).2.1, Option.bind_some, hv, Option.bind_some, mixE, Option.bind_some]
    rfl
end DG
