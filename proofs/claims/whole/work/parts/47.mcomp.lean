section MD
variable {p : Nat} {g : PG}
theorem m_comp {u : TM} (hp : p < 8) (hW : WQ g) (hR : RP u.2.1 p g) : ∃ (f m : Ar), fX5_compacts u (nI p) = some (nI (mvc g g.1), (u.1, f, u.2.2.1, u.2.2.2.1, m)) ∧ RP f p (comp g) ∧ f 3 = u.2.1 3 + 1 ∧ ∀ j, j ≠ 3 → ¬ (4 + 191 * p ≤ j ∧ j < 4 + 191 * p + 191) → f j = u.2.1 j := by
  have h31 := hW.1
  have hsm := hW.2.2
  unfold fX5_compacts
  obtain ⟨m0, hm0⟩ : ∃ m0 : Ar, m0 = zf u.2.2.2.2 0 128 := ⟨_, rfl⟩
  rw [itr0 (step := fun a : TM × Int32 × Int32 => fX5_compacts_s2 a.1 a.2.1 a.2.2) (fun i => ((u.1, u.2.1, u.2.2.1, u.2.2.2.1, zf u.2.2.2.2 0 i), nI p, nI i)) ((u.1, u.2.1, u.2.2.1, u.2.2.2.1, m0), nI p) 128 ?a1 ?a2 ?a3 (by omega), Option.bind_some]
  case a1 => rw [zf_0]; rfl
  case a2 =>
    intro j hj
    show fX5_compacts_s2 (u.1, u.2.1, u.2.2.1, u.2.2.2.1, zf u.2.2.2.2 0 j) _ _ = some (.inl ((u.1, u.2.1, u.2.2.1, u.2.2.2.1, zf u.2.2.2.2 0 (j + 1)), _))
    unfold fX5_compacts_s2
    simp (disch := omega) only [liN, e_le, if_neg (show ¬ 128 ≤ j by omega), wrN, Option.bind_some, nI_add]
    rw [← zf_s, Nat.zero_add]; rfl
  case a3 =>
    show fX5_compacts_s2 _ _ _ = _
    unfold fX5_compacts_s2
    rw [hm0]
    simp (disch := omega) only [liN, e_le, Nat.le_refl, if_true]
  have hloop : ∃ d, itr (fun a : TM × Int32 × Int32 × Int32 × Int32 => fX5_compacts_s31 a.1 a.2.1 a.2.2.1 a.2.2.2.1 a.2.2.2.2) FU ((u.1, u.2.1, u.2.2.1, u.2.2.2.1, m0), nI p, (128 : Int32), (0 : Int32), (0 : Int32)) = some d ∧ ∃ (f m : Ar), d = ((u.1, f, u.2.2.1, u.2.2.2.1, m), nI p, nI (mvc g g.1)) ∧ f (4 + 191 * p) = nI g.1 ∧ (∀ t, t < 31 → f (4 + 191 * p + (1 + t)) = nI ((comp g).2.1 t) ∧ f (4 + 191 * p + (32 + t)) = nI (g.2.2.1 t)) ∧ (∀ k, k < 128 → m k = cdat g g.1 k) ∧ ∀ j, ¬ (4 + 191 * p ≤ j ∧ j < 4 + 191 * p + 191) → f j = u.2.1 j := by
    refine itrI (fun s x => ∃ (f m : Ar), x = ((u.1, f, u.2.2.1, u.2.2.2.1, m), nI p, nI (128 - sm g s), nI (mvc g s), nI s) ∧ f (4 + 191 * p) = nI g.1 ∧ (∀ t, t < 31 → f (4 + 191 * p + (1 + t)) = nI (if t < s then cof g t else g.2.1 t) ∧ f (4 + 191 * p + (32 + t)) = nI (g.2.2.1 t)) ∧ (∀ k, k < 128 → f (4 + 191 * p + (63 + k)) = g.2.2.2 k) ∧ (∀ k, k < 128 → m k = cdat g s k) ∧ ∀ j, ¬ (4 + 191 * p ≤ j ∧ j < 4 + 191 * p + 191) → f j = u.2.1 j) _ g.1 ?_ ?_ ?_ (by omega)
    · refine ⟨_, _, rfl, hR.1, ?_, hR.2.2, ?_, fun _ _ => rfl⟩
      · intro t ht
        rw [if_neg (Nat.not_lt_zero t)]
        exact hR.2.1 t ht
      · intro k h2
        rw [hm0, zf_in (by omega)]; rfl
    · intro s x hs hx
      obtain ⟨f, m, rfl, f1, f2, f3, f4, f5⟩ := hx
      have hm := sm_mono g (s + 1) g.1 (by omega)
      have hms := sm_s g s
      have hL := hW.len hs
      have hO := hW.off hs
      have hrec : g.2.2.1 s = 0 ∧ g.2.1 s = 0 ∨ (3 ≤ g.2.2.1 s ∧ g.2.1 s + g.2.2.1 s ≤ 128) := by rcases hW.2.1 s hs with q | q <;> omega
      obtain ⟨lo, hlo⟩ : ∃ lo, lo = 128 - sm g (s + 1) := ⟨_, rfl⟩
      have hf2 := f2 s (by omega)
      rw [if_neg (Nat.lt_irrefl s)] at hf2
      obtain ⟨mc, hmc⟩ : ∃ mc : Ar, mc = cpy m lo (g.2.2.1 s) (fun i => g.2.2.2 (g.2.1 s + i)) := ⟨_, rfl⟩
      have hdat : ∀ k, k < 128 → mc k = cdat g (s + 1) k := by
        intro k h2
        have := cdat_cpy (f := m) (p := 0) (g := g) (n := s) (by omega) (h := fun i => g.2.2.2 (g.2.1 s + i)) (fun i _ => rfl) 0 (fun k _ h2 => by rw [Nat.zero_add]; exact f4 k h2) k (Nat.zero_le k) h2
        rw [Nat.zero_add, Nat.zero_add, ← hlo, ← hmc] at this
        exact this
      have hrest : ∀ (m' v : Nat), (m' = mvc g (s + 1)) → (v = cof g s) → ∃ y, (fX5_lay (u.1, f, u.2.2.1, u.2.2.2.1, mc) (nI p) (nI (1 + s)) (nI v)).bind (fun z4 => some (Sum.inl (β := TM × Int32 × Int32) (z4, nI p, nI lo, nI m', nI (s + 1)))) = some (.inl y) ∧ ∃ (f9 m9 : Ar), y = ((u.1, f9, u.2.2.1, u.2.2.2.1, m9), nI p, nI (128 - sm g (s + 1)), nI (mvc g (s + 1)), nI (s + 1)) ∧ f9 (4 + 191 * p) = nI g.1 ∧ (∀ t, t < 31 → f9 (4 + 191 * p + (1 + t)) = nI (if t < s + 1 then cof g t else g.2.1 t) ∧ f9 (4 + 191 * p + (32 + t)) = nI (g.2.2.1 t)) ∧ (∀ k, k < 128 → f9 (4 + 191 * p + (63 + k)) = g.2.2.2 k) ∧ (∀ k, k < 128 → m9 k = cdat g (s + 1) k) ∧ ∀ j, ¬ (4 + 191 * p ≤ j ∧ j < 4 + 191 * p + 191) → f9 j = u.2.1 j := by
        intro m' v e1 e2
        rw [m_lay (by omega), Option.bind_some]
        refine ⟨_, rfl, upd f (4 + 191 * p + (1 + s)) (nI v), mc, by rw [e1, hlo], ?_, ?_, ?_, hdat, ?_⟩
        · rw [updN (by omega), f1]
        · intro t ht
          refine ⟨?_, ?_⟩
          · by_cases c : t = s
            · rw [c, updS, e2, if_pos (by omega)]
            · rw [updN (by omega), (f2 t ht).1]
              by_cases d : t < s
              · rw [if_pos d, if_pos (by omega)]
              · rw [if_neg d, if_neg (by omega)]
          · rw [updN (by omega), (f2 t ht).2]
        · intro k h2
          rw [updN (by omega), f3 k h2]
        · intro j hj
          rw [updN (by omega), f5 j hj]
      show ∃ y, fX5_compacts_s31 (u.1, f, u.2.2.1, u.2.2.2.1, m) (nI p) (nI (128 - sm g s)) (nI (mvc g s)) (nI s) = some (.inl y) ∧ _
      unfold fX5_compacts_s31 fX5_compacts_j113 fX5_compacts_j114 fX5_compacts_j132 fX5_sizeOf
      simp (disch := omega) only [liN, nI_add, m_of, Nat.add_zero, Option.bind_some, f1, hf2.1, hf2.2, e_le, if_neg (show ¬ g.1 ≤ s by omega), e_sub]
      rw [show 128 - sm g s - g.2.2.1 s = lo by omega]
      rw [itr0 (step := fun a : TM × Int32 × Int32 × Int32 × Int32 × Int32 × Int32 => fX5_compacts_s59 a.1 a.2.1 a.2.2.1 a.2.2.2.1 a.2.2.2.2.1 a.2.2.2.2.2.1 a.2.2.2.2.2.2) (fun i => ((u.1, f, u.2.2.1, u.2.2.2.1, cpy m lo i (fun i => g.2.2.2 (g.2.1 s + i))), nI p, nI lo, nI (mvc g s), nI s, nI (g.2.2.1 s), nI i)) ((u.1, f, u.2.2.1, u.2.2.2.1, mc), nI p, nI lo, nI (mvc g s), nI s, nI (g.2.2.1 s)) (g.2.2.1 s) ?c1 ?c2 ?c3 (by omega), Option.bind_some]
      case c1 => rw [cpy_0]
      case c2 =>
        intro j hj
        show fX5_compacts_s59 (u.1, f, u.2.2.1, u.2.2.2.1, cpy m lo j (fun i => g.2.2.2 (g.2.1 s + i))) _ _ _ _ _ _ = some (.inl ((u.1, f, u.2.2.1, u.2.2.2.1, cpy m lo (j + 1) (fun i => g.2.2.2 (g.2.1 s + i))), _))
        unfold fX5_compacts_s59 fX5_byteAt
        simp (disch := omega) only [liN, e_le, if_neg (show ¬ g.2.2.1 s ≤ j by omega), nI_add, m_of, hf2.1, Option.bind_some, wrN]
        rw [← cpy_s, show 63 + g.2.1 s + j = 63 + (g.2.1 s + j) by omega, f3 _ (by omega)]
      case c3 =>
        show fX5_compacts_s59 _ _ _ _ _ _ _ = _
        unfold fX5_compacts_s59
        rw [hmc]
        simp (disch := omega) only [liN, e_le, Nat.le_refl, if_true]
      have hml := mvc_le g s
      simp (disch := omega) only [m_of, hf2.1, Option.bind_some, e_le, e_eq, nI_add]
      by_cases c0 : g.2.2.1 s = 0
      · rw [if_pos (by omega), if_pos (by omega)]
        exact hrest (mvc g s) 0 (by rw [mvc_s, if_pos (Or.inl c0)]) (by unfold cof; rw [if_pos c0])
      · simp only [if_neg (show ¬ g.2.2.1 s ≤ 0 by omega)]
        by_cases c1 : g.2.1 s = lo
        · rw [if_pos c1]
          exact hrest (mvc g s) lo (by rw [mvc_s, if_pos (Or.inr (by omega))]) (by unfold cof; rw [if_neg c0, hlo])
        · rw [if_neg c1]
          exact hrest (mvc g s + 1) lo (by rw [mvc_s, if_neg (by omega)]) (by unfold cof; rw [if_neg c0, hlo])
    · intro x hx
      obtain ⟨f, m, rfl, f1, f2, f3, f4, f5⟩ := hx
      refine ⟨_, ?_, f, m, rfl, f1, ?_, f4, f5⟩
      · show fX5_compacts_s31 _ _ _ _ _ = _
        unfold fX5_compacts_s31
        simp (disch := omega) only [liN, m_of, Nat.add_zero, f1, Option.bind_some, e_le, Nat.le_refl, if_true]
      · intro t ht
        exact f2 t ht
  obtain ⟨d, hd, f, m, rfl, f1, f2, f4, f5⟩ := hloop
  rw [hd, Option.bind_some]
  rw [itr0 (step := fun a : TM × Int32 × Int32 × Int32 => fX5_compacts_s144 a.1 a.2.1 a.2.2.1 a.2.2.2) (fun i => ((u.1, cpy f (4 + 191 * p + 63) i m, u.2.2.1, u.2.2.2.1, m), nI p, nI (mvc g g.1), nI i)) ((u.1, cpy f (4 + 191 * p + 63) 128 m, u.2.2.1, u.2.2.2.1, m), nI (mvc g g.1)) 128 ?d1 ?d2 ?d3 (by omega), Option.bind_some]
  case d1 => rw [cpy_0]; rfl
  case d2 =>
    intro j hj
    show fX5_compacts_s144 (u.1, cpy f (4 + 191 * p + 63) j m, u.2.2.1, u.2.2.2.1, m) _ _ _ = some (.inl ((u.1, cpy f (4 + 191 * p + 63) (j + 1) m, u.2.2.1, u.2.2.2.1, m), _))
    unfold fX5_compacts_s144
    simp (disch := omega) only [liN, e_le, if_neg (show ¬ 128 ≤ j by omega), rdN, m_lay, Option.bind_some, nI_add]
    rw [← cpy_s, show 4 + 191 * p + 63 + j = 4 + 191 * p + (63 + j) by omega]
  case d3 =>
    show fX5_compacts_s144 _ _ _ _ = _
    unfold fX5_compacts_s144
    simp (disch := omega) only [liN, e_le, Nat.le_refl, if_true]
  simp (disch := omega) only [liN, rdN, wrN, Option.bind_some]
  refine ⟨_, _, rfl, ⟨?_, ?_, ?_⟩, ?_, ?_⟩
  · rw [updN (by omega), cpy_out (by omega), f1]; rfl
  · intro t ht
    rw [updN (by omega), updN (by omega), cpy_out (by omega), cpy_out (by omega)]
    exact f2 t ht
  · intro k hk
    rw [updN (by omega), cpy_in (by omega), show 4 + 191 * p + (63 + k) - (4 + 191 * p + 63) = k by omega]
    exact f4 k hk
  · rw [updS, cpy_out (by omega), f5 3 (by omega)]
  · intro j h3 hj
    rw [updN h3, cpy_out (by omega), f5 j hj]
end MD
