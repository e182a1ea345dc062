def cpt (A : AS) (p : Nat) : AS := bk (sp A p (comp (A.2.1 p))) true
theorem cpt_eff {A : AS} (hA : WA A) (hI : RI A) {p : Nat} (hp : p < A.1) : WA (cpt A p) ∧ RI (cpt A p) := by
  have hW := hA.2.1 p (by have := hA.1; omega)
  have h6 := hW.2.2.2.2.2
  refine ⟨WA_bk (WA_sp hA hp (comp_WF hW.q hW.2.2.1)) _, ?_⟩
  refine RI_step (A' := cpt A p) hA hI (fun _ _ => False) (fun q t _ => Same_sp (A := A) (p := p) (g := comp (A.2.1 p)) fun _ => sg_comp (by omega) t) (fun q t h => h.elim) (fun a b _ _ w => w)
theorem CA_cong {u v : TS} {A : AS} (hA : WA A) (hC : CA u A) (h1 : v.1 = u.1) (h2 : ∀ j, j < 1024 → v.2 j = u.2 j) : CA v A := by
  have hn := hA.1
  refine ⟨h1.trans hC.1, ?_, ?_⟩
  · intro p hp
    have h := hC.2.1 p hp
    have h31 := (hA.2.1 p (by omega)).1
    refine ⟨?_, ?_, ?_, ?_⟩
    · rw [h2 _ (by omega)]; exact h.1
    · rw [h2 _ (by omega)]; exact h.2.1
    · intro s hs1
      rw [h2 _ (by omega), h2 _ (by omega)]; exact h.2.2.1 s hs1
    · intro k k1 k2
      rw [h2 _ (by omega)]; exact h.2.2.2 k k1 k2
  · intro p k1 k2 o ho
    rw [h2 _ (by omega)]; exact hC.2.2 p k1 k2 o ho
theorem RA_cong {f g : Ar} {A : AS} (hR : RA f A) (h : ∀ j, j < 1532 → g j = f j) : RA g A := by
  refine ⟨?_, ?_, ?_, ?_, ?_⟩
  · rw [h _ (by omega)]; exact hR.1
  · rw [h _ (by omega)]; exact hR.2.1
  · rw [h _ (by omega)]; exact hR.2.2.1
  · rw [h _ (by omega)]; exact hR.2.2.2.1
  · intro p hp
    have r := hR.2.2.2.2 p hp
    refine ⟨?_, ?_, ?_⟩
    · rw [h _ (by omega)]; exact r.1
    · intro s hs1
      rw [h _ (by omega), h _ (by omega)]; exact r.2.1 s hs1
    · intro k hk
      rw [h _ (by omega)]; exact r.2.2 k hk
section CM
variable {A : AS} {p : Nat}
theorem c_cpt {u : TP} (hA : WA A) (hC : CA u.1 A) (hp : p < A.1) : ∃ v : TP, fX2_compactPage u (nI p) = some (nI (mvc (A.2.1 p) (A.2.1 p).1), v) ∧ CA v.1 (cpt A p) := by
  have hn := hA.1
  obtain ⟨f, b, h1, h2, h3⟩ := c_comp (u := u) (show p < 8 by omega) (hA.2.1 p (by omega)) (hC.2.1 p hp)
  refine ⟨_, h1, ?_⟩
  have h := CA_sp hA hC hp h2 h3
  refine ⟨?_, h.2⟩
  show (u.1.1.1, u.1.1.2.1, u.1.1.2.2.1, u.1.1.2.2.2 + 1) = _
  rw [hC.1]
  rfl
theorem m_cpt {u : TM} (hA : WA A) (hR : RA u.2.1 A) (hp : p < A.1) : ∃ f m : Ar, fX5_compacts u (nI p) = some (nI (mvc (A.2.1 p) (A.2.1 p).1), u.1, f, u.2.2.1, u.2.2.2.1, m) ∧ RA f (cpt A p) ∧ ∀ j, 1532 ≤ j → f j = u.2.1 j := by
  have hn := hA.1
  obtain ⟨f, m, k1, k2, k3, k4⟩ := m_comp (u := u) (show p < 8 by omega) (hA.2.1 p (by omega)).q (hR.2.2.2.2 p (by omega))
  exact ⟨f, m, k1, RA_sp (b := true) hR (by omega) k2 k4 k3, fun j hj => k4 j (by omega) (by omega)⟩
end CM
def svN (n : Nat) : Nat := if n = 6 then 6 else n + 1
def svK (K : Nat → AS) (n : Nat) (A : AS) : Nat → AS := fun i => if n = 6 then (if i < 5 then K (i + 1) else A) else if i = n then A else K i
theorem copyF (x y : TS) : fX3_copyFrom (x, y) = some ((y.1, va_cpy y.2 x.2 0 0 1024), y) := by
  unfold fX3_copyFrom
  rfl
theorem CA_copy {x y : TS} {A : AS} (hA : WA A) (hC : CA y A) : CA (y.1, va_cpy y.2 x.2 0 0 1024) A := by
  refine CA_cong hA hC rfl (fun j hj => ?_)
  show va_cpy y.2 x.2 0 0 1024 j = y.2 j
  unfold va_cpy
  rw [if_pos (by omega), Nat.zero_add, Nat.sub_zero]
section SV
variable {A : AS} {K : Nat → AS} {n : Nat}
theorem c_save16 {u : THS} (hn : n ≤ 5) (hS : u.1.2.2.2.2.2 = nI n) : fX4_saveState_j16 u = some ((u.1.1, u.1.2.1, u.1.2.2.1, u.1.2.2.2.1, u.1.2.2.2.2.1, nI (n + 1)), va_up u.2.1 n (u.1.1.1.1, va_cpy u.1.1.1.2 (u.2.1 n).2 0 0 1024), u.2.2) := by
  obtain ⟨⟨u1, u2, u3, u4, u5, u6⟩, u7, u8⟩ := u
  change u6 = nI n at hS
  subst hS
  unfold fX4_saveState_j16
  simp only [copyF]
  have hc : n = 0 ∨ n = 1 ∨ n = 2 ∨ n = 3 ∨ n = 4 ∨ n = 5 := by omega
  rcases hc with rfl | rfl | rfl | rfl | rfl | rfl
  · rw [if_neg (by decide), if_neg (by decide), if_pos (by decide)]; rfl
  · rw [if_neg (by decide), if_neg (by decide), if_neg (by decide), if_pos (by decide)]; rfl
  · rw [if_neg (by decide), if_neg (by decide), if_neg (by decide), if_neg (by decide), if_pos (by decide)]; rfl
  · rw [if_neg (by decide), if_neg (by decide), if_neg (by decide), if_neg (by decide), if_neg (by decide), if_pos (by decide)]; rfl
  · rw [if_neg (by decide), if_neg (by decide), if_neg (by decide), if_neg (by decide), if_neg (by decide), if_neg (by decide), if_pos (by decide)]; rfl
  · rw [if_neg (by decide), if_neg (by decide), if_neg (by decide), if_neg (by decide), if_neg (by decide), if_neg (by decide), if_neg (by decide), if_pos (by decide)]; rfl
theorem c_disc {u : THS} (hS : u.1.2.2.2.2.2 = nI 6) : fX4_saveState u = some ((u.1.1, u.1.2.1, u.1.2.2.1, u.1.2.2.2.1, u.1.2.2.2.2.1, nI 6), va_up (rot u.2.1) 5 (u.1.1.1.1, va_cpy u.1.1.1.2 (rot u.2.1 5).2 0 0 1024), rot u.2.2.1, rot u.2.2.2) := by
  have h := c_save16 (n := 5) (u := ((u.1.1, u.1.2.1, u.1.2.2.1, u.1.2.2.2.1, u.1.2.2.2.2.1, nI 5), rot u.2.1, rot u.2.2.1, rot u.2.2.2)) (by omega) rfl
  unfold fX4_saveState
  rw [hS, if_neg (by decide)]
  unfold fX4_discardOldest
  rw [Option.bind_some, hS, show nI 6 - (1 : Int32) = nI 5 from nI_pred 5]
  exact h
theorem c_save {u : THS} (hA : WA A) (hC : CA u.1.1.1 A) (hn : n ≤ 6) (hS : u.1.2.2.2.2.2 = nI n) (hV : ∀ i, i < n → CA (u.2.1 i) (K i)) : ∃ (v : Nat → TS) (r : (Nat → Nat) × (Nat → Nat)), fX4_saveState u = some ((u.1.1, u.1.2.1, u.1.2.2.1, u.1.2.2.2.1, u.1.2.2.2.2.1, nI (svN n)), v, r) ∧ ∀ i, i < svN n → CA (v i) (svK K n A i) := by
  by_cases c : n = 6
  · rw [show svN n = 6 from if_pos c]
    refine ⟨_, _, c_disc (by rw [hS, c]), ?_⟩
    intro i hi
    unfold svK
    rw [if_pos c]
    by_cases d : i < 5
    · rw [va_upN (by omega), if_pos d]
      unfold rot
      rw [if_pos d]
      exact hV (i + 1) (by omega)
    · rw [show i = 5 by omega, va_upS, if_neg (by omega)]
      exact CA_copy hA hC
  · rw [show svN n = n + 1 from if_neg c]
    have e : fX4_saveState u = fX4_saveState_j16 u := by
      unfold fX4_saveState
      rw [hS, if_pos (by rw [show (6 : Int32) = nI 6 from rfl, e_lt (by omega) (by omega)]; omega)]
    rw [e]
    refine ⟨_, _, c_save16 (by omega) hS, ?_⟩
    intro i hi
    unfold svK
    rw [if_neg c]
    by_cases d : i = n
    · rw [d, va_upS, if_pos rfl]
      exact CA_copy hA hC
    · rw [va_upN d, if_neg d]
      exact hV i (by omega)
theorem svK_ok (hA : WA A) (hI : RI A) (hn : n ≤ 6) (hV : ∀ i, i < n → WA (K i) ∧ RI (K i)) : ∀ i, i < svN n → WA (svK K n A i) ∧ RI (svK K n A i) := by
  intro i hi
  unfold svK svN at *
  by_cases c : n = 6
  · rw [if_pos c] at hi ⊢
    by_cases d : i < 5
    · rw [if_pos d]; exact hV (i + 1) (by omega)
    · rw [if_neg d]; exact ⟨hA, hI⟩
  · rw [if_neg c] at hi ⊢
    by_cases d : i = n
    · rw [if_pos d]; exact ⟨hA, hI⟩
    · rw [if_neg d]; exact hV i (by omega)
theorem m_copies {u : TM} {a b : Nat} (ha : a ≤ 6) (hb : b ≤ 6) (hab : a ≠ b) : fX5_copies u (nI a) (nI b) = some (u.1, cpy u.2.1 (1532 * b) 1532 (fun i => u.2.1 (1532 * a + i)), u.2.2) := by
  unfold fX5_copies
  refine itrB (fun i => ((u.1, cpy u.2.1 (1532 * b) i (fun i => u.2.1 (1532 * a + i)), u.2.2), nI a, nI b, nI i)) (u.1, cpy u.2.1 (1532 * b) 1532 (fun i => u.2.1 (1532 * a + i)), u.2.2) 1532 ?_ ?_ ?_ (by omega) rfl
  · show ((u.1, cpy u.2.1 (1532 * b) 0 (fun i => u.2.1 (1532 * a + i)), u.2.2), nI a, nI b, nI 0) = _
    rw [cpy_0]; rfl
  · intro j hj
    show fX5_copies_s2 (u.1, cpy u.2.1 (1532 * b) j (fun i => u.2.1 (1532 * a + i)), u.2.2) _ _ _ = some (.inl ((u.1, cpy u.2.1 (1532 * b) (j + 1) (fun i => u.2.1 (1532 * a + i)), u.2.2), _))
    unfold fX5_copies_s2
    simp (disch := omega) only [lit, e_le, if_neg (show ¬ 1532 ≤ j by omega), pk_mul, nI_add, rdN, wrN, Option.bind_some]
    rw [cpy_out (by omega), ← cpy_s]
  · show fX5_copies_s2 _ _ _ _ = _
    unfold fX5_copies_s2
    simp (disch := omega) only [lit, e_le, Nat.le_refl, if_true]
theorem m_save50 {u : TM} (hR : RA u.2.1 A) {t0 : Int32} {t1 : Int32} {k : Nat} (hk : t1 + t0 = nI k) (h1 : 1 ≤ k) (h6 : k ≤ 6) : ∃ f : Ar, fX5_save_j50 u t0 t1 = some ((u.1.1, nI k, u.1.2.2), f, u.2.2) ∧ (∀ j, j < 1532 * k → f j = u.2.1 j) ∧ RA (fun j => f (1532 * k + j)) A := by
  unfold fX5_save_j50
  rw [hk, show (0 : Int32) = nI 0 from rfl, m_copies (by omega) h6 (by omega), Option.bind_some]
  refine ⟨_, rfl, fun j hj => ?_, ?_⟩
  · show cpy _ _ _ _ j = _
    rw [cpy_out (by omega)]
  · refine RA_cong hR (fun j hj => ?_)
    show cpy _ _ _ _ _ = _
    rw [cpy_in (by omega), Nat.add_sub_cancel_left, Nat.mul_zero, Nat.zero_add]
theorem m_save {u : TM} (hR : RA u.2.1 A) (hn : n ≤ 6) (hS : u.1.2.1 = nI n) (hV : ∀ i, i < n → RA (fun j => u.2.1 (1532 * (i + 1) + j)) (K i)) : ∃ f : Ar, fX5_save u = some ((u.1.1, nI (svN n), u.1.2.2), f, u.2.2) ∧ RA f A ∧ ∀ i, i < svN n → RA (fun j => f (1532 * (i + 1) + j)) (svK K n A i) := by
  unfold fX5_save
  by_cases c : n = 6
  · have hloop : ∃ d, itr (fun a : TM × Int32 => fX5_save_s2 a.1 a.2) FU (u, (1 : Int32)) = some d ∧ ∃ f : Ar, d = (u.1, f, u.2.2) ∧ (∀ j, j < 1532 → f j = u.2.1 j) ∧ ∀ r, 1 ≤ r → r ≤ 5 → ∀ j, j < 1532 → f (1532 * r + j) = u.2.1 (1532 * (r + 1) + j) := by
      refine itrI (fun i x => ∃ f : Ar, x = ((u.1, f, u.2.2), nI (i + 1)) ∧ (∀ j, j < 1532 → f j = u.2.1 j) ∧ (∀ r, 1 ≤ r → r ≤ i → ∀ j, j < 1532 → f (1532 * r + j) = u.2.1 (1532 * (r + 1) + j)) ∧ ∀ j, 1532 * (i + 1) ≤ j → f j = u.2.1 j) _ 5 ⟨u.2.1, rfl, fun _ _ => rfl, fun r h1 h2 => by omega, fun _ _ => rfl⟩ ?_ ?_ (by omega)
      · intro i x hi hx
        obtain ⟨f, rfl, g1, g2, g3⟩ := hx
        refine ⟨_, ?_, cpy f (1532 * (i + 1)) 1532 (fun j => f (1532 * (i + 2) + j)), rfl, ?_, ?_, ?_⟩
        · show fX5_save_s2 (u.1, f, u.2.2) _ = _
          unfold fX5_save_s2
          rw [if_neg (by rw [show (6 : Int32) = nI 6 from rfl, e_le (by omega) (by omega)]; omega), if_pos (by show u.1.2.1 = (6 : Int32); rw [hS, c]; rfl), show nI (i + 1) + (1 : Int32) = nI (i + 2) from by rw [show (1 : Int32) = nI 1 from rfl, nI_add], m_copies (by omega) (by omega) (by omega), Option.bind_some]
        · intro j hj
          rw [cpy_out (by omega)]; exact g1 j hj
        · intro r h1 h2 j hj
          by_cases d : r = i + 1
          · rw [d, cpy_in (by omega), Nat.add_sub_cancel_left, g3 _ (by omega)]
          · rw [cpy_out (by omega)]; exact g2 r h1 (by omega) j hj
        · intro j hj
          rw [cpy_out (by omega)]; exact g3 j (by omega)
      · intro x hx
        obtain ⟨f, rfl, g1, g2, g3⟩ := hx
        refine ⟨_, ?_, f, rfl, g1, g2⟩
        show fX5_save_s2 _ (nI (5 + 1)) = _
        unfold fX5_save_s2
        rw [if_pos (by decide)]
    obtain ⟨d, e1, f, rfl, g1, g2⟩ := hloop
    rw [e1, Option.bind_some]
    unfold fX5_save_j31
    obtain ⟨f2, j1, j2, j3⟩ := m_save50 (u := (u.1, f, u.2.2)) (A := A) (t0 := 0) (t1 := u.1.2.1) (k := 6) (RA_cong hR g1) (by rw [hS, c]; decide) (by omega) (by omega)
    rw [if_pos (by show (6 : Int32) ≤ u.1.2.1; rw [hS, c]; decide), j1, show svN n = 6 from if_pos c]
    refine ⟨f2, rfl, RA_cong hR (fun j hj => by rw [j2 j (by omega)]; exact g1 j hj), fun i hi => ?_⟩
    unfold svK
    rw [if_pos c]
    by_cases d : i < 5
    · rw [if_pos d]
      refine RA_cong (hV (i + 1) (by omega)) (fun j hj => ?_)
      show f2 _ = u.2.1 _
      rw [j2 _ (by omega)]
      exact g2 (i + 1) (by omega) (by omega) j hj
    · rw [if_neg d, show i = 5 by omega]
      exact j3
  · have hloop : itr (fun a : TM × Int32 => fX5_save_s2 a.1 a.2) FU (u, (1 : Int32)) = some u := by
      refine itr0 (fun _ => (u, (1 : Int32))) u 0 rfl (fun j hj => absurd hj (Nat.not_lt_zero j)) ?_ (by omega)
      show fX5_save_s2 u (1 : Int32) = _
      unfold fX5_save_s2
      rw [if_neg (by decide), if_neg (by rw [hS, show (6 : Int32) = nI 6 from rfl, e_eq (by omega) (by omega)]; exact c)]
    rw [hloop, Option.bind_some]
    unfold fX5_save_j31
    rw [if_neg (by rw [hS, show (6 : Int32) = nI 6 from rfl, e_le (by omega) (by omega)]; omega)]
    obtain ⟨f, j1, j2, j3⟩ := m_save50 (u := u) (A := A) (t0 := 1) (t1 := u.1.2.1) (k := n + 1) hR (by rw [hS, show (1 : Int32) = nI 1 from rfl, nI_add]) (by omega) (by omega)
    rw [j1, show svN n = n + 1 from if_neg c]
    refine ⟨f, rfl, RA_cong hR (fun j hj => j2 j (by omega)), fun i hi => ?_⟩
    unfold svK
    rw [if_neg c]
    by_cases d : i = n
    · rw [if_pos d, d]
      exact j3
    · rw [if_neg d]
      exact RA_cong (hV i (by omega)) (fun j hj => j2 _ (by omega))
end SV
