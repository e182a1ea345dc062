def cpt (A : AS) (p : Nat) : AS := bk (sp A p (comp (A.2.1 p))) true
theorem cpt_eff {A : AS} (hA : WA A) (hI : RI A) {p : Nat} (hp : p < A.1) : WA (cpt A p) ∧ RI (cpt A p) := by
  have hW := hA.2.1 p (by have := hA.1; omega)
  have h6 := hW.2.2.2.2.2
  refine ⟨WA_bk (WA_sp hA hp (comp_WF hW.q hW.2.2.1)) _, ?_⟩
  refine RI_step (A' := cpt A p) hA hI (fun _ _ => False) (fun q t _ => Same_sp (A := A) (p := p) (g := comp (A.2.1 p)) fun _ => sg_comp (by omega) t) (fun q t h => h.elim) (fun a b _ _ w => w)
theorem CA_cong {u v : TS} {A : AS} (hA : WA A) (hC : CA u A) (h1 : v.1 = u.1) (h2 : ∀ j, j < 1024 → v.2 j = u.2 j) : CA v A := by
  have hn := hA.1
  refine ⟨h1.trans hC.1, ?_, ?_⟩
  · intro p hp
    have h := hC.2.1 p hp
    have h31 := (hA.2.1 p (by omega)).1
    refine ⟨?_, ?_, ?_, ?_⟩
    · rw [h2 _ (by omega)]; exact h.1
    · rw [h2 _ (by omega)]; exact h.2.1
    · intro s hs1
      rw [h2 _ (by omega), h2 _ (by omega)]; exact h.2.2.1 s hs1
    · intro k k1 k2
      rw [h2 _ (by omega)]; exact h.2.2.2 k k1 k2
  · intro p k1 k2 o ho
    rw [h2 _ (by omega)]; exact hC.2.2 p k1 k2 o ho
section CM
variable {A : AS} {p : Nat}
theorem c_cpt {u : TP} (hA : WA A) (hC : CA u.1 A) (hp : p < A.1) : ∃ v : TP, fX2_compactPage u (nI p) = some (nI (mvc (A.2.1 p) (A.2.1 p).1), v) ∧ CA v.1 (cpt A p) := by
  have hn := hA.1
  obtain ⟨f, b, h1, h2, h3⟩ := c_comp (u := u) (show p < 8 by omega) (hA.2.1 p (by omega)) (hC.2.1 p hp)
  refine ⟨_, h1, ?_⟩
  have h := CA_sp hA hC hp h2 h3
  refine ⟨?_, h.2⟩
  show (u.1.1.1, u.1.1.2.1, u.1.1.2.2.1, u.1.1.2.2.2 + 1) = _
  rw [hC.1]
  rfl
end CM
def svN (n : Nat) : Nat := if n = 6 then 6 else n + 1
def svK (K : Nat → AS) (n : Nat) (A : AS) : Nat → AS := fun i => if n = 6 then (if i < 5 then K (i + 1) else A) else if i = n then A else K i
theorem copyF (x y : TS) : fX3_copyFrom (x, y) = some ((y.1, va_cpy y.2 x.2 0 0 1024), y) := by
  unfold fX3_copyFrom
  rfl
theorem CA_copy {x y : TS} {A : AS} (hA : WA A) (hC : CA y A) : CA (y.1, va_cpy y.2 x.2 0 0 1024) A := by
  refine CA_cong hA hC rfl (fun j hj => ?_)
  show va_cpy y.2 x.2 0 0 1024 j = y.2 j
  unfold va_cpy
  rw [if_pos (by omega), Nat.zero_add, Nat.sub_zero]
section SV
variable {A : AS} {K : Nat → AS} {n : Nat}
theorem c_save16 {u : THS} (hn : n ≤ 5) (hS : u.1.2.2.2.2.2 = nI n) : fX4_saveState_j16 u = some ((u.1.1, u.1.2.1, u.1.2.2.1, u.1.2.2.2.1, u.1.2.2.2.2.1, nI (n + 1)), va_up u.2.1 n (u.1.1.1.1, va_cpy u.1.1.1.2 (u.2.1 n).2 0 0 1024), u.2.2) := by
  obtain ⟨⟨u1, u2, u3, u4, u5, u6⟩, u7, u8⟩ := u
  change u6 = nI n at hS
  subst hS
  unfold fX4_saveState_j16
  simp only [copyF]
  have hc : n = 0 ∨ n = 1 ∨ n = 2 ∨ n = 3 ∨ n = 4 ∨ n = 5 := by omega
  rcases hc with rfl | rfl | rfl | rfl | rfl | rfl
  · rw [if_neg (by decide), if_neg (by decide), if_pos (by decide)]; rfl
  · rw [if_neg (by decide), if_neg (by decide), if_neg (by decide), if_pos (by decide)]; rfl
  · rw [if_neg (by decide), if_neg (by decide), if_neg (by decide), if_neg (by decide), if_pos (by decide)]; rfl
  · rw [if_neg (by decide), if_neg (by decide), if_neg (by decide), if_neg (by decide), if_neg (by decide), if_pos (by decide)]; rfl
  · rw [if_neg (by decide), if_neg (by decide), if_neg (by decide), if_neg (by decide), if_neg (by decide), if_neg (by decide), if_pos (by decide)]; rfl
  · rw [if_neg (by decide), if_neg (by decide), if_neg (by decide), if_neg (by decide), if_neg (by decide), if_neg (by decide), if_neg (by decide), if_pos (by decide)]; rfl
theorem c_disc {u : THS} (hS : u.1.2.2.2.2.2 = nI 6) : fX4_saveState u = some ((u.1.1, u.1.2.1, u.1.2.2.1, u.1.2.2.2.1, u.1.2.2.2.2.1, nI 6), va_up (rot u.2.1) 5 (u.1.1.1.1, va_cpy u.1.1.1.2 (rot u.2.1 5).2 0 0 1024), rot u.2.2.1, rot u.2.2.2) := by
  have h := c_save16 (n := 5) (u := ((u.1.1, u.1.2.1, u.1.2.2.1, u.1.2.2.2.1, u.1.2.2.2.2.1, nI 5), rot u.2.1, rot u.2.2.1, rot u.2.2.2)) (by omega) rfl
  unfold fX4_saveState
  rw [hS, if_neg (by decide)]
  unfold fX4_discardOldest
  rw [Option.bind_some, hS, show nI 6 - (1 : Int32) = nI 5 from nI_pred 5]
  exact h
theorem c_save {u : THS} (hA : WA A) (hC : CA u.1.1.1 A) (hn : n ≤ 6) (hS : u.1.2.2.2.2.2 = nI n) (hV : ∀ i, i < n → CA (u.2.1 i) (K i)) : ∃ (v : Nat → TS) (r : (Nat → Nat) × (Nat → Nat)), fX4_saveState u = some ((u.1.1, u.1.2.1, u.1.2.2.1, u.1.2.2.2.1, u.1.2.2.2.2.1, nI (svN n)), v, r) ∧ ∀ i, i < svN n → CA (v i) (svK K n A i) := by
  by_cases c : n = 6
  · rw [show svN n = 6 from if_pos c]
    refine ⟨_, _, c_disc (by rw [hS, c]), ?_⟩
    intro i hi
    unfold svK
    rw [if_pos c]
    by_cases d : i < 5
    · rw [va_upN (by omega), if_pos d]
      unfold rot
      rw [if_pos d]
      exact hV (i + 1) (by omega)
    · rw [show i = 5 by omega, va_upS, if_neg (by omega)]
      exact CA_copy hA hC
  · rw [show svN n = n + 1 from if_neg c]
    have e : fX4_saveState u = fX4_saveState_j16 u := by
      unfold fX4_saveState
      rw [hS, if_pos (by rw [show (6 : Int32) = nI 6 from rfl, e_lt (by omega) (by omega)]; omega)]
    rw [e]
    refine ⟨_, _, c_save16 (by omega) hS, ?_⟩
    intro i hi
    unfold svK
    rw [if_neg c]
    by_cases d : i = n
    · rw [d, va_upS, if_pos rfl]
      exact CA_copy hA hC
    · rw [va_upN d, if_neg d]
      exact hV i (by omega)
theorem svK_ok (hA : WA A) (hI : RI A) (hn : n ≤ 6) (hV : ∀ i, i < n → WA (K i) ∧ RI (K i)) : ∀ i, i < svN n → WA (svK K n A i) ∧ RI (svK K n A i) := by
  intro i hi
  unfold svK svN at *
  by_cases c : n = 6
  · rw [if_pos c] at hi ⊢
    by_cases d : i < 5
    · rw [if_pos d]; exact hV (i + 1) (by omega)
    · rw [if_neg d]; exact ⟨hA, hI⟩
  · rw [if_neg c] at hi ⊢
    by_cases d : i = n
    · rw [if_pos d]; exact ⟨hA, hI⟩
    · rw [if_neg d]; exact hV i (by omega)
end SV

