def mv2 (A : AS) (p s l : Nat) (c : Nat → Int32) : AS := puts A (tp A p s) (ts A p s) (l + 3) (bt (nI 3) p s c)
theorem nI_ne {a b : Nat} (ha : a < 1000) (hb : b < 1000) (h : a ≠ b) : nI a ≠ nI b := by
  intro w
  rw [nI_eq (by omega) (by omega)] at w
  exact h w
theorem RR_moved {A : AS} {p s l q t : Nat} {c : Nat → Int32} (hq : q < 8) (ht : t < 31) (hl : l ≤ 60) (h1 : ln A p s = l + 3) (h2 : ∀ i, i < l + 3 → db A p s i = bt (nI 3) q t c i) : RR A p s := by
  have h0 : db A p s 0 = nI 3 := h2 0 (by omega)
  unfold RR
  rw [h1, h0]
  exact ⟨fun w => absurd w (nI_ne (by omega) (by omega) (by omega)), fun w => absurd w (nI_ne (by omega) (by omega) (by omega)), fun _ w => absurd rfl w, fun _ => ⟨by omega, q, t, hq, ht, h2 1 (by omega), h2 2 (by omega)⟩, fun w => absurd w (nI_ne (by omega) (by omega) (by omega))⟩
theorem RR_note {A : AS} {p s q t : Nat} (h1 : ln A p s = 3) (h0 : db A p s 0 = nI 2) (hd1 : db A p s 1 = nI q) (hd2 : db A p s 2 = nI t) (hh : has A q t) (hne : q ≠ p) (x0 : db A q t 0 = nI 3) (x1 : db A q t 1 = nI p) (x2 : db A q t 2 = nI s) : RR A p s := by
  unfold RR
  rw [h1, h0]
  exact ⟨fun _ => rfl, fun _ => rfl, fun w => absurd rfl w, fun w => absurd w (nI_ne (by omega) (by omega) (by omega)), fun _ => ⟨rfl, q, t, hd1, hd2, hh, hne, x0, x1, x2⟩⟩
section W2
variable {A : AS} {p s l : Nat}
theorem mv2_eff {c : Nat → Int32} (hA : WA A) (hI : RI A) (hk : kn A p s = 2) (hl : l ≤ 60) (hr : l + 3 ≤ rr A (tp A p s) (ts A p s)) : WA (mv2 A p s l c) ∧ RI (mv2 A p s l c) := by
  have q := nt' hA hI hk
  have hb0 := has_b hA q.1
  have hb := has_b hA q.2.2.1
  obtain ⟨k1, k2, k3, k4, k5⟩ := puts_eff (A := A) (p := tp A p s) (s := ts A p s) (z := l + 3) (b := bt (nI 3) p s c) hA q.2.2.1.1 (Nat.le_of_lt q.2.2.1.2.1) hb.2.1 (by omega) (rr_room2 hA q.2.2.1 hr)
  refine ⟨k5, ?_⟩
  have hps := k1 p s (fun w => q.2.2.2.1 w.1.symm)
  obtain ⟨e, d⟩ := hps.2 q.1
  refine RI_step hA hI (fun a b => (a = p ∧ b = s) ∨ (a = tp A p s ∧ b = ts A p s)) (fun a b h => k1 a b (fun w => h (Or.inr w))) ?_ ?_
  · rintro a b (⟨rfl, rfl⟩ | ⟨rfl, rfl⟩) h
    · exact RR_note (q := tp A a b) (t := ts A a b) (by show ln (puts _ _ _ _ _) _ _ = 3; rw [e]; exact q.2.1) (by show db (puts _ _ _ _ _) _ _ _ = _; rw [d 0 (by omega)]; exact (kn_2.mp hk).2) (by show db (puts _ _ _ _ _) _ _ _ = _; rw [d 1 (by omega)]; exact q.2.2.2.2.1) (by show db (puts _ _ _ _ _) _ _ _ = _; rw [d 2 (by omega)]; exact q.2.2.2.2.2.1) k2 q.2.2.2.1 (k4 0 (by omega)) (k4 1 (by omega)) (k4 2 (by omega))
    · exact RR_moved hb0.1 hb0.2.1 hl k3 k4
  · intro a b hk2 hn w
    rcases w with w | w
    · have := kn_tgt hA hI hk2
      rw [w.1, w.2] at this
      omega
    · exact hn (Or.inl (back hA hI hk2 hk w.1 w.2))
end W2

