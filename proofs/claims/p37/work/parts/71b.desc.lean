theorem kn_3 {A : AS} {p s : Nat} : kn A p s = 3 ↔ has A p s ∧ db A p s 0 = nI 3 := by
  have hne : nI 3 ≠ nI 2 := nI_ne (by omega) (by omega) (by omega)
  unfold kn
  constructor
  · intro h
    by_cases c : has A p s
    · rw [if_pos c] at h
      refine ⟨c, ?_⟩
      by_cases d : db A p s 0 = nI 2
      · rw [if_pos d] at h; omega
      · rw [if_neg d] at h
        by_cases e : db A p s 0 = nI 3
        · exact e
        · rw [if_neg e] at h; omega
    · rw [if_neg c] at h; omega
  · rintro ⟨h1, h2⟩
    rw [if_pos h1, h2, if_neg hne, if_pos rfl]
theorem kn_1 {A : AS} {p s : Nat} (h : has A p s) (h2 : db A p s 0 ≠ nI 2) (h3 : db A p s 0 ≠ nI 3) : kn A p s = 1 := by
  unfold kn
  rw [if_pos h, if_neg h2, if_neg h3]
theorem kn_no {A : AS} {p s : Nat} (h : ¬ has A p s) : kn A p s = 0 := if_neg h
theorem bh_0 (l : Nat) (c : Nat → Int32) : (bh l c 0 = nI 4 ∧ l = 0) ∨ (bh l c 0 = nI 5 ∧ l = 1) ∨ (bh l c 0 = nI 1 ∧ 2 ≤ l) := by
  unfold bh
  rw [if_pos rfl]
  by_cases a : l = 0
  · rw [if_pos a]; exact Or.inl ⟨rfl, a⟩
  · rw [if_neg a]
    by_cases b : l = 1
    · rw [if_pos b]; exact Or.inr (Or.inl ⟨rfl, b⟩)
    · rw [if_neg b]; exact Or.inr (Or.inr ⟨rfl, by omega⟩)
theorem bh_ne (l : Nat) (c : Nat → Int32) : bh l c 0 ≠ nI 2 ∧ bh l c 0 ≠ nI 3 := by
  rcases bh_0 l c with ⟨e, -⟩ | ⟨e, -⟩ | ⟨e, -⟩ <;> rw [e] <;> exact ⟨nI_ne (by omega) (by omega) (by omega), nI_ne (by omega) (by omega) (by omega)⟩
def Chg (A A' : AS) (D : Nat → Nat → Prop) : Prop := (∀ q t, ¬ D q t → Same A A' q t) ∧ ∀ a b, kn A a b = 2 → ¬ D a b → ¬ D (tp A a b) (ts A a b)
def D1 (p s : Nat) : Nat → Nat → Prop := fun a b => a = p ∧ b = s
def D2 (A : AS) (p s : Nat) : Nat → Nat → Prop := fun a b => (a = p ∧ b = s) ∨ (kn A p s = 2 ∧ a = tp A p s ∧ b = ts A p s)
def D3 (A : AS) (p s q t : Nat) : Nat → Nat → Prop := fun a b => (a = p ∧ b = s) ∨ (kn A p s = 2 ∧ a = tp A p s ∧ b = ts A p s) ∨ (a = q ∧ b = t)
section DS
variable {A : AS} {p s l : Nat} {c : Nat → Int32}
theorem D2_ok (hA : WA A) (hI : RI A) (hk : kn A p s = 1 ∨ kn A p s = 2) (a b : Nat) (hk2 : kn A a b = 2) (hn : ¬ D2 A p s a b) : ¬ D2 A p s (tp A a b) (ts A a b) := by
  intro w
  rcases w with w | ⟨w0, w⟩
  · have := kn_tgt hA hI hk2
    rw [w.1, w.2] at this
    omega
  · exact hn (Or.inl (back hA hI hk2 w0 w.1 w.2))
theorem D3_ok {q t : Nat} (hA : WA A) (hI : RI A) (hk : kn A p s = 1 ∨ kn A p s = 2) (hq : ¬ has A q t) (a b : Nat) (hk2 : kn A a b = 2) (hn : ¬ D3 A p s q t a b) : ¬ D3 A p s q t (tp A a b) (ts A a b) := by
  intro w
  rcases w with w | ⟨w0, w⟩ | w
  · have := kn_tgt hA hI hk2
    rw [w.1, w.2] at this
    omega
  · exact hn (Or.inl (back hA hI hk2 w0 w.1 w.2))
  · have := (nt' hA hI hk2).2.2.1
    rw [w.1, w.2] at this
    exact hq this
theorem ins_d (hA : WA A) (hI : RI A) (hp : p < 8) (hle : p ≤ A.1) (hl : l ≤ 60) (hr : room (A.2.1 p) (hs l) = true) : Chg A (ins A p l c) (D1 p (fe (A.2.1 p))) ∧ has (ins A p l c) p (fe (A.2.1 p)) ∧ ln (ins A p l c) p (fe (A.2.1 p)) = hs l ∧ (∀ i, i < hs l → db (ins A p l c) p (fe (A.2.1 p)) i = bh l c i) ∧ ¬ has A p (fe (A.2.1 p)) := by
  have hz := hs_b hl
  have hf := fe_e hA hp hr
  have hO := WA_opn hA hp
  have hno : ¬ has A p (fe (A.2.1 p)) := by
    intro h
    have := h.2.2
    unfold ln at this
    omega
  obtain ⟨k1, k2, k3, k4, k5⟩ := puts_eff (A := opn A p) (p := p) (s := fe (A.2.1 p)) (z := hs l) (b := bh l c) hO (opn_cnt hle) (fe_le (A.2.1 p)) hf.1 hz.1 hf.2.2.2
  refine ⟨⟨fun q t h => Same_trans (Same_opn hA hp) (k1 q t h), ?_⟩, k2, k3, k4, hno⟩
  intro a b hk _ w
  have q := (nt' hA hI hk).2.2.1
  rw [w.1, w.2] at q
  exact hno q
theorem del_d (hA : WA A) (hI : RI A) (hk : kn A p s = 1 ∨ kn A p s = 2) : Chg A (del A p s) (D2 A p s) ∧ ∀ a b, D2 A p s a b → ¬ has (del A p s) a b := by
  have hh : has A p s := kn_has (by omega)
  unfold del
  by_cases c : kn A p s = 2
  · rw [if_pos c]
    have q := nt' hA hI c
    have hW1 := WA_rems hA q.2.2.1.1 q.2.2.1.2.1
    have hs1 : s < ((rems A (tp A p s) (ts A p s)).2.1 p).1 := by rw [rems_pg (fun w => q.2.2.2.1 w.symm)]; exact hh.2.1
    refine ⟨⟨fun a b h => Same_trans (Same_rems hA q.2.2.1.1 q.2.2.1.2.1 (fun w => h (Or.inr ⟨c, w⟩))) (Same_rems hW1 hh.1 hs1 (fun w => h (Or.inl w))), D2_ok hA hI hk⟩, ?_⟩
    rintro a b (⟨rfl, rfl⟩ | ⟨-, rfl, rfl⟩) h
    · exact absurd h rems_s
    · exact absurd ((Same_rems hW1 hh.1 hs1 (fun w => q.2.2.2.1 w.1)).1.mp h) rems_s
  · rw [if_neg c]
    refine ⟨⟨fun a b h => Same_rems hA hh.1 hh.2.1 (fun w => h (Or.inl w)), D2_ok hA hI hk⟩, ?_⟩
    rintro a b (⟨rfl, rfl⟩ | ⟨w, -⟩) h
    · exact absurd h rems_s
    · exact absurd w c
theorem hm_d (hA : WA A) (hI : RI A) (hk : kn A p s = 1 ∨ kn A p s = 2) (hl : l ≤ 60) (hr : hs l ≤ rr A p s) : Chg A (hm A p s l c) (D2 A p s) ∧ has (hm A p s l c) p s ∧ ln (hm A p s l c) p s = hs l ∧ (∀ i, i < hs l → db (hm A p s l c) p s i = bh l c i) ∧ (kn A p s = 2 → ¬ has (hm A p s l c) (tp A p s) (ts A p s)) := by
  have hh : has A p s := kn_has (by omega)
  have hb := has_b hA hh
  have hz := hs_b hl
  have hroom := rr_room2 hA hh hr
  unfold hm
  by_cases d : kn A p s = 2
  · rw [if_pos d]
    have q := nt' hA hI d
    have hW1 := WA_rtn (WA_rems hA q.2.2.1.1 q.2.2.1.2.1)
    have epg : (rtn (rems A (tp A p s) (ts A p s))).2.1 p = A.2.1 p := rems_pg (fun w => q.2.2.2.1 w.symm)
    obtain ⟨k1, k2, k3, k4, k5⟩ := puts_eff (A := rtn (rems A (tp A p s) (ts A p s))) (p := p) (s := s) (z := hs l) (b := bh l c) hW1 hh.1 (by rw [epg]; exact Nat.le_of_lt hh.2.1) hb.2.1 hz.1 (by rw [epg]; exact hroom)
    have hS1 : ∀ a b, ¬ (a = tp A p s ∧ b = ts A p s) → Same A (rtn (rems A (tp A p s) (ts A p s))) a b := fun a b w => Same_rems hA q.2.2.1.1 q.2.2.1.2.1 w
    refine ⟨⟨fun a b h => Same_trans (hS1 a b (fun w => h (Or.inr ⟨d, w⟩))) (k1 a b (fun w => h (Or.inl w))), D2_ok hA hI hk⟩, k2, k3, k4, fun _ h => ?_⟩
    exact absurd (show has (rems A (tp A p s) (ts A p s)) (tp A p s) (ts A p s) from (k1 _ _ (fun w => q.2.2.2.1 w.1)).1.mp h) rems_s
  · rw [if_neg d]
    obtain ⟨k1, k2, k3, k4, k5⟩ := puts_eff (A := A) (p := p) (s := s) (z := hs l) (b := bh l c) hA hh.1 (Nat.le_of_lt hh.2.1) hb.2.1 hz.1 hroom
    exact ⟨⟨fun a b h => k1 a b (fun w => h (Or.inl w)), D2_ok hA hI hk⟩, k2, k3, k4, fun w => absurd w d⟩
theorem mv2_d (hA : WA A) (hI : RI A) (hk : kn A p s = 2) (hl : l ≤ 60) (hr : l + 3 ≤ rr A (tp A p s) (ts A p s)) : Chg A (mv2 A p s l c) (D2 A p s) ∧ Same A (mv2 A p s l c) p s ∧ has (mv2 A p s l c) (tp A p s) (ts A p s) ∧ ln (mv2 A p s l c) (tp A p s) (ts A p s) = l + 3 ∧ ∀ i, i < l + 3 → db (mv2 A p s l c) (tp A p s) (ts A p s) i = bt (nI 3) p s c i := by
  have q := nt' hA hI hk
  have hb := has_b hA q.2.2.1
  obtain ⟨k1, k2, k3, k4, k5⟩ := puts_eff (A := A) (p := tp A p s) (s := ts A p s) (z := l + 3) (b := bt (nI 3) p s c) hA q.2.2.1.1 (Nat.le_of_lt q.2.2.1.2.1) hb.2.1 (by omega) (rr_room2 hA q.2.2.1 hr)
  exact ⟨⟨fun a b h => k1 a b (fun w => h (Or.inr ⟨hk, w⟩)), D2_ok hA hI (Or.inr hk)⟩, k1 p s (fun w => q.2.2.2.1 w.1.symm), k2, k3, k4⟩
theorem mv3_d {q : Nat} (hA : WA A) (hI : RI A) (hk : kn A p s = 1 ∨ kn A p s = 2) (h8 : q < 8) (hle : q ≤ A.1) (hl : l ≤ 60) (hr : room (A.2.1 q) (l + 3) = true) (n1 : q ≠ p) (n2 : q ≠ pp A p s) : Chg A (mv3 A p s q l c) (D3 A p s q (fe (A.2.1 q))) ∧ (has (mv3 A p s q l c) p s ∧ ln (mv3 A p s q l c) p s = 3 ∧ db (mv3 A p s q l c) p s 0 = nI 2 ∧ db (mv3 A p s q l c) p s 1 = nI q ∧ db (mv3 A p s q l c) p s 2 = nI (fe (A.2.1 q))) ∧ (has (mv3 A p s q l c) q (fe (A.2.1 q)) ∧ ln (mv3 A p s q l c) q (fe (A.2.1 q)) = l + 3 ∧ ∀ i, i < l + 3 → db (mv3 A p s q l c) q (fe (A.2.1 q)) i = bt (nI 3) p s c i) ∧ (kn A p s = 2 → ¬ has (mv3 A p s q l c) (tp A p s) (ts A p s)) ∧ ¬ has A q (fe (A.2.1 q)) ∧ fe (A.2.1 q) < 31 := by
  have hh : has A p s := kn_has (by omega)
  have hb := has_b hA hh
  have hf := fe_e hA h8 hr
  obtain ⟨k1, k2, k3, k4, k5, k6, k7, k8⟩ := out_eff (p := p) (s := s) (c := c) hA h8 hle hl hr
  have hps := k1 p s (fun w => n1 w.1.symm)
  have hh2 := hps.1.mpr hh
  unfold mv3
  by_cases d : kn A p s = 2
  · rw [if_pos d]
    have w := nt' hA hI d
    have e1 : pp A p s = tp A p s := if_pos d
    rw [e1] at n2
    have ht := (k1 (tp A p s) (ts A p s) (fun x => n2 x.1.symm)).1.mpr w.2.2.1
    have hW2 := WA_rems k5 ht.1 ht.2.1
    have hS2 : ∀ a b, ¬ (a = tp A p s ∧ b = ts A p s) → Same (out A p s q l c) (rems (out A p s q l c) (tp A p s) (ts A p s)) a b := fun a b x => Same_rems k5 ht.1 ht.2.1 x
    have s2 := hS2 p s (fun x => w.2.2.2.1 x.1.symm)
    have hh3 := s2.1.mpr hh2
    have hl3 : ln (rems (out A p s q l c) (tp A p s) (ts A p s)) p s = 3 := by rw [(s2.2 hh2).1, (hps.2 hh).1]; exact w.2.1
    obtain ⟨j1, j2, j3, j4, j5⟩ := wbA_eff (b := bt (nI 2) q (fe (A.2.1 q)) c) (n := 3) hW2 hh3 (by rw [hl3]; exact Nat.le_refl 3)
    have sq := Same_trans (hS2 q (fe (A.2.1 q)) (fun x => n2 x.1)) (j1 q (fe (A.2.1 q)) (fun x => n1 x.1))
    obtain ⟨eq, dq⟩ := sq.2 k2
    refine ⟨⟨fun a b h => Same_trans (Same_trans (k1 a b (fun x => h (Or.inr (Or.inr x)))) (hS2 a b (fun x => h (Or.inr (Or.inl ⟨d, x⟩))))) (j1 a b (fun x => h (Or.inl x))), D3_ok hA hI hk k8⟩, ⟨j2, j3.trans hl3, j4 0 (by omega), j4 1 (by omega), j4 2 (by omega)⟩, ⟨sq.1.mpr k2, eq.trans k3, fun i hi => (dq i (by omega)).trans (k4 i hi)⟩, fun _ h => ?_, k8, hf.1⟩
    exact absurd ((j1 _ _ (fun x => w.2.2.2.1 x.1)).1.mp h) rems_s
  · rw [if_neg d]
    have epg := k6 p (fun x => n1 x.symm)
    obtain ⟨j1, j2, j3, j4, j5⟩ := puts_eff (A := out A p s q l c) (p := p) (s := s) (z := 3) (b := bt (nI 2) q (fe (A.2.1 q)) c) k5 hh2.1 (Nat.le_of_lt hh2.2.1) hb.2.1 (by omega) (by rw [epg]; exact rr_room2 hA hh (by unfold rr; omega))
    have sq := j1 q (fe (A.2.1 q)) (fun x => n1 x.1)
    obtain ⟨eq, dq⟩ := sq.2 k2
    exact ⟨⟨fun a b h => Same_trans (k1 a b (fun x => h (Or.inr (Or.inr x)))) (j1 a b (fun x => h (Or.inl x))), D3_ok hA hI hk k8⟩, ⟨j2, j3, j4 0 (by omega), j4 1 (by omega), j4 2 (by omega)⟩, ⟨sq.1.mpr k2, eq.trans k3, fun i hi => (dq i (by omega)).trans (k4 i hi)⟩, fun w => absurd w d, k8, hf.1⟩
theorem cpt_d (hA : WA A) {p : Nat} (hp : p < A.1) : ∀ q t, Same A (cpt A p) q t := by
  have hW := hA.2.1 p (by have := hA.1; omega)
  have h6 := hW.2.2.2.2.2
  exact fun q t => Same_sp (A := A) (p := p) (g := comp (A.2.1 p)) fun _ => sg_comp (by omega) t
end DS
