abbrev bgo (A : AS) (p s : Nat) : Prop := kn A p s = 2 ∧ hs (rl A (tp A p s) (ts A p s)) ≤ rr A p s
def bst (A : AS) (p s : Nat) : AS := if bgo A p s then hm A p s (rl A (tp A p s) (ts A p s)) (rb A (tp A p s) (ts A p s)) else A
def bct (A : AS) (p s : Nat) : Nat := if bgo A p s then 1 else 0
def bal (A : AS) : Nat → AS × Nat
  | 0 => (A, 0)
  | n + 1 => (bst (bal A n).1 (n / 100) (n % 100), (bal A n).2 + bct (bal A n).1 (n / 100) (n % 100))
theorem bal_s (A : AS) {p s : Nat} (h : s < 100) : bal A (100 * p + (s + 1)) = (bst (bal A (100 * p + s)).1 p s, (bal A (100 * p + s)).2 + bct (bal A (100 * p + s)).1 p s) := by
  show (bst (bal A (100 * p + s)).1 ((100 * p + s) / 100) ((100 * p + s) % 100), (bal A (100 * p + s)).2 + bct (bal A (100 * p + s)).1 ((100 * p + s) / 100) ((100 * p + s) % 100)) = _
  rw [(d100 h).1, (d100 h).2]
theorem bal_le (A : AS) : ∀ n, (bal A n).2 ≤ n
  | 0 => Nat.le_refl 0
  | n + 1 => by
    have ih := bal_le A n
    show (bal A n).2 + bct (bal A n).1 (n / 100) (n % 100) ≤ n + 1
    unfold bct
    split <;> omega
theorem rl_tgt {A : AS} (hA : WA A) (hI : RI A) {p s : Nat} (hk : kn A p s = 2) : rl A (tp A p s) (ts A p s) ≤ 60 ∧ db A (tp A p s) (ts A p s) 0 ≠ nI 2 := by
  have q := nt' hA hI hk
  have h2 : db A (tp A p s) (ts A p s) 0 ≠ nI 2 := by
    rw [q.2.2.2.2.2.2.1]
    exact nI_ne (by omega) (by omega) (by omega)
  exact ⟨(rl_le hA hI q.2.2.1 h2).1, h2⟩
theorem put_cnt {g : PG} {s z : Nat} {b : Nat → Int32} (h : s < g.1) : (put g s z b).1 = g.1 := by
  show (pg (wipe g s) s z).1 = g.1
  unfold pg
  rw [ext_id (show s < (wipe g s).1 from h)]
  split <;> rfl
theorem hm_cnt {A : AS} (hA : WA A) (hI : RI A) {p s l : Nat} {c : Nat → Int32} (hk : kn A p s = 2) : (hm A p s l c).1 = A.1 ∧ ((hm A p s l c).2.1 p).1 = (A.2.1 p).1 := by
  have q := nt' hA hI hk
  unfold hm
  rw [if_pos hk]
  refine ⟨rfl, ?_⟩
  have e : (puts (rtn (rems A (tp A p s) (ts A p s))) p s (hs l) (bh l c)).2.1 p = put ((rtn (rems A (tp A p s) (ts A p s))).2.1 p) s (hs l) (bh l c) := va_upS
  have e2 : (rtn (rems A (tp A p s) (ts A p s))).2.1 p = A.2.1 p := rems_pg (fun w => q.2.2.2.1 w.symm)
  rw [e, e2, put_cnt q.1.2.1]
theorem bst_eff {A : AS} (hA : WA A) (hI : RI A) (p s : Nat) : WA (bst A p s) ∧ RI (bst A p s) ∧ (bst A p s).1 = A.1 ∧ ((bst A p s).2.1 p).1 = (A.2.1 p).1 := by
  unfold bst
  by_cases c : bgo A p s
  · rw [if_pos c]
    have h := hm_eff (c := rb A (tp A p s) (ts A p s)) hA hI (Or.inr c.1) (rl_tgt hA hI c.1).1 c.2
    exact ⟨h.1, h.2, hm_cnt hA hI c.1⟩
  · rw [if_neg c]
    exact ⟨hA, hI, rfl, rfl⟩
theorem bal_ok {A : AS} (hA : WA A) (hI : RI A) : ∀ n, WA (bal A n).1 ∧ RI (bal A n).1 ∧ (bal A n).1.1 = A.1
  | 0 => ⟨hA, hI, rfl⟩
  | n + 1 => by
    obtain ⟨h1, h2, h3⟩ := bal_ok hA hI n
    have h := bst_eff h1 h2 (n / 100) (n % 100)
    exact ⟨h.1, h.2.1, h.2.2.1.trans h3⟩
theorem bal_cnt {A : AS} (hA : WA A) (hI : RI A) (p : Nat) : ∀ s, s ≤ 100 → ((bal A (100 * p + s)).1.2.1 p).1 = ((bal A (100 * p)).1.2.1 p).1
  | 0, _ => rfl
  | s + 1, h => by
    have hb := bal_ok hA hI (100 * p + s)
    rw [bal_s A (show s < 100 by omega)]
    show ((bst (bal A (100 * p + s)).1 p s).2.1 p).1 = _
    rw [(bst_eff hb.1 hb.2.1 p s).2.2.2]
    exact bal_cnt hA hI p s (by omega)
theorem bal_end {A : AS} (hA : WA A) (hI : RI A) (p : Nat) {k : Nat} (hk : k = ((bal A (100 * p)).1.2.1 p).1) : ∀ s, k ≤ s → s ≤ 100 → bal A (100 * p + s) = bal A (100 * p + k)
  | 0, h1, _ => by rw [show k = 0 by omega]
  | s + 1, h1, h => by
    by_cases c : k = s + 1
    · rw [c]
    · have ih := bal_end hA hI p hk s (by omega) (by omega)
      have hc := bal_cnt hA hI p s (by omega)
      have hn : ¬ bgo (bal A (100 * p + s)).1 p s := by
        intro w
        have hh : has (bal A (100 * p + s)).1 p s := kn_has (by have := w.1; omega)
        have := hh.2.1
        omega
      rw [bal_s A (show s < 100 by omega)]
      unfold bst bct
      rw [if_neg hn, if_neg hn]
      exact ih
section BC
variable {A : AS}
theorem c_takeC {u : TH} (hA : WA A) (hI : RI A) (hC : CA u.1.1 A) {q t : Nat} (h : has A q t) (h2 : db A q t 0 ≠ nI 2) : ∃ r : Ar, fX4_takeContentOf u (nI (100 * q + t)) = some (u.1, u.2.1, (nI (rl A q t), r), u.2.2.2) ∧ ∀ i, i < rl A q t → r i = rb A q t i := by
  have hl := (rl_le hA hI h h2).1
  unfold fX4_takeContentOf
  rw [c_lengthAt hA hI hC h, Option.bind_some, c_empty, Option.bind_some]
  have hloop : ∃ d, itr (fun a : TH × Int32 × Int32 × Int32 => fX4_takeContentOf_s15 a.1 a.2.1 a.2.2.1 a.2.2.2) FU ((u.1, u.2.1, (nI 0, u.2.2.1.2), u.2.2.2), nI (100 * q + t), nI (rl A q t), (0 : Int32)) = some d ∧ ∃ r : Ar, d = (u.1, u.2.1, (nI (rl A q t), r), u.2.2.2) ∧ ∀ i, i < rl A q t → r i = rb A q t i := by
    refine itrI (fun j x => ∃ r : Ar, x = ((u.1, u.2.1, (nI j, r), u.2.2.2), nI (100 * q + t), nI (rl A q t), nI j) ∧ ∀ i, i < j → r i = rb A q t i) _ (rl A q t) ⟨_, rfl, fun i hi => absurd hi (Nat.not_lt_zero i)⟩ ?_ ?_ (by omega)
    · intro j x hj hx
      obtain ⟨r, rfl, e⟩ := hx
      obtain ⟨r2, k1, k2⟩ := c_add (b := (nI j, r)) (n := 60) (m := j) (w := rb A q t) (x := rb A q t j) rfl (by omega) (by omega) e rfl
      refine ⟨_, ?_, r2, rfl, k2⟩
      show fX4_takeContentOf_s15 (u.1, u.2.1, (nI j, r), u.2.2.2) _ _ _ = _
      unfold fX4_takeContentOf_s15
      rw [if_neg (by rw [e_le (by omega) (by omega)]; omega), c_rowByte (u := (u.1, u.2.1, (nI j, r), u.2.2.2)) hA hI hC h h2 hj, Option.bind_some, k1, Option.bind_some]
      simp only [lit, nI_add]
    · intro x hx
      obtain ⟨r, rfl, e⟩ := hx
      refine ⟨_, ?_, r, rfl, e⟩
      show fX4_takeContentOf_s15 _ _ _ _ = _
      unfold fX4_takeContentOf_s15
      simp (disch := omega) only [e_le, Nat.le_refl, if_true]
  obtain ⟨d, e1, r, rfl, e2⟩ := hloop
  rw [e1]
  exact ⟨r, rfl, e2⟩
theorem c_mayReturn {u : TH} (hA : WA A) (hI : RI A) (hC : CA u.1.1 A) {p s : Nat} (hp : p < 8) (hs1 : s < 100) : fX4_mayReturn u (nI (100 * p + s)) = some (if bgo A p s then (1 : Int32) else 0) := by
  have hk := kn_le A p s
  unfold fX4_mayReturn
  rw [c_kind2 hA hC hp hs1, Option.bind_some]
  simp (disch := omega) only [lit, e_eq]
  by_cases c : kn A p s = 2
  · have q := nt' hA hI c
    have hr := rl_tgt hA hI c
    have hz := hs_b hr.1
    have hf := fr_le (A := A) p
    have hb := has_b hA q.1
    have hrr : rr A p s ≤ 260 := by unfold rr; omega
    rw [if_pos c, c_tgt2 hA hI hC c, Option.bind_some, c_lengthAt hA hI hC q.2.2.1, Option.bind_some, c_hs hr.1, Option.bind_some, c_roomTo hA hC q.1, Option.bind_some]
    simp (disch := omega) only [e_lt]
    by_cases d : rr A p s < hs (rl A (tp A p s) (ts A p s))
    · rw [if_pos d, if_neg (fun w => by have := w.2; omega)]
    · rw [if_neg d, if_pos ⟨c, by omega⟩]
  · rw [if_neg c, if_neg (fun w => c w.1)]
theorem c_bstep {u : TH} (hA : WA A) (hI : RI A) (hC : CA u.1.1 A) {p s n k : Nat} (hp : p < 8) (hk : k ≤ 31) (hs1 : s < k) : ∃ v : TH, fX4_bringAllHome_s27 u (nI n) (nI p) (nI k) (nI s) = some (.inl (v, nI (n + bct A p s), nI p, nI k, nI (s + 1))) ∧ CA v.1.1 (bst A p s) ∧ v.2.1 = u.2.1 ∧ v.2.2.2.2 = u.2.2.2.2 := by
  unfold fX4_bringAllHome_s27
  rw [if_neg (by rw [e_le (by omega) (by omega)]; omega), c_place, Option.bind_some, c_mayReturn hA hI hC hp (by omega), Option.bind_some]
  unfold bst bct
  by_cases c : bgo A p s
  · have q := nt' hA hI c.1
    have hr := rl_tgt hA hI c.1
    have e1 : pp A p s = tp A p s := if_pos c.1
    have e2 : ps A p s = ts A p s := if_pos c.1
    obtain ⟨r, k1, k2⟩ := c_takeC hA hI hC q.2.2.1 hr.2
    obtain ⟨v, k3, k4, k5, k6, k7⟩ := c_home (u := (u.1, u.2.1, (nI (rl A (tp A p s) (ts A p s)), r), u.2.2.2)) hA hI hC (Or.inr c.1) hr.1 c.2 rfl
    rw [e1, e2] at k3
    rw [if_pos c, if_pos c, if_pos c, if_neg (by decide), c_tgt2 hA hI hC c.1, Option.bind_some, k1, Option.bind_some, k3, Option.bind_some]
    unfold fX4_bringAllHome_j75
    simp only [lit, nI_add]
    refine ⟨v, rfl, ?_, k5, k7⟩
    rw [← hm_cong k2]
    exact k4
  · rw [if_neg c, if_neg c, if_neg c, if_pos rfl]
    unfold fX4_bringAllHome_j75
    simp only [lit, nI_add]
    exact ⟨u, rfl, hC, rfl, rfl⟩
theorem c_bring {u : TH} (hA : WA A) (hI : RI A) (hC : CA u.1.1 A) : ∃ v : TH, fX4_bringAllHome u = some (nI (bal A (100 * A.1)).2, v) ∧ CA v.1.1 (bal A (100 * A.1)).1 ∧ v.2.1 = u.2.1 ∧ v.2.2.2.2 = u.2.2.2.2 := by
  have hn := hA.1
  unfold fX4_bringAllHome
  have hloop : ∃ d, itr (fun a : TH × Int32 × Int32 => fX4_bringAllHome_s4 a.1 a.2.1 a.2.2) FU (u, (0 : Int32), (0 : Int32)) = some d ∧ ∃ v : TH, d = (v, nI (bal A (100 * A.1)).2) ∧ CA v.1.1 (bal A (100 * A.1)).1 ∧ v.2.1 = u.2.1 ∧ v.2.2.2.2 = u.2.2.2.2 := by
    refine itrI (fun p x => ∃ v : TH, x = (v, nI (bal A (100 * p)).2, nI p) ∧ CA v.1.1 (bal A (100 * p)).1 ∧ v.2.1 = u.2.1 ∧ v.2.2.2.2 = u.2.2.2.2) _ A.1 ⟨u, rfl, hC, rfl, rfl⟩ ?_ ?_ (by omega)
    · intro p x hp hx
      obtain ⟨v, rfl, h1, h2, h3⟩ := hx
      obtain ⟨b1, b2, b3⟩ := bal_ok hA hI (100 * p)
      obtain ⟨k, hk⟩ : ∃ k, k = ((bal A (100 * p)).1.2.1 p).1 := ⟨_, rfl⟩
      have hk31 : k ≤ 31 := by rw [hk]; exact (b1.2.1 p (by omega)).1
      have hin : ∃ d, itr (fun a : TH × Int32 × Int32 × Int32 × Int32 => fX4_bringAllHome_s27 a.1 a.2.1 a.2.2.1 a.2.2.2.1 a.2.2.2.2) FU (v, nI (bal A (100 * p)).2, nI p, nI k, (0 : Int32)) = some d ∧ ∃ w : TH, d = (w, nI (bal A (100 * p + k)).2, nI p) ∧ CA w.1.1 (bal A (100 * p + k)).1 ∧ w.2.1 = u.2.1 ∧ w.2.2.2.2 = u.2.2.2.2 := by
        refine itrI (fun s x => ∃ w : TH, x = (w, nI (bal A (100 * p + s)).2, nI p, nI k, nI s) ∧ CA w.1.1 (bal A (100 * p + s)).1 ∧ w.2.1 = u.2.1 ∧ w.2.2.2.2 = u.2.2.2.2) _ k ⟨v, rfl, h1, h2, h3⟩ ?_ ?_ (by omega)
        · intro s x hs1 hx
          obtain ⟨w, rfl, g1, g2, g3⟩ := hx
          obtain ⟨d1, d2, d3⟩ := bal_ok hA hI (100 * p + s)
          obtain ⟨y, j1, j2, j3, j4⟩ := c_bstep (n := (bal A (100 * p + s)).2) d1 d2 g1 (show p < 8 by omega) hk31 hs1
          rw [bal_s A (show s < 100 by omega)]
          exact ⟨_, j1, y, rfl, j2, j3.trans g2, j4.trans g3⟩
        · intro x hx
          obtain ⟨w, rfl, g⟩ := hx
          refine ⟨_, ?_, w, rfl, g⟩
          show fX4_bringAllHome_s27 _ _ _ _ _ = _
          unfold fX4_bringAllHome_s27
          simp (disch := omega) only [e_le, Nat.le_refl, if_true]
      obtain ⟨d, e1, w, rfl, g1, g2, g3⟩ := hin
      have he := bal_end hA hI p hk 100 (by omega) (by omega)
      rw [show 100 * p + 100 = 100 * (p + 1) by omega] at he
      refine ⟨_, ?_, w, rfl, by rw [he]; exact g1, g2, g3⟩
      show fX4_bringAllHome_s4 _ _ _ = _
      unfold fX4_bringAllHome_s4
      have hpc : v.1.1.1.1 = nI A.1 := by rw [c_pc h1, b3]
      rw [hpc, if_neg (by rw [e_le (by omega) (by omega)]; omega), c_count (by omega) (h1.2.1 p (by omega)), Option.bind_some, ← hk, e1, Option.bind_some, he]
      simp only [lit, nI_add]
    · intro x hx
      obtain ⟨v, rfl, h1, h2, h3⟩ := hx
      obtain ⟨b1, b2, b3⟩ := bal_ok hA hI (100 * A.1)
      refine ⟨_, ?_, v, rfl, h1, h2, h3⟩
      show fX4_bringAllHome_s4 _ _ _ = _
      unfold fX4_bringAllHome_s4
      have hpc : v.1.1.1.1 = nI A.1 := by rw [c_pc h1, b3]
      rw [hpc, if_pos (by rw [e_le (by omega) (by omega)]; exact Nat.le_refl _)]
  obtain ⟨d, e1, v, rfl, e2⟩ := hloop
  rw [e1]
  exact ⟨v, rfl, e2⟩
theorem wy_1 {p s l : Nat} : (wy A p s l = nI 1) = (hs l ≤ rr A p s) := by
  apply propext
  unfold wy
  by_cases c : hs l ≤ rr A p s
  · rw [if_pos c]; exact ⟨fun _ => c, fun _ => rfl⟩
  · rw [if_neg c]
    refine ⟨fun w => ?_, fun w => absurd w c⟩
    by_cases d : kn A p s = 2 ∧ l + 3 ≤ rr A (tp A p s) (ts A p s)
    · rw [if_pos d] at w
      exact absurd w (nI_ne (by omega) (by omega) (by omega))
    · rw [if_neg d] at w
      by_cases e : fpR A (l + 3) (nI p) (nI (pp A p s)) = M1
      · rw [if_pos e] at w
        exact absurd w (by decide)
      · rw [if_neg e] at w
        exact absurd w (nI_ne (by omega) (by omega) (by omega))
end BC

