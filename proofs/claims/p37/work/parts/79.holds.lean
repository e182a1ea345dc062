def okpl (A : AS) (pl : Int32) : Prop := pl = M1 ∨ ∃ y, y < 800 ∧ pl = nI y ∧ eb A y = true
def cpl (A : AS) (j : Nat) (pl : Int32) : Prop := (pl = M1 ∧ j = nrows A) ∨ ∃ y, y < 100 * A.1 ∧ pl = nI y ∧ eb A y = true ∧ ct (eb A) y = j
theorem k01 : (nI 0 = (1 : Int32)) = False := eq_false (by decide)
theorem k02 : (nI 0 = (2 : Int32)) = False := eq_false (by decide)
theorem k03 : (nI 0 = (3 : Int32)) = False := eq_false (by decide)
theorem k11 : (nI 1 = (1 : Int32)) = True := eq_true (by decide)
theorem k12 : (nI 1 = (2 : Int32)) = False := eq_false (by decide)
theorem k13 : (nI 1 = (3 : Int32)) = False := eq_false (by decide)
theorem k21 : (nI 2 = (1 : Int32)) = False := eq_false (by decide)
theorem k22 : (nI 2 = (2 : Int32)) = True := eq_true (by decide)
theorem k23 : (nI 2 = (3 : Int32)) = False := eq_false (by decide)
theorem k31 : (nI 3 = (1 : Int32)) = False := eq_false (by decide)
theorem k32 : (nI 3 = (2 : Int32)) = False := eq_false (by decide)
theorem k33 : (nI 3 = (3 : Int32)) = True := eq_true (by decide)
theorem z10 : ((1 : Int32) = 0) = False := eq_false (by decide)
theorem z00 : ((0 : Int32) = 0) = True := eq_true rfl
theorem z11 : ((1 : Int32) = 1) = True := eq_true rfl
theorem ctI (P : Nat → Bool) (x : Nat) : nI (ct P (x + 1)) = nI (ct P x) + (if P x = true then (1 : Int32) else 0) := by
  show nI (ct P x + (if P x then 1 else 0)) = _
  cases P x
  · exact (nI_add (ct P x) 0).symm
  · exact (nI_add (ct P x) 1).symm
section HO
variable {A : AS} {u : TH} {p s : Nat}
theorem rw1_row (hA : WA A) (hJ : RJ A) (h : kn A p s = 1 ∨ kn A p s = 3) : ∃ q t, rw1 A p s = nI (100 * q + t) ∧ isr A q t ∧ pp A q t = p ∧ ps A q t = s := by
  unfold rw1 pp ps
  rcases h with h | h
  · refine ⟨p, s, if_pos h, Or.inl h, if_neg (by omega), if_neg (by omega)⟩
  · obtain ⟨h1, h2, h3, h4, h5⟩ := mv_home hA hJ h
    refine ⟨tp A p s, ts A p s, ?_, Or.inr h1, ?_, ?_⟩
    · rw [if_neg (by omega), if_pos h, h4, h5, pk_mul, nI_add]
    · rw [if_pos h1]; exact h2
    · rw [if_pos h1]; exact h3
theorem nxR_ok (hA : WA A) (a : Int32) : okpl A (nxR A a) := by
  have hn := hA.1
  unfold nxR
  by_cases c : nxf A a < 100 * A.1
  · rw [if_pos c]
    have h := of_decide_eq_true (show decide _ = true from fst_yes (nx A a) (100 * A.1) c)
    exact Or.inr ⟨nxf A a, by omega, rfl, eb_t.mpr h.2⟩
  · rw [if_neg c]; exact Or.inl rfl
theorem c_row (hA : WA A) (hI : RI A) (hJ : RJ A) (hC : CA u.1.1 A) (a : Int32) : ∃ r, fL_row u a = some r ∧ (r < 0 ∨ ∃ p s, r = nI (100 * p + s) ∧ isr A p s) := by
  have hn := nrows_le A
  have hloop : ∃ d, itr (fun a : Int32 × Int32 × Int32 => fL_row_s4 u a.1 a.2.1 a.2.2) FU (a, ((-1) : Int32), (0 : Int32)) = some d ∧ okpl A d := by
    refine itrX (fun j z => ∃ pl, z = (a, pl, nI j) ∧ okpl A pl) (okpl A) (nrows A) ⟨M1, rfl, Or.inl rfl⟩ ?_ ?_ (by omega)
    · intro j z hj hz
      obtain ⟨pl, rfl, h1⟩ := hz
      show (∃ y, fL_row_s4 u a pl (nI j) = some (.inl y) ∧ _) ∨ ∃ d, fL_row_s4 u a pl (nI j) = some (.inr d) ∧ _
      unfold fL_row_s4
      by_cases c : a < nI j
      · rw [if_pos c]
        exact Or.inr ⟨pl, rfl, h1⟩
      · rw [if_neg c, c_rows2 hA hC, Option.bind_some, if_neg (by rw [e_le (by omega) (by omega)]; omega), c_next hA hI hC, Option.bind_some]
        refine Or.inl ⟨_, rfl, nxR A pl, ?_, nxR_ok hA pl⟩
        simp only [lit, nI_add]
    · intro z hz
      obtain ⟨pl, rfl, h1⟩ := hz
      refine ⟨pl, ?_, h1⟩
      show fL_row_s4 u a pl (nI (nrows A)) = _
      unfold fL_row_s4
      rw [c_rows2 hA hC, Option.bind_some, if_pos (show nI (nrows A) ≤ nI (nrows A) by rw [e_le (by omega) (by omega)]; exact Nat.le_refl _), ite_self]
  obtain ⟨d, e1, hd⟩ := hloop
  unfold fL_row fL_row_j29
  rw [e1, Option.bind_some]
  rcases hd with rfl | ⟨y, hy, rfl, hb⟩
  · exact ⟨M1, if_neg (by decide), Or.inl (by decide)⟩
  · have ex : 100 * (y / 100) + y % 100 = y := by omega
    obtain ⟨q, t, r1, r2, -, -⟩ := rw1_row hA hJ (eb_t.mp hb)
    have e2 := c_rowAt (p := y / 100) (s := y % 100) hA hC (by omega) (by omega)
    rw [ex] at e2
    rw [if_pos (nI_pos' (by omega)), e2, Option.bind_some]
    exact ⟨_, rfl, Or.inr ⟨q, t, r1, r2⟩⟩
theorem nxt (hA : WA A) (hI : RI A) (hJ : RJ A) {a : Int32} {m : Nat} (hm : m ≤ 100 * A.1) (h1 : ∀ y, y < m → nx A a y = false) (h2 : ∀ y, m ≤ y → y < 100 * A.1 → nx A a y = eb A y) : cpl A (ct (eb A) m) (nxR A a) := by
  obtain ⟨f, hf⟩ : ∃ f, f = nxf A a := ⟨_, rfl⟩
  have hle : f ≤ 100 * A.1 := by rw [hf]; exact fst_le _ _
  have hno : ∀ x, x < f → nx A a x = false := fun x hx => fst_no (nx A a) (100 * A.1) x (by rw [← show f = fst (nx A a) (100 * A.1) from hf]; exact hx)
  unfold nxR
  rw [← hf]
  by_cases c : f < 100 * A.1
  · have hy : nx A a f = true := by
      rw [hf]
      exact fst_yes (nx A a) (100 * A.1) (by rw [← show f = fst (nx A a) (100 * A.1) from hf]; exact c)
    have hmf : m ≤ f := by
      refine Nat.le_of_not_lt fun w => ?_
      rw [h1 f w] at hy
      cases hy
    rw [if_pos c]
    refine Or.inr ⟨f, c, rfl, by rw [← h2 f hmf c]; exact hy, ?_⟩
    have e := ct_end (eb A) (a := m) (f - m) (fun x x1 x2 => by rw [← h2 x x1 (by omega)]; exact hno x (by omega))
    rw [show m + (f - m) = f by omega] at e
    exact e
  · rw [if_neg c]
    refine Or.inl ⟨rfl, ?_⟩
    have e := ct_end (eb A) (a := m) (100 * A.1 - m) (fun x x1 x2 => by rw [← h2 x x1 (by omega)]; exact hno x (by omega))
    rw [show m + (100 * A.1 - m) = 100 * A.1 by omega, ct_eb2 hA hI hJ] at e
    exact e.symm
theorem nx_0 (A : AS) (y : Nat) (hy : y < 2 ^ 31) : nx A M1 y = eb A y := by
  have h : ¬ nI y ≤ M1 := by
    rw [Int32.le_iff_toInt_le, nI_toInt hy, M1_toInt]
    omega
  rw [Bool.eq_iff_iff, eb_t]
  unfold nx
  rw [decide_eq_true_iff]
  exact ⟨fun w => w.2, fun w => ⟨h, w⟩⟩
theorem nx_y (A : AS) {y0 y : Nat} (h0 : y0 < 2 ^ 31) (hy : y < 2 ^ 31) : nx A (nI y0) y = (decide (y0 < y) && eb A y) := by
  rw [Bool.eq_iff_iff, Bool.and_eq_true, eb_t, decide_eq_true_iff]
  unfold nx
  rw [decide_eq_true_iff, e_le hy h0]
  exact ⟨fun w => ⟨by omega, w.2⟩, fun w => ⟨by omega, w.2⟩⟩
theorem c_cnt (hA : WA A) (hI : RI A) (hJ : RJ A) (hC : CA u.1.1 A) (b c d : Int32) : itr (fun a : Int32 × Int32 × Int32 × Int32 × Int32 × Int32 => fL_holds_s275 u a.1 a.2.1 a.2.2.1 a.2.2.2.1 a.2.2.2.2.1 a.2.2.2.2.2) FU (nI (nrows A), b, c, d, (0 : Int32), nxR A M1) = some (nI (nrows A), b, c, d, nI (nrows A)) := by
  have hn := nrows_le A
  have h8 := hA.1
  have hloop : ∃ r, itr (fun a : Int32 × Int32 × Int32 × Int32 × Int32 × Int32 => fL_holds_s275 u a.1 a.2.1 a.2.2.1 a.2.2.2.1 a.2.2.2.2.1 a.2.2.2.2.2) FU (nI (nrows A), b, c, d, (0 : Int32), nxR A M1) = some r ∧ r = (nI (nrows A), b, c, d, nI (nrows A)) := by
    refine itrI (fun j z => ∃ pl, z = (nI (nrows A), b, c, d, nI j, pl) ∧ cpl A j pl) _ (nrows A) ⟨nxR A M1, rfl, nxt hA hI hJ (m := 0) (Nat.zero_le _) (fun y hy => absurd hy (Nat.not_lt_zero y)) (fun y _ hy => nx_0 A y (by omega))⟩ ?_ ?_ (by omega)
    · intro j z hj hz
      obtain ⟨pl, rfl, h1⟩ := hz
      rcases h1 with ⟨-, h1⟩ | ⟨y, y1, rfl, y2, y3⟩
      · omega
      · refine ⟨(nI (nrows A), b, c, d, nI (j + 1), nxR A (nI y)), ?_, nxR A (nI y), rfl, ?_⟩
        · show fL_holds_s275 u _ _ _ _ _ _ = _
          unfold fL_holds_s275
          rw [if_neg (nI_pos (by omega)), if_neg (by rw [e_lt (by omega) (by omega)]; omega), c_next hA hI hC, Option.bind_some]
          simp only [lit, nI_add]
        · have e : ct (eb A) (y + 1) = j + 1 := by
            show ct (eb A) y + (if eb A y then 1 else 0) = j + 1
            rw [y2, y3]; rfl
          rw [← e]
          refine nxt hA hI hJ (by omega) (fun x hx => ?_) (fun x x1 x2 => ?_)
          · rw [nx_y A (by omega) (by omega), decide_eq_false (by omega)]; rfl
          · rw [nx_y A (by omega) (by omega), decide_eq_true (by omega)]; rfl
    · intro z hz
      obtain ⟨pl, rfl, h1⟩ := hz
      refine ⟨_, ?_, rfl⟩
      rcases h1 with ⟨rfl, -⟩ | ⟨y, y1, rfl, y2, y3⟩
      · show fL_holds_s275 u _ _ _ _ _ M1 = _
        unfold fL_holds_s275
        rw [if_pos (by decide)]
      · exfalso
        have e : ct (eb A) (y + 1) = nrows A + 1 := by
          show ct (eb A) y + (if eb A y then 1 else 0) = _
          rw [y2, y3]; rfl
        have hm := ct_mono (eb A) (a := y + 1) (100 * A.1 - (y + 1))
        rw [show y + 1 + (100 * A.1 - (y + 1)) = 100 * A.1 by omega, ct_eb2 hA hI hJ] at hm
        omega
  obtain ⟨r, e1, rfl⟩ := hloop
  exact e1
theorem h_end {x1 x2 x3 x5 : Nat} : fL_holds_j197 u (nI x1) (nI x2) (nI x3) (nI x5) (nI 0) 1 = some (.inl (nI x1, nI x2, nI x3, 1, nI x5 + 1)) := by
  unfold fL_holds_j197 fL_holds_j259
  simp only [k02, if_false]
theorem c_hstep (hA : WA A) (hI : RI A) (hJ : RJ A) (hC : CA u.1.1 A) {x : Nat} (hx : x < 100 * A.1) : fL_holds_s25 u (nI (ct (ib A) x)) (nI (ct (kb A 2) x)) (nI (ct (kb A 3) x)) 1 (nI x) = some (.inl (nI (ct (ib A) (x + 1)), nI (ct (kb A 2) (x + 1)), nI (ct (kb A 3) (x + 1)), 1, nI (x + 1))) := by
  have h8 := hA.1
  have ex : 100 * (x / 100) + x % 100 = x := by omega
  obtain ⟨p, hp⟩ : ∃ p, p = x / 100 := ⟨_, rfl⟩
  obtain ⟨s, hs1⟩ : ∃ s, s = x % 100 := ⟨_, rfl⟩
  have hpg : (100 : Int32) * nI A.1 = nI (100 * A.1) := pk_mul 100 A.1
  have hkd := c_kind hA hC (x := x) (by omega)
  have hir := c_isr hA hC (x := x) (by omega)
  have hra := c_rowAt (p := x / 100) (s := x % 100) hA hC (by omega) (by omega)
  rw [ex] at hra
  have hpl := fun h : isr A (x / 100) (x % 100) => c_placeOf (p := x / 100) (s := x % 100) hA hI hC h
  rw [ex] at hpl
  rw [← hp, ← hs1] at hkd hir hra hpl ex
  have hib : ib A x = true ↔ isr A p s := by rw [ib_t, ← hp, ← hs1]
  have hk2 : kb A 2 x = true ↔ kn A p s = 2 := by rw [kb_t, ← hp, ← hs1]
  have hk3 : kb A 3 x = true ↔ kn A p s = 3 := by rw [kb_t, ← hp, ← hs1]
  have hkl := kn_le A p s
  rw [ctI, ctI, ctI, ← nI_1 x]
  unfold fL_holds_s25
  rw [c_pages hC, Option.bind_some, hpg, if_neg (by rw [e_le (by omega) (by omega)]; omega), hkd, Option.bind_some]
  have hc : kn A p s = 0 ∨ kn A p s = 1 ∨ kn A p s = 2 ∨ kn A p s = 3 := by omega
  rcases hc with k | k | k | k
  · have i1 : ¬ isr A p s := by unfold isr; omega
    have i2 : rw1 A p s = M1 := by unfold rw1; rw [if_neg (by omega), if_neg (by omega)]
    rw [if_neg i1] at hir
    rw [i2] at hra
    have b1 : (ib A x = true) = False := eq_false (fun w => i1 (hib.mp w))
    have b2 : (kb A 2 x = true) = False := eq_false (fun w => by have := hk2.mp w; omega)
    have b3 : (kb A 3 x = true) = False := eq_false (fun w => by have := hk3.mp w; omega)
    rw [k]
    unfold fL_holds_j62 fL_holds_j75 fL_holds_j89 fL_holds_j103 fL_holds_j149 fL_holds_j171 fL_holds_j192 fL_holds_j197 fL_holds_j259
    simp only [b1, b2, b3, k01, k02, k03, z10, z00, if_true, if_false, hir, hra, Option.bind_some, m1e]
  · have i1 : isr A p s := Or.inl k
    have i2 : rw1 A p s = nI x := by unfold rw1; rw [if_pos k, ex]
    have i3 : pp A p s = p := if_neg (by omega)
    have i4 : ps A p s = s := if_neg (by omega)
    have hpl := hpl i1
    rw [i3, i4, ex] at hpl
    rw [if_pos i1] at hir
    rw [i2] at hra
    have b1 : (ib A x = true) = True := eq_true (hib.mpr i1)
    have b2 : (kb A 2 x = true) = False := eq_false (fun w => by have := hk2.mp w; omega)
    have b3 : (kb A 3 x = true) = False := eq_false (fun w => by have := hk3.mp w; omega)
    rw [k]
    unfold fL_holds_j57 fL_holds_j62 fL_holds_j75 fL_holds_j89 fL_holds_j103 fL_holds_j149 fL_holds_j171 fL_holds_j192 fL_holds_j197 fL_holds_j259
    simp only [b1, b2, b3, k11, k12, k13, z10, z11, if_true, if_false, hir, hra, hpl, Option.bind_some, m1e]
  · have i1 : isr A p s := Or.inr k
    have i2 : rw1 A p s = M1 := by unfold rw1; rw [if_neg (by omega), if_neg (by omega)]
    have i3 : pp A p s = tp A p s := if_pos k
    have i4 : ps A p s = ts A p s := if_pos k
    have q := nt' hA hI k
    have hb := has_b hA q.2.2.1
    have k3 := kn_tgt hA hI k
    have hpl := hpl i1
    rw [i3, i4] at hpl
    rw [if_pos i1] at hir
    rw [i2] at hra
    have y1 := c_kind2 hA hC hb.1 (show ts A p s < 100 by omega)
    have y2 := c_rowAt hA hC hb.1 (show ts A p s < 100 by omega)
    have y3 : rw1 A (tp A p s) (ts A p s) = nI x := by
      unfold rw1
      rw [if_neg (by omega), if_pos k3, q.2.2.2.2.2.2.2.1, q.2.2.2.2.2.2.2.2, pk_mul, nI_add, ex]
    rw [k3] at y1
    rw [y3] at y2
    have d1 : nI (100 * tp A p s + ts A p s) / (100 : Int32) = nI (tp A p s) := (r100 (show tp A p s < 1000 by omega) (show ts A p s < 100 by omega)).1
    have d2 : nI x / (100 : Int32) = nI p := by rw [← ex]; exact (r100 (show p < 1000 by omega) (show s < 100 by omega)).1
    have d3 : (nI (tp A p s) = nI p) = False := eq_false (nI_ne (by omega) (by omega) q.2.2.2.1)
    have b1 : (ib A x = true) = True := eq_true (hib.mpr i1)
    have b2 : (kb A 2 x = true) = True := eq_true (hk2.mpr k)
    have b3 : (kb A 3 x = true) = False := eq_false (fun w => by have := hk3.mp w; omega)
    rw [k]
    unfold fL_holds_j57 fL_holds_j62 fL_holds_j75 fL_holds_j89 fL_holds_j103 fL_holds_j149 fL_holds_j171 fL_holds_j192 fL_holds_j197 fL_holds_j257 fL_holds_j259
    simp only [b1, b2, b3, k21, k22, k23, k33, z10, z11, if_true, if_false, hir, hra, hpl, y1, y2, d1, d2, d3, Option.bind_some, m1e]
  · have i1 : ¬ isr A p s := by unfold isr; omega
    obtain ⟨q, t, r1, r2, r3, r4⟩ := rw1_row hA hJ (Or.inr k)
    have hpl2 := c_placeOf hA hI hC r2
    rw [r3, r4, ex] at hpl2
    rw [if_neg i1] at hir
    rw [r1] at hra
    have b1 : (ib A x = true) = False := eq_false (fun w => i1 (hib.mp w))
    have b2 : (kb A 2 x = true) = False := eq_false (fun w => by have := hk2.mp w; omega)
    have b3 : (kb A 3 x = true) = True := eq_true (hk3.mpr k)
    rw [k]
    unfold fL_holds_j62 fL_holds_j75 fL_holds_j89 fL_holds_j103 fL_holds_j149 fL_holds_j171 fL_holds_j192 fL_holds_j197 fL_holds_j259
    simp only [b1, b2, b3, k31, k32, k33, z10, z00, if_true, if_false, hir, hra, hpl2, Option.bind_some, m1e]
theorem c_holds (hA : WA A) (hI : RI A) (hJ : RJ A) (hC : CA u.1.1 A) : fL_holds u = some 1 := by
  have h8 := hA.1
  have hn := nrows_le A
  have hnn := nnotes_le A
  have hff := ffv_ok hA
  have hpg : (100 : Int32) * nI A.1 = nI (100 * A.1) := pk_mul 100 A.1
  unfold fL_holds
  rw [c_pages hC, Option.bind_some, if_neg (show ¬ (8 : Int32) < nI A.1 by rw [show (8 : Int32) = nI 8 from rfl, e_lt (by omega) (by omega)]; omega)]
  unfold fL_holds_j20
  rw [itr0 (step := fun a : Int32 × Int32 × Int32 × Int32 × Int32 => fL_holds_s25 u a.1 a.2.1 a.2.2.1 a.2.2.2.1 a.2.2.2.2) (fun x => (nI (ct (ib A) x), nI (ct (kb A 2) x), nI (ct (kb A 3) x), (1 : Int32), nI x)) (nI (nrows A), nI (nnotes A), nI (nnotes A), (1 : Int32)) (100 * A.1) ?a0 ?a1 ?a2 (by omega), Option.bind_some]
  case a0 => rfl
  case a1 => exact fun x hx => c_hstep hA hI hJ hC hx
  case a2 =>
    show fL_holds_s25 u _ _ _ _ _ = _
    unfold fL_holds_s25
    rw [c_pages hC, Option.bind_some, hpg, if_pos (by rw [e_le (by omega) (by omega)]; exact Nat.le_refl _), ct_ib hA, ct_kb hA (by omega), ct_kb hA (by omega), ct_32 hA hI hJ]
    rfl
  simp only [m1e]
  rw [c_next hA hI hC, Option.bind_some, c_cnt hA hI hJ hC, Option.bind_some]
  unfold fL_holds_j300
  have e1 : fX4_kind u (99 : Int32) = some 0 := by
    rw [show (99 : Int32) = nI 99 from rfl, c_kind hA hC (by omega), kn_out (p := 99 / 100) (s := 99 % 100) (by have := (hA.2.1 0 (by omega)).1; show (A.2.1 0).1 ≤ 99; omega)]
    rfl
  have e2 : fX4_kind u (nI (100 * A.1)) = some 0 := by
    rw [c_kind hA hC (by omega), kn_no (fun w => by have := w.1; omega)]
    rfl
  simp only [m1e, if_true, z10, if_false, c_rows2 hA hC, c_notes2 hA hC, c_factor hA hC, Option.bind_some, eq_false hff.2.2.2.1, eq_false hff.2.2.2.2, c_kindM hA, e1, c_pages hC, hpg, e2]
end HO
