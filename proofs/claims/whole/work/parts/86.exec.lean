section EX
variable {b : Nat → Int32} {L : Nat} {A : AS}
theorem c_endNum {u : TH} (hB : CB u b L) {a1 a2 e : Nat} (h1 : a1 ≤ e) (h2 : e ≤ a2) (h3 : a2 ≤ L) (hno : ∀ i, a1 ≤ i → i < e → b i ≠ 58) (he : e = a2 ∨ b e = 58) : fX4_endOfNumber u (nI a1) (nI a2) = some (nI e) := by
  have h60 := hB.1
  unfold fX4_endOfNumber
  have hst : ∀ j, j < e - a1 → fX4_endOfNumber_s2 u (nI a2) (nI (a1 + j)) = some (.inl (nI a2, nI (a1 + (j + 1)))) := by
    intro j hj
    unfold fX4_endOfNumber_s2
    rw [if_neg (by rw [e_le (by omega) (by omega)]; omega), c_at hB (by omega), Option.bind_some, if_neg (hno _ (by omega) (by omega))]
    simp only [lit, nI_add, Nat.add_assoc]
  by_cases c : e = a2
  · refine itrB (fun j => (nI a2, nI (a1 + j))) (1, (nI a2, (0 : Int32))) (e - a1) rfl (fun j hj => hst j hj) ?_ (by omega) ?_
    · show fX4_endOfNumber_s2 u (nI a2) (nI (a1 + (e - a1))) = _
      unfold fX4_endOfNumber_s2
      rw [if_pos (by rw [e_le (by omega) (by omega)]; omega)]
    · rw [if_neg (show ¬ (1 : Nat) = 0 by decide), c]
  · refine itrB (fun j => (nI a2, nI (a1 + j))) (0, ((0 : Int32), nI e)) (e - a1) rfl (fun j hj => hst j hj) ?_ (by omega) ?_
    · show fX4_endOfNumber_s2 u (nI a2) (nI (a1 + (e - a1))) = _
      rw [show a1 + (e - a1) = e by omega]
      unfold fX4_endOfNumber_s2
      rw [if_neg (by rw [e_le (by omega) (by omega)]; omega), c_at hB (by omega), Option.bind_some, if_pos (by rcases he with w | w; exact absurd w c; exact w)]
    · rw [if_pos rfl]
theorem c_numIn {u : TH} (hB : CB u b L) {a1 e : Nat} (h1 : a1 ≤ e) (h3 : e ≤ L) : fX4_numberIn u (nI a1) (nI e) = some (nmN b a1 (e - a1)) := by
  have h60 := hB.1
  unfold fX4_numberIn
  refine itrB (fun j => (nI e, nmN b a1 j, nI (a1 + j))) (nmN b a1 (e - a1)) (e - a1) rfl ?_ ?_ (by omega) rfl
  · intro j hj
    show fX4_numberIn_s5 u (nI e) (nmN b a1 j) (nI (a1 + j)) = some (.inl (nI e, (10 : Int32) * nmN b a1 j + b (a1 + j) - (48 : Int32), nI (a1 + (j + 1))))
    unfold fX4_numberIn_s5
    rw [if_neg (by rw [e_le (by omega) (by omega)]; omega), c_at hB (by omega), Option.bind_some]
    simp only [lit, nI_add, Nat.add_assoc]
  · show fX4_numberIn_s5 u (nI e) _ (nI (a1 + (e - a1))) = _
    unfold fX4_numberIn_s5
    rw [if_pos (by rw [e_le (by omega) (by omega)]; omega)]
def EXr (u v : TH) (A' : AS) : Prop := WA A' ∧ RI A' ∧ CA v.1.1 A' ∧ v.2.1 = u.2.1 ∧ v.2.2.2.2 = u.2.2.2.2
def EXm (w w' : TM) (A' : AS) : Prop := RA w'.2.1 A' ∧ w'.1.1 = w.1.1 ∧ w'.1.2.1 = w.1.2.1 ∧ w'.1.2.2.1 = w.1.2.2.1 ∧ w'.1.2.2.2.2 = w.1.2.2.2.2 ∧ w'.2.2.1 = w.2.2.1 ∧ ∀ j, 1532 ≤ j → w'.2.1 j = w.2.1 j
theorem ex_order {u : TH} {w : TM} {a a' : Nat} (hA : WA A) (hI : RI A) (hC : CA u.1.1 A) (hB : CB u b L) (hR : RA w.2.1 A) (ha' : a' ≤ L) (haL : a < L) (hO : OKI b a a' w.1.2.2.2.2.2.1 w.1.2.2.2.2.2.2.1 w.1.2.2.2.1 w.2.2.2.1) : (fX5_can w = some 0 ∧ ∃ v, fX4_executeOrder u (nI a) (nI a') = some (0, v) ∧ EXr u v A) ∨ (fX5_can w = some 1 ∧ ∃ v t w' A', fX4_executeOrder u (nI a) (nI a') = some (1, v) ∧ EXr u v A' ∧ fX5_does w = some (t, w') ∧ ¬ t < 0 ∧ EXm w w' A') := by
  obtain ⟨⟨w1, w2, w3, w4, w5, w6, w7, w8⟩, s, wb, wy1, wm⟩ := w
  change OKI b a a' w6 w7 w4 wy1 at hO
  change RA s A at hR
  have h60 := hB.1
  have hn := hA.1
  unfold fX4_executeOrder
  rw [c_at hB haL, Option.bind_some]
  rcases hO with ⟨rfl, hba, k, k1, k2, rfl, rfl, kr⟩ | ⟨rfl, hba, e, m, k, e1, k1, k2, rfl, hbe, hno, hm, hnm, rfl, rfl, kr⟩ | ⟨rfl, hba, m, hm, e1, hno, hnm, rfl⟩ | ⟨rfl, hba, rfl⟩
  · obtain ⟨ct, t1, t2⟩ := c_take (a := u.2.2.1) (b := u.2.1) (n := 60) (n2 := 60) (m := L) (x := a + 1) (y := a + 1 + k) hB.2.1 h60 (by omega) ha' (by omega) (by omega) (by omega)
    rw [Nat.add_sub_cancel_left] at t1 t2
    have hz := hs_b (show k ≤ 60 by omega)
    have mp := m_pageFor (u := ((w1, w2, w3, nI k, w5, 43, w7, w8), s, wb, wy1, wm)) (z := hs k) hA hR (by omega) M1 M1
    have hcan : fX5_can ((w1, w2, w3, nI k, w5, 43, w7, w8), s, wb, wy1, wm) = if fpR A (hs k) M1 M1 = M1 then some 0 else some 1 := by
      unfold fX5_can
      rw [if_pos rfl]
      show ((fX5_homeSize (nI k)).bind _) = _
      rw [m_hs (by omega), Option.bind_some]
      simp only [m1e]
      rw [mp, Option.bind_some]
    rw [hba, if_neg (by decide), if_pos rfl, show nI a + (1 : Int32) = nI (a + 1) from nI_1 a, t1, Option.bind_some]
    simp only [m1e]
    rw [c_hs (by omega), Option.bind_some, c_findPage hA hC (by omega), Option.bind_some]
    by_cases c : fp A (hs k) M1 M1 < 8
    · have hr := fp_room hA c (show hs k ≤ 124 by omega)
      have hle := fp_le A (hs k) M1 M1
      obtain ⟨v, j1, j2, j3, j4, j5⟩ := c_ins (u := (u.1, u.2.1, (nI k, ct), u.2.2.2)) (p := fp A (hs k) M1 M1) (l := k) hA hC c hle (by omega) rfl hr
      obtain ⟨f2, m2, g1, g2, g3⟩ := m_ins (u := ((w1, w2, w3, nI k, w5, 43, w7, w8), s, wb, wy1, wm)) (l := k) hA hR (by omega) rfl c
      have hE := ins_eff (c := ct) hA hI c hle (show k ≤ 60 by omega) hr
      have hf := fe_le (A.2.1 (fp1 A (hs k)))
      have h31 := (hA.2.1 (fp1 A (hs k)) c).1
      have hfp8 : fp1 A (hs k) < 8 := c
      refine Or.inr ⟨?_, v, nI (100 * fp1 A (hs k) + fe (A.2.1 (fp1 A (hs k)))), ((w1, w2, w3, nI k, w5, 43, w7, w8), f2, wb, wy1, m2), ins A (fp1 A (hs k)) k ct, ?_, ⟨hE.1, hE.2, j2, j3, j5⟩, ?_, nI_pos (by omega), ⟨?_, rfl, rfl, rfl, rfl, rfl, g3⟩⟩
      · rw [hcan, fpR_yes c, if_neg (nz (by omega))]
      · rw [fpR_yes c, if_neg (nz (by omega)), j1, Option.bind_some]
        unfold fX4_executeOrder_j77
        simp only [m1e]
        rw [if_neg (nz (by omega))]
      · unfold fX5_does
        rw [if_pos rfl, g1, Option.bind_some]
      · show RA f2 _
        rw [← ins_cong (c := wy1) (c' := ct) (fun i hi => by rw [kr i hi, t2 i hi]; exact (hB.2.2 _ (by omega)).symm)]
        exact g2
    · refine Or.inl ⟨?_, (u.1, u.2.1, (nI k, ct), u.2.2.2), ?_, ⟨hA, hI, hC, rfl, rfl⟩⟩
      · rw [hcan, fpR_no c, if_pos rfl]
      · rw [fpR_no c, if_pos rfl]
        unfold fX4_executeOrder_j77
        simp only [m1e]
        rw [if_pos trivial]
  · have hend := c_endNum hB (a1 := a + 1) (a2 := e + 1 + k) (e := e) (by omega) (by omega) ha' hno (Or.inr hbe)
    have hnum := c_numIn hB (a1 := a + 1) (e := e) (by omega) (by omega)
    rw [hba, if_neg (by decide), if_neg (by decide), show nI a + (1 : Int32) = nI (a + 1) from nI_1 a, hend, Option.bind_some, hnum, Option.bind_some, hnm]
    have hc0 : ∀ z : Int32, fX5_isIdentifier ((w1, w2, w3, nI k, w5, 61, nI m, w8), s, wb, wy1, wm) (nI m) = some z → fX5_can ((w1, w2, w3, nI k, w5, 61, nI m, w8), s, wb, wy1, wm) = if z = 0 then some 0 else ((fX5_way ((w1, w2, w3, nI k, w5, 61, nI m, w8), s, wb, wy1, wm) (nI m) (nI k)).bind fun z6 => (if z6 = M1 then some (0 : Int32) else some (1 : Int32))) := by
      intro z hz
      unfold fX5_can
      rw [if_neg (show ¬ (61 : Int32) = 43 by decide), if_neg (show ¬ (61 : Int32) = 94 by decide)]
      show ((fX5_isIdentifier ((w1, w2, w3, nI k, w5, 61, nI m, w8), s, wb, wy1, wm) (nI m)).bind _) = _
      rw [hz, Option.bind_some, if_neg (show ¬ (61 : Int32) = 45 by decide)]
      simp only [m1e]
    rcases rowx hA (nI m) with ⟨r1, r2⟩ | ⟨p, q, hp, hq, hpq, hk, r1, r2⟩
    · refine Or.inl ⟨?_, u, ?_, ⟨hA, hI, hC, rfl, rfl⟩⟩
      · rw [hc0 0 (r2 _ hR), if_pos rfl]
      · rw [r1 u hC, Option.bind_some, if_pos rfl]
    · have hh : has A p q := kn_has (by omega)
      obtain ⟨ct, t1, t2⟩ := c_take (a := u.2.2.1) (b := u.2.1) (n := 60) (n2 := 60) (m := L) (x := e + 1) (y := e + 1 + k) hB.2.1 h60 (by omega) ha' (by omega) (by omega) (by omega)
      rw [Nat.add_sub_cancel_left] at t1 t2
      have hcan := hc0 1 (r2 _ hR)
      rw [if_neg (by decide), hpq, m_way (u := ((w1, w2, w3, nI k, w5, 61, nI (100 * p + q), w8), s, wb, wy1, wm)) hA hI hR hk (show k ≤ 60 by omega), Option.bind_some] at hcan
      rw [r1 u hC, Option.bind_some, if_neg (by decide), if_neg (by decide), show nI e + (1 : Int32) = nI (e + 1) from nI_1 e, t1, Option.bind_some, hpq]
      have hway := c_way (u := (u.1, u.2.1, (nI k, ct), u.2.2.2)) hA hI hC hh (show k ≤ 60 by omega)
      simp only [m1e]
      rw [hway, Option.bind_some]
      by_cases c : wy A p q k = M1
      · refine Or.inl ⟨?_, (u.1, u.2.1, (nI k, ct), u.2.2.2), ?_, ⟨hA, hI, hC, rfl, rfl⟩⟩
        · rw [hcan, if_pos c]
        · rw [if_pos c]
          unfold fX4_executeOrder_j180
          simp only [m1e]
          rw [if_pos c]
      · obtain ⟨v, j1, j2, j3, j4, j5⟩ := c_chg (u := (u.1, u.2.1, (nI k, ct), u.2.2.2)) (l := k) hA hI hC hk (by omega) rfl c
        obtain ⟨f2, m2, g1, g2, g3⟩ := m_chg (u := ((w1, w2, w3, nI k, w5, 61, nI (100 * p + q), w8), s, wb, wy1, wm)) (l := k) hA hI hR hk (by omega) rfl c
        have hE := chg_eff (c := ct) hA hI hk (show k ≤ 60 by omega) c
        have hpos : ¬ wy A p q k < 0 := by
          have hw3 : wy A p q k = nI 1 ∨ wy A p q k = nI 2 ∨ wy A p q k = nI 3 := by
            by_cases h1 : hs k ≤ rr A p q
            · exact Or.inl (if_pos h1)
            · by_cases h2 : kn A p q = 2 ∧ k + 3 ≤ rr A (tp A p q) (ts A p q)
              · exact Or.inr (Or.inl (by unfold wy; rw [if_neg h1, if_pos h2]))
              · exact Or.inr (Or.inr (wy_3 hA hI hk (by omega) h1 h2 c).1)
          rcases hw3 with h | h | h <;> (rw [h]; exact nI_pos (by omega))
        refine Or.inr ⟨?_, v, wy A p q k, ((w1, w2, w3, nI k, w5, 61, nI (100 * p + q), w8), f2, wb, wy1, m2), chg A p q k ct, ?_, ⟨hE.1, hE.2, j2, j3, j5⟩, ?_, hpos, ⟨?_, rfl, rfl, rfl, rfl, rfl, g3⟩⟩
        · rw [hcan, if_neg c]
        · rw [if_neg c, j1, Option.bind_some]
          unfold fX4_executeOrder_j180
          simp only [m1e]
          rw [if_neg c]
        · unfold fX5_does
          rw [if_neg (show ¬ (61 : Int32) = 43 by decide), if_neg (show ¬ (61 : Int32) = 45 by decide), if_pos rfl]
          show ((fX5_updates ((w1, w2, w3, nI k, w5, 61, nI (100 * p + q), w8), s, wb, wy1, wm) (nI (100 * p + q))).bind _) = _
          rw [g1, Option.bind_some]
        · show RA f2 _
          rw [← chg_cong (c := wy1) (c' := ct) (fun i hi => by rw [kr i hi, t2 i hi]; exact (hB.2.2 _ (by omega)).symm)]
          exact g2
  · have hend := c_endNum hB (a1 := a + 1) (a2 := a') (e := a') (by omega) (by omega) ha' hno (Or.inl rfl)
    have hnum := c_numIn hB (a1 := a + 1) (e := a') (by omega) (by omega)
    rw [hba, if_neg (by decide), if_neg (by decide), show nI a + (1 : Int32) = nI (a + 1) from nI_1 a, hend, Option.bind_some, hnum, Option.bind_some, hnm]
    have hcan : ∀ z : Int32, fX5_isIdentifier ((w1, w2, w3, w4, w5, 45, nI m, w8), s, wb, wy1, wm) (nI m) = some z → fX5_can ((w1, w2, w3, w4, w5, 45, nI m, w8), s, wb, wy1, wm) = if z = 0 then some 0 else some 1 := by
      intro z hz
      unfold fX5_can
      rw [if_neg (show ¬ (45 : Int32) = 43 by decide), if_neg (show ¬ (45 : Int32) = 94 by decide)]
      show ((fX5_isIdentifier ((w1, w2, w3, w4, w5, 45, nI m, w8), s, wb, wy1, wm) (nI m)).bind _) = _
      rw [hz, Option.bind_some, if_pos rfl]
    rcases rowx hA (nI m) with ⟨r1, r2⟩ | ⟨p, q, hp, hq, hpq, hk, r1, r2⟩
    · refine Or.inl ⟨?_, u, ?_, ⟨hA, hI, hC, rfl, rfl⟩⟩
      · rw [hcan 0 (r2 _ hR), if_pos rfl]
      · rw [r1 u hC, Option.bind_some, if_pos rfl]
    · have hP := pp_b hA hI (show has A p q from kn_has (by omega))
      have hPb := has_b hA hP
      have hrl := (rl_le hA hI hP (pp_n2 hA hI (show has A p q from kn_has (by omega)))).1
      obtain ⟨v, j1, j2⟩ := c_del (u := u) hA hI hC hk
      obtain ⟨f2, g1, g2, g3⟩ := m_del (u := ((w1, w2, w3, w4, w5, 45, nI m, w8), s, wb, wy1, wm)) hA hI hR hk
      have hE := del_eff hA hI hk
      refine Or.inr ⟨?_, (v, u.2), nI (rl A (pp A p q) (ps A p q)), ((w1, w2, w3, w4, w5, 45, nI m, w8), f2, wb, wy1, wm), del A p q, ?_, ⟨hE.1, hE.2, j2, rfl, rfl⟩, ?_, nI_pos (by omega), ⟨g2, rfl, rfl, rfl, rfl, rfl, g3⟩⟩
      · rw [hcan 1 (r2 _ hR), if_neg (by decide)]
      · rw [r1 u hC, Option.bind_some, if_neg (by decide), if_pos rfl, hpq, j1, Option.bind_some]
      · unfold fX5_does
        rw [if_neg (show ¬ (45 : Int32) = 43 by decide), if_pos rfl]
        show ((fX5_deletes ((w1, w2, w3, w4, w5, 45, nI m, w8), s, wb, wy1, wm) (nI m)).bind _) = _
        rw [show fX5_deletes ((w1, w2, w3, w4, w5, 45, nI m, w8), s, wb, wy1, wm) (nI m) = fX5_deletes ((w1, w2, w3, w4, w5, 45, nI m, w8), s, wb, wy1, wm) (nI (100 * p + q)) from by rw [hpq], g1, Option.bind_some]
  · obtain ⟨v, j1, j2, j3, j4⟩ := c_bring hA hI hC
    obtain ⟨w', g1, g2, g3⟩ := m_bring (u := ((w1, w2, w3, w4, w5, 94, w7, w8), s, wb, wy1, wm)) hA hI hR
    obtain ⟨i1, i2, -⟩ := bal_ok hA hI (100 * A.1)
    obtain ⟨q1, q2, q3, q4, q5, q6⟩ := g3
    have hble := bal_le A (100 * A.1)
    refine Or.inr ⟨rfl, v, nI (bal A (100 * A.1)).2, w', (bal A (100 * A.1)).1, ?_, ⟨i1, i2, j2, j3, j4⟩, ?_, nI_pos (by omega), ⟨g2, q1, q2, q3, q4, q5, q6⟩⟩
    · rw [hba, if_pos rfl, j1, Option.bind_some]
    · unfold fX5_does
      rw [if_neg (show ¬ (94 : Int32) = 43 by decide), if_neg (show ¬ (94 : Int32) = 45 by decide), if_neg (show ¬ (94 : Int32) = 61 by decide), g1, Option.bind_some]
end EX
