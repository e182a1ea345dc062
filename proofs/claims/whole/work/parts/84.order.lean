def OKI (b : Nat → Int32) (a a' : Nat) (o id mn : Int32) (r : Ar) : Prop :=
  (o = 43 ∧ b a = 43 ∧ ∃ k, 1 ≤ k ∧ k ≤ 40 ∧ a' = a + 1 + k ∧ mn = nI k ∧ ∀ i, i < k → r i = b (a + 1 + i)) ∨
  (o = 61 ∧ b a = 61 ∧ ∃ e m k, a + 1 < e ∧ 1 ≤ k ∧ k ≤ 40 ∧ a' = e + 1 + k ∧ b e = 58 ∧ (∀ i, a + 1 ≤ i → i < e → b i ≠ 58) ∧ m ≤ 799 ∧ nmN b (a + 1) (e - (a + 1)) = nI m ∧ id = nI m ∧ mn = nI k ∧ ∀ i, i < k → r i = b (e + 1 + i)) ∨
  (o = 45 ∧ b a = 45 ∧ ∃ m, m ≤ 799 ∧ a + 1 < a' ∧ (∀ i, a + 1 ≤ i → i < a' → b i ≠ 58) ∧ nmN b (a + 1) (a' - (a + 1)) = nI m ∧ id = nI m) ∨
  (o = 94 ∧ b a = 94 ∧ a' = a + 1)
def ORe (b : Nat → Int32) (L a a' : Nat) (z o id mn : Int32) (r : Ar) : Prop := a ≤ a' ∧ a' ≤ L ∧ ∃ q, rs b a' = some q ∧ ((z = 0 ∧ (a' < L → acp q (b a') = none) ∧ (a' = L → fX1_mayEnd q = some 0)) ∨ (z = 1 ∧ a < a' ∧ may q ∧ (a' < L → b a' ≠ 59 → acp q (b a') = none) ∧ (∀ i, a ≤ i → i < a' → b i ≠ 59) ∧ OKI b a a' o id mn r))
section OR5
variable {y : TM} {b : Nat → Int32} {L : Nat} {mn o id : Int32} {r : Ar}
theorem m_order (hB : RB y b L) {a : Nat} (ha : a ≤ L) (hR : rs b a = some S0) : ∃ z mn' a' o' id' r', fX5_readsOrder (pst y mn a o id r) = some (z, pst y mn' a' o' id' r') ∧ ORe b L a a' z o' id' mn' r' := by
  have h60 := hB.1
  obtain ⟨c, hc⟩ : ∃ c, c = sgo b L a := ⟨_, rfl⟩
  have hop : fX5_readsOrder (pst y mn a o id r) = (fX5_takes (pst y mn a c id r) (43 : Int32)).bind fun z2 => (if z2.1 = 0 then ((fX5_takes z2.2 (61 : Int32)).bind fun z4 => (if z4.1 = 0 then ((fX5_takes z4.2 (45 : Int32)).bind fun z6 => (if z6.1 = 0 then ((fX5_takes z6.2 (94 : Int32)).bind fun z8 => ((zO z8.1).bind fun z9 => some (z9, z8.2))) else ((fX5_readsIdentifier z6.2).bind fun z10 => ((zO z10.1).bind fun z11 => some (z11, z10.2))))) else ((fX5_readsIdentifier z4.2).bind fun z12 => (if z12.1 = 0 then some ((0 : Int32), z12.2) else ((fX5_takes z12.2 (58 : Int32)).bind fun z14 => (if z14.1 = 0 then some ((0 : Int32), z14.2) else ((fX5_readsData z14.2).bind fun z16 => (if z16.1 = 0 then some ((0 : Int32), z16.2) else some ((1 : Int32), z16.2))))))))) else ((fX5_readsData z2.2).bind fun z18 => ((zO z18.1).bind fun z19 => some (z19, z18.2)))) := by
    unfold fX5_readsOrder
    rw [m_sign hB ha, Option.bind_some, ← hc]
    rfl
  have dead : ∀ {q : TR} {a' : Nat}, (a' < L → acp q (b a') = none) → (a' = L → fX1_mayEnd q = some 0) → rs b a' = some q → a ≤ a' → a' ≤ L → ∀ (o' id' mn' : Int32) (r' : Ar), ORe b L a a' 0 o' id' mn' r' := fun h1 h2 h3 h4 h5 o' id' mn' r' => ⟨h4, h5, _, h3, Or.inl ⟨rfl, h1, h2⟩⟩
  rw [hop]
  by_cases c43 : c = 43
  · obtain ⟨haL, hba⟩ := sgo_lt (hc.symm.trans c43) (by decide)
    have hS : rs b (a + 1) = some (SD 0) := by rw [rs_s hR, hba]; rfl
    obtain ⟨k, r', h1, h2, h3, h4, h5, h6, h7⟩ := m_data (mn := mn) (o := c) (id := id) (r := r) hB (show a + 1 ≤ L by omega) hS
    rw [takesY hB ha (by rw [← hc]; exact c43), Option.bind_some, if_neg (show ¬ (1 : Int32) = 0 by decide)]
    have hmay := may_SD (k := k) (by omega)
    have hstop : a + 1 + k < L → b (a + 1 + k) ≠ 59 → acp (SD k) (b (a + 1 + k)) = none := by
      intro g1 g2
      rw [sgo_in g1] at h7
      exact acp_SDn h1 h7 g2
    by_cases ck : k = 0
    · rw [if_pos ck] at h3 hmay
      refine ⟨0, nI k, a + 1 + k, c, id, r', ?_, dead ?_ (fun _ => hmay) h5 (by omega) h2 _ _ _ _⟩
      · show ((fX5_readsData (pst y mn (a + 1) c id r)).bind _) = _
        rw [h3]; rfl
      · intro g1
        by_cases g2 : b (a + 1 + k) = 59
        · rw [g2]; exact acp_59n hmay
        · exact hstop g1 g2
    · rw [if_neg ck] at h3 hmay
      refine ⟨1, nI k, a + 1 + k, c, id, r', ?_, by omega, h2, _, h5, Or.inr ⟨rfl, by omega, hmay, hstop, ?_, Or.inl ⟨c43, hba, k, by omega, h1, rfl, rfl, h4⟩⟩⟩
      · show ((fX5_readsData (pst y mn (a + 1) c id r)).bind _) = _
        rw [h3]; rfl
      · intro i i1 i2
        by_cases g : i = a
        · rw [g, hba]; decide
        · exact (ltr_59 (h6 i (by omega) i2)).1
  · rw [takesN hB ha (by rw [← hc]; exact c43), Option.bind_some, if_pos rfl]
    by_cases c61 : c = 61
    · obtain ⟨haL, hba⟩ := sgo_lt (hc.symm.trans c61) (by decide)
      have hS : rs b (a + 1) = some (TN 2 0 0) := by rw [rs_s hR, hba]; rfl
      rw [takesY hB ha (by rw [← hc]; exact c61), Option.bind_some, if_neg (show ¬ (1 : Int32) = 0 by decide)]
      rcases m_rid (mn := mn) (o := c) (id := id) (r := r) hB (Or.inl rfl) (show a + 1 ≤ L by omega) hS with ⟨g1, g2⟩ | ⟨j, m, h1, h2, h3, h4, h5, h6, h7⟩
      · refine ⟨0, mn, a + 1, c, id, r, ?_, dead ?_ (fun _ => may_TN2) hS (by omega) (by omega) _ _ _ _⟩
        · show ((fX5_readsIdentifier (pst y mn (a + 1) c id r)).bind _) = _
          rw [g1]; rfl
        · intro w
          rw [sgo_in w] at g2
          by_cases e59 : b (a + 1) = 59
          · rw [e59]; exact acp_59n may_TN2
          · by_cases e58 : b (a + 1) = 58
            · rw [e58, acp_58 (by omega), if_pos rfl]
            · exact acp_TNn (Or.inl rfl) (by omega) (by omega) e59 (fun _ => e58) (Or.inl g2)
      · obtain ⟨e, he⟩ : ∃ e, e = a + 1 + 1 + j := ⟨_, rfl⟩
        rw [← he] at h1 h3 h4 h6 h7
        by_cases c58 : sgo b L e = 58
        · obtain ⟨heL, hbe⟩ := sgo_lt c58 (by decide)
          have hS2 : rs b (e + 1) = some (SD 0) := by rw [rs_s h4, hbe, acp_58 (by omega), if_neg (by omega)]
          obtain ⟨k, r', p1, p2, p3, p4, p5, p6, p7⟩ := m_data (mn := mn) (o := c) (id := nI m) (r := r) hB (show e + 1 ≤ L by omega) hS2
          have hmay := may_SD (k := k) (by omega)
          have hstop : e + 1 + k < L → b (e + 1 + k) ≠ 59 → acp (SD k) (b (e + 1 + k)) = none := by
            intro g1 g2
            rw [sgo_in g1] at p7
            exact acp_SDn p1 p7 g2
          have hrun : ((fX5_readsIdentifier (pst y mn (a + 1) c id r)).bind fun z12 => (if z12.1 = 0 then some ((0 : Int32), z12.2) else ((fX5_takes z12.2 (58 : Int32)).bind fun z14 => (if z14.1 = 0 then some ((0 : Int32), z14.2) else ((fX5_readsData z14.2).bind fun z16 => (if z16.1 = 0 then some ((0 : Int32), z16.2) else some ((1 : Int32), z16.2))))))) = (some ((if k = 0 then (0 : Int32) else 1), pst y (nI k) (e + 1 + k) c (nI m) r') : Option (Int32 × TM)).bind fun z16 => (if z16.1 = 0 then some ((0 : Int32), z16.2) else some ((1 : Int32), z16.2)) := by
            rw [h3, Option.bind_some, if_neg (show ¬ (1 : Int32) = 0 by decide), takesY hB h1 c58, Option.bind_some, if_neg (show ¬ (1 : Int32) = 0 by decide), p3]
          by_cases ck : k = 0
          · rw [if_pos ck] at hmay hrun
            refine ⟨0, nI k, e + 1 + k, c, nI m, r', ?_, dead ?_ (fun _ => hmay) p5 (by omega) p2 _ _ _ _⟩
            · exact hrun
            · intro g1
              by_cases g2 : b (e + 1 + k) = 59
              · rw [g2]; exact acp_59n hmay
              · exact hstop g1 g2
          · rw [if_neg ck] at hmay hrun
            refine ⟨1, nI k, e + 1 + k, c, nI m, r', ?_, by omega, p2, _, p5, Or.inr ⟨rfl, by omega, hmay, hstop, ?_, Or.inr (Or.inl ⟨c61, hba, e, m, k, by omega, by omega, p1, rfl, hbe, fun i i1 i2 => (dgt_59 (h6 i i1 i2)).2, h2, ?_, rfl, rfl, p4⟩)⟩⟩
            · exact hrun
            · intro i i1 i2
              by_cases g : i = a
              · rw [g, hba]; decide
              · by_cases g3 : i < e
                · exact (dgt_59 (h6 i (by omega) g3)).1
                · by_cases g4 : i = e
                  · rw [g4, hbe]; decide
                  · exact (ltr_59 (p6 i (by omega) i2)).1
            · rw [show e - (a + 1) = 1 + j by omega]; exact h5
        · refine ⟨0, mn, e, c, nI m, r, ?_, dead ?_ (fun _ => may_TN2) h4 (by omega) h1 _ _ _ _⟩
          · show ((fX5_readsIdentifier (pst y mn (a + 1) c id r)).bind _) = _
            rw [h3, Option.bind_some, if_neg (show ¬ (1 : Int32) = 0 by decide), takesN hB h1 c58]; rfl
          · intro w
            rw [sgo_in w] at h7 c58
            by_cases e59 : b e = 59
            · rw [e59]; exact acp_59n may_TN2
            · refine acp_TNn (Or.inl rfl) (by omega) h2 e59 (fun _ => c58) ?_
              rcases h7 with h7 | ⟨v, v1, v2, v3⟩
              · exact Or.inl h7
              · exact Or.inr ⟨v, v1, v2, by omega⟩
    · rw [takesN hB ha (by rw [← hc]; exact c61), Option.bind_some, if_pos rfl]
      by_cases c45 : c = 45
      · obtain ⟨haL, hba⟩ := sgo_lt (hc.symm.trans c45) (by decide)
        have hS : rs b (a + 1) = some (TN 3 0 0) := by rw [rs_s hR, hba]; rfl
        rw [takesY hB ha (by rw [← hc]; exact c45), Option.bind_some, if_neg (show ¬ (1 : Int32) = 0 by decide)]
        rcases m_rid (mn := mn) (o := c) (id := id) (r := r) hB (Or.inr rfl) (show a + 1 ≤ L by omega) hS with ⟨g1, g2⟩ | ⟨j, m, h1, h2, h3, h4, h5, h6, h7⟩
        · have hmay := may_TN3 (d := 0) (m := 0) (by omega)
          rw [if_pos rfl] at hmay
          refine ⟨0, mn, a + 1, c, id, r, ?_, dead ?_ (fun _ => hmay) hS (by omega) (by omega) _ _ _ _⟩
          · show ((fX5_readsIdentifier (pst y mn (a + 1) c id r)).bind _) = _
            rw [g1]; rfl
          · intro w
            rw [sgo_in w] at g2
            by_cases e59 : b (a + 1) = 59
            · rw [e59]; exact acp_59n hmay
            · exact acp_TNn (Or.inr rfl) (by omega) (by omega) e59 (fun w => absurd w (by decide)) (Or.inl g2)
        · obtain ⟨e, he⟩ : ∃ e, e = a + 1 + 1 + j := ⟨_, rfl⟩
          rw [← he] at h1 h3 h4 h6 h7
          have hmay := may_TN3 (d := 1 + j) (m := m) (by omega)
          rw [if_neg (by omega)] at hmay
          refine ⟨1, mn, e, c, nI m, r, ?_, by omega, h1, _, h4, Or.inr ⟨rfl, by omega, hmay, ?_, ?_, Or.inr (Or.inr (Or.inl ⟨c45, hba, m, h2, by omega, fun i i1 i2 => (dgt_59 (h6 i i1 i2)).2, ?_, rfl⟩))⟩⟩
          · show ((fX5_readsIdentifier (pst y mn (a + 1) c id r)).bind _) = _
            rw [h3]; rfl
          · intro w e59
            rw [sgo_in w] at h7
            refine acp_TNn (Or.inr rfl) (by omega) h2 e59 (fun w => absurd w (by decide)) ?_
            rcases h7 with h7 | ⟨v, v1, v2, v3⟩
            · exact Or.inl h7
            · exact Or.inr ⟨v, v1, v2, by omega⟩
          · intro i i1 i2
            by_cases g : i = a
            · rw [g, hba]; decide
            · exact (dgt_59 (h6 i (by omega) i2)).1
          · rw [show e - (a + 1) = 1 + j by omega]; exact h5
      · rw [takesN hB ha (by rw [← hc]; exact c45), Option.bind_some, if_pos rfl]
        by_cases c94 : c = 94
        · obtain ⟨haL, hba⟩ := sgo_lt (hc.symm.trans c94) (by decide)
          have hS : rs b (a + 1) = some S4 := by rw [rs_s hR, hba]; rfl
          rw [takesY hB ha (by rw [← hc]; exact c94)]
          refine ⟨1, mn, a + 1, c, id, r, rfl, by omega, by omega, _, hS, Or.inr ⟨rfl, by omega, may_S4, fun _ w => acp_S4 w, ?_, Or.inr (Or.inr (Or.inr ⟨c94, hba, rfl⟩))⟩⟩
          intro i i1 i2
          rw [show i = a by omega, hba]; decide
        · rw [takesN hB ha (by rw [← hc]; exact c94)]
          refine ⟨0, mn, a, c, id, r, rfl, dead ?_ (fun _ => may_S0) hR (Nat.le_refl _) ha _ _ _ _⟩
          intro w
          have hb : b a = c := by rw [hc, sgo_in w]
          rw [hb, acp_S0, if_neg c43, if_neg c61, if_neg c45, if_neg c94]
theorem m_orderL (hB : RB y b L) : ∃ mn' o' id' r', fX5_readsOrder (pst y mn L o id r) = some (0, pst y mn' L o' id' r') := by
  have hM : sgo b L L = M1 := sgo_out (Nat.lt_irrefl L)
  have hne : ∀ c : Int32, M1 ≠ c → sgo b L L ≠ c := fun c h => by rw [hM]; exact h
  refine ⟨mn, M1, id, r, ?_⟩
  unfold fX5_readsOrder
  rw [m_sign hB (Nat.le_refl L), Option.bind_some, hM]
  show ((fX5_takes (pst y mn L M1 id r) (43 : Int32)).bind _) = _
  rw [takesN hB (Nat.le_refl L) (hne 43 (by decide)), Option.bind_some, if_pos rfl, takesN hB (Nat.le_refl L) (hne 61 (by decide)), Option.bind_some, if_pos rfl, takesN hB (Nat.le_refl L) (hne 45 (by decide)), Option.bind_some, if_pos rfl, takesN hB (Nat.le_refl L) (hne 94 (by decide))]
  rfl
theorem m_complete (hB : RB y b L) (h0 : y.1.2.2.2.2.1 = y.1.2.2.2.2.1) : ∃ z mn' a' o' id' r' q, fX5_isComplete y = some (z, pst y mn' a' o' id' r') ∧ a' ≤ L ∧ rs b a' = some q ∧ (a' < L → acp q (b a') = none) ∧ ((z = 1 ∧ a' = L ∧ may q) ∨ (z = 0 ∧ (a' = L → fX1_mayEnd q = some 0))) := by
  have h60 := hB.1
  unfold fX5_isComplete
  have hloop : ∃ d, itr (fun a : TM => fX5_isComplete_s5 a) FU (pst y y.1.2.2.2.1 0 y.1.2.2.2.2.2.1 y.1.2.2.2.2.2.2.1 y.2.2.2.1) = some d ∧ ∃ z mn' a' o' id' r' q, d = (z, pst y mn' a' o' id' r') ∧ a' ≤ L ∧ rs b a' = some q ∧ (a' < L → acp q (b a') = none) ∧ ((z = 0 ∧ a' = L ∧ may q) ∨ (z ≠ 0 ∧ (a' = L → fX1_mayEnd q = some 0))) := by
    refine itrX (fun j x => ∃ mn a o id r, x = pst y mn a o id r ∧ a ≤ L ∧ j ≤ a ∧ rs b a = some S0) _ 61 ⟨_, 0, _, _, _, rfl, by omega, by omega, rfl⟩ ?_ ?_ (by omega)
    · intro j x hj hx
      obtain ⟨mn, a, o, id, r, rfl, h1, h2, h3⟩ := hx
      obtain ⟨z, mn', a', o', id', r', g1, g2, g3, q, g4, g5⟩ := m_order (mn := mn) (o := o) (id := id) (r := r) hB h1 h3
      show (∃ yy, fX5_isComplete_s5 (pst y mn a o id r) = some (.inl yy) ∧ _) ∨ ∃ d, fX5_isComplete_s5 (pst y mn a o id r) = some (.inr d) ∧ _
      unfold fX5_isComplete_s5
      rw [g1, Option.bind_some]
      rcases g5 with ⟨rfl, g6, g7⟩ | ⟨rfl, g6, g7, g8, g9, g10⟩
      · rw [if_pos rfl]
        exact Or.inr ⟨_, rfl, 2, mn', a', o', id', r', q, rfl, g3, g4, g6, Or.inr ⟨by decide, g7⟩⟩
      · rw [if_neg (show ¬ (1 : Int32) = 0 by decide)]
        by_cases c : a' = L
        · rw [if_pos (show (pst y mn' a' o' id' r').1.2.2.2.2.1 = (pst y mn' a' o' id' r').1.2.2.1 from by show nI a' = y.1.2.2.1; rw [hB.2.1, c])]
          exact Or.inr ⟨_, rfl, 0, mn', a', o', id', r', q, rfl, g3, g4, fun w => by omega, Or.inl ⟨rfl, c, g7⟩⟩
        · rw [if_neg (show ¬ (pst y mn' a' o' id' r').1.2.2.2.2.1 = (pst y mn' a' o' id' r').1.2.2.1 from by show ¬ nI a' = y.1.2.2.1; rw [hB.2.1, e_eq (by omega) (by omega)]; exact c)]
          by_cases e59 : b a' = 59
          · rw [takesY hB g3 (by rw [sgo_in (by omega)]; exact e59), Option.bind_some, if_neg (show ¬ (1 : Int32) = 0 by decide)]
            exact Or.inl ⟨_, rfl, mn', a' + 1, o', id', r', rfl, by omega, by omega, by rw [rs_s g4, e59]; exact acp_59 g7⟩
          · rw [takesN hB g3 (by rw [sgo_in (by omega)]; exact e59), Option.bind_some, if_pos rfl]
            exact Or.inr ⟨_, rfl, 1, mn', a', o', id', r', q, rfl, g3, g4, fun w => g8 w e59, Or.inr ⟨by decide, fun w => absurd w c⟩⟩
    · intro x hx
      obtain ⟨mn, a, o, id, r, rfl, h1, h2, h3⟩ := hx
      omega
  obtain ⟨d, e1, z, mn', a', o', id', r', q, rfl, g1, g2, g3, g4⟩ := hloop
  have e2 : ((((y.1.1, y.1.2.1, y.1.2.2.1, y.1.2.2.2.1, (0 : Int32), y.1.2.2.2.2.2), y.2)) : TM) = pst y y.1.2.2.2.1 0 y.1.2.2.2.2.2.1 y.1.2.2.2.2.2.2.1 y.2.2.2.1 := rfl
  rw [e2, e1, Option.bind_some]
  rcases g4 with ⟨rfl, h1, h2⟩ | ⟨hz, h1⟩
  · exact ⟨1, mn', a', o', id', r', q, rfl, g1, g2, g3, Or.inl ⟨rfl, h1, h2⟩⟩
  · rw [if_neg hz, ite_self]
    exact ⟨0, mn', a', o', id', r', q, rfl, g1, g2, g3, Or.inr ⟨rfl, h1⟩⟩
end OR5
