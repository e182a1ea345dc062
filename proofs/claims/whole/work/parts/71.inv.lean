theorem m1e : (-1 : Int32) = M1 := id rfl
def WI (A : AS) (K : Nat → AS) (n L : Nat) : Prop := WA A ∧ RI A ∧ L ≤ 60 ∧ n ≤ 6 ∧ ∀ i, i < n → WA (K i) ∧ RI (K i)
def CX (x : THS) (A : AS) (K : Nat → AS) (n L : Nat) (b : Nat → Int32) : Prop := CA x.1.1.1 A ∧ x.1.2.1.1 = nI L ∧ (∀ i, i < L → x.1.2.1.2 i = b i) ∧ x.1.2.2.2.2.2 = nI n ∧ ∀ i, i < n → CA (x.2.1 i) (K i)
def MY (y : TM) (A : AS) (K : Nat → AS) (n L : Nat) (b : Nat → Int32) : Prop := RA y.2.1 A ∧ y.1.2.2.1 = nI L ∧ (∀ i, i < L → y.2.2.1 i = b i) ∧ y.1.2.1 = nI n ∧ ∀ i, i < n → RA (fun j => y.2.1 (1532 * (i + 1) + j)) (K i)
def G (x : THS) (y : TM) : Prop := ∃ (A : AS) (K : Nat → AS) (n L : Nat) (b : Nat → Int32), WI A K n L ∧ CX x A K n L b ∧ MY y A K n L b
def PS (oc : Option ((Nat × THS) ⊕ (Int32 × THS))) (om : Option (Int32 × TM)) (l : List (Nat × Int32)) : Prop := (∃ c k x r y, (c, k) ∈ l ∧ oc = some (.inl (c, x)) ∧ om = some (r, y) ∧ y.1.1 = k ∧ G x y) ∨ ∃ v x y, oc = some (.inr (v, x)) ∧ om = some (v, y) ∧ y.1.1 = 0 ∧ G x y
def PT (s : (Nat → TS) × (Nat → Nat) × (Nat → Nat)) (oc : Option ((Nat × TH) ⊕ (Int32 × TH))) (om : Option (Int32 × TM)) (l : List (Nat × Int32)) : Prop := (∃ c k x r y, (c, k) ∈ l ∧ oc = some (.inl (c, x)) ∧ om = some (r, y) ∧ y.1.1 = k ∧ G (x, s) y) ∨ ∃ v x y, oc = some (.inr (v, x)) ∧ om = some (v, y) ∧ y.1.1 = 0 ∧ G (x, s) y
theorem i_gt {a b : Int32} : (b < a) = ¬ a ≤ b := propext (by rw [Int32.lt_iff_toInt_lt, Int32.le_iff_toInt_le]; omega)
theorem i_ge {a b : Int32} : (b ≤ a) = ¬ a < b := propext (by rw [Int32.lt_iff_toInt_lt, Int32.le_iff_toInt_le]; omega)
theorem holds0 {y : TM} : fX5_holds y 0 = some (1, (0, y.1.2), y.2) := rfl
theorem holdsN {y : TM} {k : Int32} (h : k ≠ 0) : fX5_holds y k = some (0, (k, y.1.2), y.2) := if_neg h
theorem in_yes {x a b : Int32} (h1 : ¬ x < a) (h2 : x ≤ b) : fX5_in x a b = some 1 := by
  unfold fX5_in
  rw [if_neg h1, if_neg (by rw [i_gt]; exact fun w => w h2)]
theorem in_no {x a b : Int32} (h : x < a ∨ ¬ x ≤ b) : fX5_in x a b = some 0 := by
  unfold fX5_in
  by_cases c : x < a
  · rw [if_pos c]
  · rw [if_neg c, if_pos (by rw [i_gt]; rcases h with q | q; exact absurd q c; exact q)]
theorem zO_0 : zO 0 = some 0 := rfl
theorem zO_1 : zO 1 = some 1 := rfl
theorem i_pos {x a : Int32} (ha : 0 ≤ a.toInt) (h : ¬ x < a) : ∃ j : Nat, j < 2 ^ 31 ∧ x = nI j := by
  refine nI_of fun w => h ?_
  rw [Int32.lt_iff_toInt_lt] at *
  have : (0 : Int32).toInt = 0 := rfl
  omega
theorem lg_refl (x : Int64) : lg_cmp x x = 0 := by
  unfold lg_cmp
  rw [if_neg (fun h => absurd (Int64.lt_iff_toInt_lt.mp h) (Int.lt_irrefl _)), if_pos rfl]
theorem lc_ok {z1 : Int32 × (THS × OutR)} {z2 : Int32 × TM} {j : Nat} (h1 : z2.2.1.1 = z1.1) (h2 : z1.1 = 0 → z1.2.2 j = z2.1.toInt64) : ((fX5_thrown z2.2).bind fun z3 => (if z3 = z1.1 then (if z1.1 = 0 then (if (lg_cmp (z1.2.2 j) z2.1.toInt64) = 0 then some (z1.2.1, z2.2, z1.2.2) else none) else some (z1.2.1, z2.2, z1.2.2)) else none)) = some (z1.2.1, z2.2, z1.2.2) := by
  unfold fX5_thrown
  rw [Option.bind_some, if_pos h1]
  by_cases c : z1.1 = 0
  · rw [if_pos c, h2 c, if_pos (lg_refl _)]
  · rw [if_neg c]
section KI
variable {A : AS}
theorem kx (hA : WA A) (a : Int32) : ∃ k : Nat, k ≤ 3 ∧ (∀ u : TH, CA u.1.1 A → fX4_kind u a = some (nI k)) ∧ (∀ y : TM, RA y.2.1 A → fX5_kindAt y a = some (nI k)) ∧ (k ≠ 0 → ∃ p s, p < 8 ∧ s < 31 ∧ a = nI (100 * p + s) ∧ k = kn A p s) := by
  by_cases c : a < 0
  · refine ⟨0, by omega, fun u _ => ?_, fun y _ => ?_, fun w => absurd rfl w⟩
    · unfold fX4_kind
      rw [if_neg (by rw [i_ge]; exact fun w => w c)]; rfl
    · unfold fX5_kindAt
      rw [if_pos c]; rfl
  · obtain ⟨x, hx, rfl⟩ := nI_of c
    refine ⟨kn A (x / 100) (x % 100), kn_le _ _ _, fun u hC => c_kind hA hC hx, fun y hR => m_kind hA hR hx, fun w => ?_⟩
    have hb := has_b hA (kn_has w)
    exact ⟨x / 100, x % 100, hb.1, hb.2.1, by rw [show 100 * (x / 100) + x % 100 = x by omega], rfl⟩
theorem c_isRow {u : TH} {a : Int32} {k : Nat} (hk : k ≤ 3) (h : fX4_kind u a = some (nI k)) : fX4_isRow u a = some (if k = 1 ∨ k = 2 then (1 : Int32) else 0) := by
  unfold fX4_isRow
  rw [h, Option.bind_some]
  have hc : k = 0 ∨ k = 1 ∨ k = 2 ∨ k = 3 := by omega
  rcases hc with rfl | rfl | rfl | rfl <;> rfl
theorem m_isId {y : TM} {a : Int32} {k : Nat} (hk : k ≤ 3) (h : fX5_kindAt y a = some (nI k)) : fX5_isIdentifier y a = some (if k = 1 ∨ k = 2 then (1 : Int32) else 0) := by
  unfold fX5_isIdentifier
  rw [h, Option.bind_some]
  have hc : k = 0 ∨ k = 1 ∨ k = 2 ∨ k = 3 := by omega
  rcases hc with rfl | rfl | rfl | rfl <;> rfl
theorem rowx (hA : WA A) (a : Int32) : ((∀ u : TH, CA u.1.1 A → fX4_isRow u a = some 0) ∧ (∀ y : TM, RA y.2.1 A → fX5_isIdentifier y a = some 0)) ∨ ∃ p s, p < 8 ∧ s < 31 ∧ a = nI (100 * p + s) ∧ (kn A p s = 1 ∨ kn A p s = 2) ∧ (∀ u : TH, CA u.1.1 A → fX4_isRow u a = some 1) ∧ (∀ y : TM, RA y.2.1 A → fX5_isIdentifier y a = some 1) := by
  obtain ⟨k, k1, k2, k3, k4⟩ := kx hA a
  by_cases c : k = 1 ∨ k = 2
  · obtain ⟨p, s, h1, h2, h3, h4⟩ := k4 (by omega)
    refine Or.inr ⟨p, s, h1, h2, h3, by omega, fun u hC => ?_, fun y hR => ?_⟩
    · rw [c_isRow k1 (k2 u hC), if_pos c]
    · rw [m_isId k1 (k3 y hR), if_pos c]
  · refine Or.inl ⟨fun u hC => ?_, fun y hR => ?_⟩
    · rw [c_isRow k1 (k2 u hC), if_neg c]
    · rw [m_isId k1 (k3 y hR), if_neg c]
theorem pagex (hn : A.1 ≤ 8) (a : Int32) : ((∀ u : TH, CA u.1.1 A → fX4_requirePage u a = some (.inl (3, u))) ∧ (∀ y : TM, RA y.2.1 A → fX5_isPage y a = some 0)) ∨ ∃ p, p < A.1 ∧ a = nI p ∧ (∀ u : TH, CA u.1.1 A → fX4_requirePage u a = some (.inr u)) ∧ (∀ y : TM, RA y.2.1 A → fX5_isPage y a = some 1) := by
  have hm : ∀ y : TM, RA y.2.1 A → fX5_isPage y a = (fX5_in a 0 (nI A.1 - 1)).bind zO := by
    intro y hR
    unfold fX5_isPage
    rw [show (0 : Int32) = nI 0 from rfl, m_n hR, Option.bind_some]
    show ((fX5_in a (nI 0) (nI A.1 - 1)).bind fun z2 => (zO z2).bind fun z3 => some z3) = _
    congr 1
    funext z
    cases zO z <;> rfl
  have hs : (nI A.1 - 1).toInt = (A.1 : Int) - 1 := pk_sub_toInt (b := 1) (by omega) (by omega)
  rcases pk_ix a (n := A.1) (by omega) with c | c | ⟨p, hp, rfl⟩
  · refine Or.inl ⟨fun u _ => ?_, fun y hR => ?_⟩
    · unfold fX4_requirePage
      rw [if_pos c]; rfl
    · rw [hm y hR, in_no (Or.inl c)]; rfl
  · refine Or.inl ⟨fun u hC => ?_, fun y hR => ?_⟩
    · unfold fX4_requirePage
      rw [c_pc hC]
      by_cases d : a < 0
      · rw [if_pos d]; rfl
      · rw [if_neg d, if_neg (by rw [i_gt]; exact fun w => w c)]; rfl
    · rw [hm y hR, in_no (Or.inr ?_)]
      · rfl
      · intro w
        rw [Int32.le_iff_toInt_le] at c w
        rw [nI_toInt (by omega)] at c
        omega
  · refine Or.inr ⟨p, hp, rfl, fun u hC => ?_, fun y hR => ?_⟩
    · unfold fX4_requirePage
      rw [c_pc hC, if_neg (nI_pos (by omega)), if_pos (nI_lt hp (by omega))]
    · rw [hm y hR, in_yes (nI_pos (by omega)) ?_]
      · rfl
      · rw [Int32.le_iff_toInt_le, nI_toInt (by omega)]
        omega
theorem lenx (a : Int32) : (fX4_requireLength () a = some (.inl (1, ())) ∧ fX5_in a 0 60 = some 0) ∨ ∃ l, l ≤ 60 ∧ a = nI l ∧ fX4_requireLength () a = some (.inr ()) ∧ fX5_in a 0 60 = some 1 := by
  rcases pk_ix a (n := 61) (by omega) with c | c | ⟨l, hl, rfl⟩
  · refine Or.inl ⟨?_, in_no (Or.inl c)⟩
    unfold fX4_requireLength
    rw [if_pos c]; rfl
  · have h : ¬ a ≤ (60 : Int32) := by
      rw [Int32.le_iff_toInt_le] at c ⊢
      rw [nI_toInt (by omega)] at c
      have : (60 : Int32).toInt = 60 := rfl
      omega
    refine Or.inl ⟨?_, in_no (Or.inr h)⟩
    unfold fX4_requireLength
    by_cases d : a < 0
    · rw [if_pos d]; rfl
    · rw [if_neg d, if_neg h]; rfl
  · have h : nI l ≤ (60 : Int32) := nI_le (b := 60) (by omega) (by omega)
    refine Or.inr ⟨l, by omega, rfl, ?_, in_yes (nI_pos (by omega)) h⟩
    unfold fX4_requireLength
    rw [if_neg (nI_pos (by omega)), if_pos h]
end KI
