/-! the printed arithmetic of codes, slots and weights -/
theorem cx_ix {c p : Nat} (hc : c < 4096) (hp : p < 4) : (nI c >>> ((9 - nI p * 3) &&& 31)) &&& 7 = nI (cx_d8 c p) := by
  rcases cx_p4 hp with rfl | rfl | rfl | rfl
  · rw [pk_shrN (by omega) _ 9 (by decide), pk_andN (by omega) 3 (by decide)]
    rfl
  · rw [pk_shrN (by omega) _ 6 (by decide), pk_andN (by omega) 3 (by decide)]
    rfl
  · rw [pk_shrN (by omega) _ 3 (by decide), pk_andN (by omega) 3 (by decide)]
    rfl
  · rw [pk_shrN (by omega) _ 0 (by decide), pk_andN (by omega) 3 (by decide)]
    show nI (c / 1 % 8) = nI (c % 8)
    rw [Nat.div_one]
theorem cx_sh {p : Nat} (hp : p < 4) : (1 : Int32) <<< ((9 - nI p * 3) &&& 31) = nI (cx_w8 p) := by
  rcases cx_p4 hp with rfl | rfl | rfl | rfl <;> decide
theorem cx_sf {c p : Nat} (hp : p < 4) : nI c + ((1 : Int32) <<< ((9 - nI p * 3) &&& 31)) = nI (c + cx_w8 p) := by
  rw [cx_sh hp, nI_add]
theorem cx_sl (p k : Nat) : nI p * 7 + nI k = nI (p * 7 + k) := by
  have h : nI p * 7 = nI (p * 7) := pk_mul p 7
  rw [h, nI_add]
theorem cx_st (s q : Nat) : nI s * 4 + nI q = nI (s * 4 + q) := by
  have h : nI s * 4 = nI (s * 4) := pk_mul s 4
  rw [h, nI_add]
theorem cx_y6 (p k : Nat) : nI p * 6 + nI (k + 1) - 1 = nI (p * 6 + k) := by
  have h : nI p * 6 = nI (p * 6) := pk_mul p 6
  rw [h, nI_add]
  exact nI_pred (p * 6 + k)
theorem cx_yi (p k q : Nat) : (nI p * 6 + nI (k + 1) - 1) * 4 + nI q = nI ((p * 6 + k) * 4 + q) := by
  rw [cx_y6, cx_st]
theorem cx_dg {c p : Nat} (hc : c < 2401) (hp : p < 4) : nI c / nI (cx_w7 p) - nI c / nI (cx_w7 p) / 7 * 7 = nI (cx_d7 c p) := by
  rcases cx_p4 hp with rfl | rfl | rfl | rfl
  · have e : nI c / nI (cx_w7 0) = nI (c / 343) := pk_div (d := 343) (by omega) (by omega) (by omega)
    rw [e]
    exact pk_rem (d := 7) (by omega) (by omega) (by omega)
  · have e : nI c / nI (cx_w7 1) = nI (c / 49) := pk_div (d := 49) (by omega) (by omega) (by omega)
    rw [e]
    exact pk_rem (d := 7) (by omega) (by omega) (by omega)
  · have e : nI c / nI (cx_w7 2) = nI (c / 7) := pk_div (d := 7) (by omega) (by omega) (by omega)
    rw [e]
    exact pk_rem (d := 7) (by omega) (by omega) (by omega)
  · have e : nI c / nI (cx_w7 3) = nI (c / 1) := pk_div (d := 1) (by omega) (by omega) (by omega)
    rw [e, Nat.div_one]
    exact pk_rem (d := 7) (by omega) (by omega) (by omega)
theorem cx_w7_pos (p : Nat) : 0 < cx_w7 p ∧ cx_w7 p < 2 ^ 31 := by
  unfold cx_w7
  repeat' split
  all_goals omega
/-! stores -/
theorem cx_upd_id {f : Nat → Int32} {k : Nat} {x : Int32} (h : f k = x) : upd f k x = f := by
  funext j
  by_cases e : j = k
  · rw [e, pk_us, h]
  · rw [pk_un e]
theorem cx_slot_inj {p k p' k' : Nat} (hk : k < 7) (hk' : k' < 7) (h : p * 7 + k = p' * 7 + k') : p = p' ∧ k = k' := by omega
theorem cx_slot6_inj {p k p' k' : Nat} (hk : k < 6) (hk' : k' < 6) (h : p * 6 + k = p' * 6 + k') : p = p' ∧ k = k' := by omega
theorem cx_cell_inj {s q s' q' : Nat} (hq : q < 4) (hq' : q' < 4) (h : s * 4 + q = s' * 4 + q') : s = s' ∧ q = q' := by omega
/-! the pure picture of a cut's state -/
def cx_Va (K d : Nat → Nat) : Prop := ∀ p, p < 4 → d p ≤ K p
def cx_Co (P : Nat) (st : Nat → Int32) (d : Nat → Nat) : Prop := ∀ p, p < P → ∀ q, q < P → st ((p * 7 + d p) * 4 + q) ≤ nI (d q)
def cx_Wb (P : Nat) (va lo hi : Nat → Int32) (d : Nat → Nat) : Prop := ∀ p, p < P → ¬ va (p * 7 + d p) < lo p ∧ va (p * 7 + d p) ≤ hi p
def cx_Sm (va : Nat → Int32) (d : Nat → Nat) : Nat → Int64
  | 0 => 0
  | n + 1 => cx_Sm va d n + (va (n * 7 + d n)).toInt64
def cx_Sa (P : Nat) (md th : Int32) (va lo hi : Nat → Int32) (d : Nat → Nat) : Prop :=
  (md = 0 → cx_Wb P va lo hi d) ∧ (¬ md = 0 → (md = 1 → ¬ cx_Sm va d P < th.toInt64) ∧ (¬ md = 1 → ¬ th.toInt64 < cx_Sm va d P))
def cx_V (P : Nat) (K : Nat → Nat) (st : Nat → Int32) (d : Nat → Nat) : Prop := cx_Va K d ∧ cx_Co P st d
def cx_Q (P : Nat) (K : Nat → Nat) (st : Nat → Int32) (md th : Int32) (va lo hi : Nat → Int32) (d : Nat → Nat) : Prop := cx_V P K st d ∧ cx_Sa P md th va lo hi d
def cx_G (P : Nat) (K : Nat → Nat) (st : Nat → Int32) (md th : Int32) (va lo hi : Nat → Int32) (d : Nat → Nat) : Prop := cx_V P K st d ∧ ¬ cx_Sa P md th va lo hi d
theorem cx_V_7 {P : Nat} {K : Nat → Nat} {st : Nat → Int32} (hK : ∀ p, p < 4 → K p ≤ 6) : ∀ d, cx_V P K st d → ∀ p, p < 4 → d p < 7 :=
  fun _ h p hp => by have a := h.1 p hp; have b := hK p hp; omega
theorem cx_Q_7 {P : Nat} {K : Nat → Nat} {st : Nat → Int32} {md th : Int32} {va lo hi : Nat → Int32} (hK : ∀ p, p < 4 → K p ≤ 6) : ∀ d, cx_Q P K st md th va lo hi d → ∀ p, p < 4 → d p < 7 :=
  fun d h => cx_V_7 hK d h.1
theorem cx_G_K {P : Nat} {K : Nat → Nat} {st : Nat → Int32} {md th : Int32} {va lo hi : Nat → Int32} : ∀ d, cx_G P K st md th va lo hi d → ∀ p, p < 4 → d p ≤ K p :=
  fun _ h => h.1.1
