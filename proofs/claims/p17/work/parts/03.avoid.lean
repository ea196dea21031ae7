/-! cuts from which the final cut can be reached through good cuts alone -/
def cx_A (G : (Nat → Nat) → Prop) (K : Nat → Nat) (P : Nat) : Nat → (Nat → Nat) → Prop
  | 0 => fun _ => False
  | n + 1 => fun d => G d ∧ ((∀ p, p < 4 → d p = K p) ∨ ∃ p, p < P ∧ d p < K p ∧ cx_A G K P n (cx_up d p))
theorem cx_A_s (G : (Nat → Nat) → Prop) (K : Nat → Nat) (P n : Nat) (d : Nat → Nat) : cx_A G K P (n + 1) d ↔ (G d ∧ ((∀ p, p < 4 → d p = K p) ∨ ∃ p, p < P ∧ d p < K p ∧ cx_A G K P n (cx_up d p))) := Iff.rfl
def cx_R (G : (Nat → Nat) → Prop) (K : Nat → Nat) (P : Nat) (d : Nat → Nat) : Prop := cx_A G K P 26 d
theorem cx_lv_up {d : Nat → Nat} {p : Nat} (hp : p < 4) : cx_lv (cx_up d p) = cx_lv d + 1 := by
  unfold cx_lv cx_up
  rcases cx_p4 hp with rfl | rfl | rfl | rfl
  · show d 0 + 1 + d 1 + d 2 + d 3 = d 0 + d 1 + d 2 + d 3 + 1
    omega
  · show d 0 + (d 1 + 1) + d 2 + d 3 = d 0 + d 1 + d 2 + d 3 + 1
    omega
  · show d 0 + d 1 + (d 2 + 1) + d 3 = d 0 + d 1 + d 2 + d 3 + 1
    omega
  · show d 0 + d 1 + d 2 + (d 3 + 1) = d 0 + d 1 + d 2 + d 3 + 1
    omega
theorem cx_lv_le {d K : Nat → Nat} (h : ∀ p, p < 4 → d p ≤ K p) : cx_lv d ≤ cx_lv K := by
  have h0 := h 0 (by omega)
  have h1 := h 1 (by omega)
  have h2 := h 2 (by omega)
  have h3 := h 3 (by omega)
  unfold cx_lv
  omega
theorem cx_lv_eq {d K : Nat → Nat} (h : ∀ p, p < 4 → d p = K p) : cx_lv d = cx_lv K := by
  have h0 := h 0 (by omega)
  have h1 := h 1 (by omega)
  have h2 := h 2 (by omega)
  have h3 := h 3 (by omega)
  unfold cx_lv
  omega
theorem cx_lv_all {d K : Nat → Nat} (h : ∀ p, p < 4 → d p ≤ K p) (e : cx_lv d = cx_lv K) {p : Nat} (hp : p < 4) : d p = K p := by
  have h0 := h 0 (by omega)
  have h1 := h 1 (by omega)
  have h2 := h 2 (by omega)
  have h3 := h 3 (by omega)
  unfold cx_lv at e
  rcases cx_p4 hp with rfl | rfl | rfl | rfl <;> omega
theorem cx_lv_6 {K : Nat → Nat} (h : ∀ p, p < 4 → K p ≤ 6) : cx_lv K ≤ 24 := by
  have h0 := h 0 (by omega)
  have h1 := h 1 (by omega)
  have h2 := h 2 (by omega)
  have h3 := h 3 (by omega)
  unfold cx_lv
  omega
theorem cx_A_st {G : (Nat → Nat) → Prop} {K : Nat → Nat} {P : Nat} (hG : ∀ d, G d → ∀ p, p < 4 → d p ≤ K p) (hP : P ≤ 4) : ∀ n d, cx_lv K < cx_lv d + n → (cx_A G K P n d ↔ cx_A G K P (n + 1) d) := by
  intro n
  induction n with
  | zero =>
    intro d h
    constructor
    · exact fun z => z.elim
    · intro z
      have g := cx_lv_le (hG d ((cx_A_s G K P 0 d).mp z).1)
      omega
  | succ n ih =>
    intro d h
    have e : ∀ p, p < P → (cx_A G K P n (cx_up d p) ↔ cx_A G K P (n + 1) (cx_up d p)) := fun p hp => ih (cx_up d p) (by rw [cx_lv_up (by omega)]; omega)
    rw [cx_A_s G K P n d, cx_A_s G K P (n + 1) d]
    constructor
    · intro z
      obtain ⟨g, r⟩ := z
      refine ⟨g, ?_⟩
      rcases r with f | ⟨p, hp, hk, ha⟩
      · exact Or.inl f
      · exact Or.inr ⟨p, hp, hk, (e p hp).mp ha⟩
    · intro z
      obtain ⟨g, r⟩ := z
      refine ⟨g, ?_⟩
      rcases r with f | ⟨p, hp, hk, ha⟩
      · exact Or.inl f
      · exact Or.inr ⟨p, hp, hk, (e p hp).mpr ha⟩
theorem cx_R_iff {G : (Nat → Nat) → Prop} {K : Nat → Nat} {P : Nat} (hG : ∀ d, G d → ∀ p, p < 4 → d p ≤ K p) (hP : P ≤ 4) (hK : ∀ p, p < 4 → K p ≤ 6) (d : Nat → Nat) :
    cx_R G K P d ↔ (G d ∧ ((∀ p, p < 4 → d p = K p) ∨ ∃ p, p < P ∧ d p < K p ∧ cx_R G K P (cx_up d p))) :=
  (cx_A_st hG hP 26 d (by have := cx_lv_6 hK; omega)).trans (cx_A_s G K P 26 d)
/-! the least avoiding path -/
noncomputable def cx_ls (S : Nat → Prop) : Nat := @dite Nat (∃ k, S k ∧ ∀ j, j < k → ¬ S j) (Classical.propDecidable _) (fun h => h.choose) (fun _ => 0)
theorem cx_ls_s {S : Nat → Prop} (h : ∃ k, S k) : S (cx_ls S) ∧ ∀ j, j < cx_ls S → ¬ S j := by
  have h' := pk_least S h
  unfold cx_ls
  rw [dif_pos h']
  exact h'.choose_spec
theorem cx_ls_u {S : Nat → Prop} {k : Nat} (h : S k) (hk : ∀ j, j < k → ¬ S j) : cx_ls S = k := by
  have z := cx_ls_s ⟨k, h⟩
  have a : ¬ cx_ls S < k := fun l => hk _ l z.1
  have b : ¬ k < cx_ls S := fun l => z.2 _ l h
  omega
def cx_S (G : (Nat → Nat) → Prop) (K : Nat → Nat) (P : Nat) (d : Nat → Nat) (p : Nat) : Prop := p < P ∧ d p < K p ∧ cx_R G K P (cx_up d p)
noncomputable def cx_D (G : (Nat → Nat) → Prop) (K : Nat → Nat) (P : Nat) : Nat → Nat → Nat
  | 0 => fun _ => 0
  | n + 1 => cx_up (cx_D G K P n) (cx_ls (cx_S G K P (cx_D G K P n)))
theorem cx_D_s (G : (Nat → Nat) → Prop) (K : Nat → Nat) (P n : Nat) : cx_D G K P (n + 1) = cx_up (cx_D G K P n) (cx_ls (cx_S G K P (cx_D G K P n))) := rfl
theorem cx_D_ex {G : (Nat → Nat) → Prop} {K : Nat → Nat} {P : Nat} (hG : ∀ d, G d → ∀ p, p < 4 → d p ≤ K p) (hP : P ≤ 4) (hK : ∀ p, p < 4 → K p ≤ 6) {d : Nat → Nat} (h : cx_R G K P d) (hl : cx_lv d < cx_lv K) : ∃ p, cx_S G K P d p := by
  rcases ((cx_R_iff hG hP hK d).mp h).2 with f | ⟨p, hp, hk, ha⟩
  · have := cx_lv_eq f
    omega
  · exact ⟨p, hp, hk, ha⟩
theorem cx_D_ok {G : (Nat → Nat) → Prop} {K : Nat → Nat} {P : Nat} (hG : ∀ d, G d → ∀ p, p < 4 → d p ≤ K p) (hP : P ≤ 4) (hK : ∀ p, p < 4 → K p ≤ 6) (h0 : cx_R G K P (fun _ => 0)) : ∀ i, i ≤ cx_lv K → cx_R G K P (cx_D G K P i) ∧ cx_lv (cx_D G K P i) = i := by
  intro i
  induction i with
  | zero => exact fun _ => ⟨h0, rfl⟩
  | succ i ih =>
    intro hi
    obtain ⟨r, l⟩ := ih (by omega)
    have s := (cx_ls_s (cx_D_ex hG hP hK r (by omega))).1
    rw [cx_D_s]
    refine ⟨s.2.2, ?_⟩
    rw [cx_lv_up (Nat.lt_of_lt_of_le s.1 hP), l]
theorem cx_D_st {G : (Nat → Nat) → Prop} {K : Nat → Nat} {P : Nat} (hG : ∀ d, G d → ∀ p, p < 4 → d p ≤ K p) (hP : P ≤ 4) (hK : ∀ p, p < 4 → K p ≤ 6) (h0 : cx_R G K P (fun _ => 0)) {i : Nat} (hi : i < cx_lv K) :
    cx_S G K P (cx_D G K P i) (cx_ls (cx_S G K P (cx_D G K P i))) ∧ ∀ j, j < cx_ls (cx_S G K P (cx_D G K P i)) → ¬ cx_S G K P (cx_D G K P i) j := by
  obtain ⟨r, l⟩ := cx_D_ok hG hP hK h0 i (by omega)
  exact cx_ls_s (cx_D_ex hG hP hK r (by omega))
theorem cx_D_end {G : (Nat → Nat) → Prop} {K : Nat → Nat} {P : Nat} (hG : ∀ d, G d → ∀ p, p < 4 → d p ≤ K p) (hP : P ≤ 4) (hK : ∀ p, p < 4 → K p ≤ 6) (h0 : cx_R G K P (fun _ => 0)) (p : Nat) : ¬ cx_S G K P (cx_D G K P (cx_lv K)) p := by
  intro s
  obtain ⟨r, l⟩ := cx_D_ok hG hP hK h0 (cx_lv K) (Nat.le_refl _)
  have e := cx_lv_all (hG _ ((cx_R_iff hG hP hK _).mp r).1) l (p := p) (Nat.lt_of_lt_of_le s.1 hP)
  have := s.2.1
  omega
