/-! loops by shape: all of, the first of, a fold; W n i is the printed loop at fuel n and counter i -/
theorem cx_all {T F : Prop} (W : Nat → Nat → Prop) (e : Nat) (B : Nat → Prop) (hT : (∀ p, p < e → B p) → T) (hF : ¬ (∀ p, p < e → B p) → F)
    (hx : ∀ n, T → W (n + 1) e) (hs : ∀ n i, i < e → (B i → W n (i + 1)) → (¬ B i → F) → W (n + 1) i) : ∃ n, W n 0 := by
  have h : ∀ m i, i + m = e → (∀ p, p < i → B p) → W (m + 1) i := by
    intro m
    induction m with
    | zero =>
      intro i hi hb
      have : i = e := by omega
      subst this
      exact hx 0 (hT hb)
    | succ m ih =>
      intro i hi hb
      exact hs (m + 1) i (by omega) (fun b => ih (i + 1) (by omega) (lt_s hb b)) (fun nb => hF (fun a => nb (a i (by omega))))
  exact ⟨e + 1, h e 0 (by omega) lt_0⟩
theorem cx_fst {N : Prop} {F : Nat → Prop} (W : Nat → Nat → Prop) (e : Nat) (B : Nat → Prop) (hF : ∀ i, i < e → B i → (∀ j, j < i → ¬ B j) → F i) (hN : (∀ i, i < e → ¬ B i) → N)
    (hx : ∀ n, N → W (n + 1) e) (hs : ∀ n i, i < e → (¬ B i → W n (i + 1)) → (B i → F i) → W (n + 1) i) : ∃ n, W n 0 := by
  have h : ∀ m i, i + m = e → (∀ p, p < i → ¬ B p) → W (m + 1) i := by
    intro m
    induction m with
    | zero =>
      intro i hi hb
      have : i = e := by omega
      subst this
      exact hx 0 (hN hb)
    | succ m ih =>
      intro i hi hb
      exact hs (m + 1) i (by omega) (fun b => ih (i + 1) (by omega) (lt_s (p := fun j => ¬ B j) hb b)) (fun b => hF i (by omega) b hb)
  exact ⟨e + 1, h e 0 (by omega) (lt_0 (p := fun j => ¬ B j))⟩
theorem cx_fold {σ : Type} (W : Nat → Nat → σ → Prop) (e : Nat) (g : Nat → σ) (hx : ∀ n, W (n + 1) e (g e)) (hs : ∀ n i, i < e → W n (i + 1) (g (i + 1)) → W (n + 1) i (g i)) : ∃ n, W n 0 (g 0) := by
  have h : ∀ m i, i + m = e → W (m + 1) i (g i) := by
    intro m
    induction m with
    | zero =>
      intro i hi
      have : i = e := by omega
      subst this
      exact hx 0
    | succ m ih =>
      intro i hi
      exact hs (m + 1) i (by omega) (ih (i + 1) (by omega))
  exact ⟨e + 1, h e 0 (by omega)⟩
/-! a loop with an invariant, its state general -/
theorem cx_inv {σ : Type} (W : Nat → Nat → σ → Prop) (I : Nat → σ → Prop) (e : Nat) (s : σ) (h0 : I 0 s) (hx : ∀ n s, I e s → W (n + 1) e s)
    (hs : ∀ n i s, i < e → I i s → (∀ s', I (i + 1) s' → W n (i + 1) s') → W (n + 1) i s) : ∃ n, W n 0 s := pk_loop W I e 0 s (Nat.zero_le e) h0 hx hs
/-! comparisons of numbers -/
theorem cx_le {a b : Nat} {A B : Prop} (ha : a < 2 ^ 31) (hb : b < 2 ^ 31) (f : a ≤ b → A) (g : ¬ a ≤ b → B) : (nI a ≤ nI b → A) ∧ (¬ nI a ≤ nI b → B) := ek_if (nI_leI ha hb) f g
theorem cx_lt {a b : Nat} {A B : Prop} (ha : a < 2 ^ 31) (hb : b < 2 ^ 31) (f : a < b → A) (g : ¬ a < b → B) : (nI a < nI b → A) ∧ (¬ nI a < nI b → B) := ek_if (nI_ltI ha hb) f g
theorem cx_eq {a b : Nat} {A B : Prop} (ha : a < 2 ^ 31) (hb : b < 2 ^ 31) (f : a = b → A) (g : ¬ a = b → B) : (nI a = nI b → A) ∧ (¬ nI a = nI b → B) := ek_if (nI_eq ha hb) f g
theorem cx_ite_n {P : Prop} : ∀ {r : Int32}, (P → r = 1) → (¬ P → r = 0) → narrow .boolean (.int r) = .int r := by
  intro r h1 h0
  by_cases h : P
  · rw [h1 h]; rfl
  · rw [h0 h]; rfl
theorem cx_down {σ : Type} (W : Nat → Int32 → σ → Prop) (I : Nat → σ → Prop) (hx : ∀ n s, I 0 s → W (n + 1) (-1) s)
    (hs : ∀ n i s, I (i + 1) s → (∀ s', I i s' → W n (nI i + (-1)) s') → W (n + 1) (nI i) s) (e : Nat) (s : σ) (h : I (e + 1) s) : ∃ n, W n (nI e) s := by
  have g : ∀ m s, I m s → W (m + 1) (nI m + (-1)) s := by
    intro m
    induction m with
    | zero =>
      intro s h
      have e0 : nI 0 + (-1) = (-1 : Int32) := by decide
      rw [e0]
      exact hx 0 s h
    | succ m ih =>
      intro s h
      rw [pk_m1]
      exact hs (m + 1) m s h ih
  have z := g (e + 1) s h
  rw [pk_m1] at z
  exact ⟨_, z⟩
/-! 0 or 1 -/
noncomputable def cx_i (P : Prop) : Int32 := @ite Int32 P (Classical.propDecidable P) 1 0
theorem cx_i_t {P : Prop} (h : P) : cx_i P = 1 := if_pos h
theorem cx_i_f {P : Prop} (h : ¬ P) : cx_i P = 0 := if_neg h
theorem cx_i_0 {P : Prop} : cx_i P = 0 ↔ ¬ P := by
  constructor
  · intro h p
    rw [cx_i_t p] at h
    exact absurd h (by decide)
  · exact cx_i_f
theorem cx_i_c {P Q : Prop} (h : P ↔ Q) : cx_i P = cx_i Q := by rw [propext h]
/-! the search for the best cut, going up the codes -/
def cx_PI (Q : (Nat → Nat) → Prop) (cut : Nat) (best bl : Int32) : Prop :=
  ∃ B : Nat, bl = nI B ∧ B ≤ 25 ∧ ((best = -1 ∧ B = 25 ∧ ∀ c, c < cut → ¬ Q (cx_d8 c)) ∨ ∃ b : Nat, best = nI b ∧ B = cx_lv (cx_d8 b) ∧ cx_Bst Q cx_d8 cut b)
theorem cx_PI_0 (Q : (Nat → Nat) → Prop) : cx_PI Q 0 (-1) 25 :=
  ⟨25, rfl, Nat.le_refl _, Or.inl ⟨rfl, rfl, fun _ h => absurd h (Nat.not_lt_zero _)⟩⟩
theorem cx_PI_new {Q : (Nat → Nat) → Prop} {cut : Nat} {best bl : Int32} (h : cx_PI Q cut best bl) (hq : Q (cx_d8 cut)) (h24 : cx_lv (cx_d8 cut) ≤ 28) (hl : nI (cx_lv (cx_d8 cut)) < bl) :
    cx_PI Q (cut + 1) (nI cut) (nI (cx_lv (cx_d8 cut))) := by
  obtain ⟨B, rfl, hB, h⟩ := h
  rw [nI_ltI (by omega) (by omega)] at hl
  refine ⟨_, rfl, by omega, Or.inr ⟨cut, rfl, rfl, by omega, hq, fun c hc qc => ?_⟩⟩
  by_cases e : c = cut
  · subst e
    exact Or.inr ⟨rfl, Nat.le_refl _⟩
  · rcases h with ⟨_, _, h⟩ | ⟨b, _, hb, h⟩
    · exact absurd qc (h c (by omega))
    · have := h.2.2 c (by omega) qc
      omega
theorem cx_PI_keep {Q : (Nat → Nat) → Prop} {cut : Nat} {best bl : Int32} (h : cx_PI Q cut best bl) (h24 : Q (cx_d8 cut) → cx_lv (cx_d8 cut) ≤ 24) (hl : Q (cx_d8 cut) → ¬ nI (cx_lv (cx_d8 cut)) < bl) :
    cx_PI Q (cut + 1) best bl := by
  obtain ⟨B, rfl, hB, h⟩ := h
  have g : Q (cx_d8 cut) → B ≤ cx_lv (cx_d8 cut) := by
    intro q
    have a := h24 q
    have b := hl q
    rw [nI_ltI (by omega) (by omega)] at b
    omega
  refine ⟨B, rfl, hB, ?_⟩
  rcases h with ⟨h1, h2, h⟩ | ⟨b, h1, hb, h⟩
  · refine Or.inl ⟨h1, h2, fun c hc qc => ?_⟩
    by_cases e : c = cut
    · subst e
      have a := g qc
      have b := h24 qc
      omega
    · exact h c (by omega) qc
  · refine Or.inr ⟨b, h1, hb, by have := h.1; omega, h.2.1, fun c hc qc => ?_⟩
    by_cases e : c = cut
    · subst e
      have a := g qc
      have b := h.1
      omega
    · exact h.2.2 c (by omega) qc
theorem cx_lv_28 (c : Nat) : cx_lv (cx_d8 c) ≤ 28 := by
  have h0 := cx_8_lt c 0
  have h1 := cx_8_lt c 1
  have h2 := cx_8_lt c 2
  have h3 := cx_8_lt c 3
  unfold cx_lv
  omega
theorem cx_lv_24 {d K : Nat → Nat} (h : ∀ p, p < 4 → d p ≤ K p) (hK : ∀ p, p < 4 → K p ≤ 6) : cx_lv d ≤ 24 :=
  Nat.le_trans (cx_lv_le h) (cx_lv_6 hK)
