section
/-! digits of a cut's code: base 8 on the component's side, base 7 on the reference's -/
def cx_d8 (c p : Nat) : Nat := if p = 0 then c / 512 % 8 else if p = 1 then c / 64 % 8 else if p = 2 then c / 8 % 8 else if p = 3 then c % 8 else 0
def cx_d7 (c p : Nat) : Nat := if p = 0 then c / 343 % 7 else if p = 1 then c / 49 % 7 else if p = 2 then c / 7 % 7 else if p = 3 then c % 7 else 0
def cx_w8 (p : Nat) : Nat := if p = 0 then 512 else if p = 1 then 64 else if p = 2 then 8 else 1
def cx_w7 (p : Nat) : Nat := if p = 0 then 343 else if p = 1 then 49 else if p = 2 then 7 else 1
def cx_up (d : Nat → Nat) (p : Nat) : Nat → Nat := fun q => if q = p then d q + 1 else d q
def cx_lv (d : Nat → Nat) : Nat := d 0 + d 1 + d 2 + d 3
def cx_c8 (d : Nat → Nat) : Nat := 512 * d 0 + 64 * d 1 + 8 * d 2 + d 3
def cx_c7 (d : Nat → Nat) : Nat := 343 * d 0 + 49 * d 1 + 7 * d 2 + d 3
theorem cx_up_s (d : Nat → Nat) (p : Nat) : cx_up d p p = d p + 1 := if_pos rfl
theorem cx_up_n {d : Nat → Nat} {p q : Nat} (h : q ≠ p) : cx_up d p q = d q := if_neg h
theorem cx_p4 {p : Nat} (hp : p < 4) : p = 0 ∨ p = 1 ∨ p = 2 ∨ p = 3 := by omega
theorem cx_8_lt (c p : Nat) : cx_d8 c p < 8 := by
  unfold cx_d8
  repeat' split
  all_goals omega
theorem cx_7_lt (c p : Nat) : cx_d7 c p < 7 := by
  unfold cx_d7
  repeat' split
  all_goals omega
theorem cx_8_4 {c p : Nat} (h : 4 ≤ p) : cx_d8 c p = 0 := by
  unfold cx_d8
  repeat' split
  all_goals omega
theorem cx_7_4 {c p : Nat} (h : 4 ≤ p) : cx_d7 c p = 0 := by
  unfold cx_d7
  repeat' split
  all_goals omega
theorem cx_8_z : cx_d8 0 = fun _ => 0 := by
  funext p
  unfold cx_d8
  repeat' split
  all_goals rfl
theorem cx_7_z : cx_d7 0 = fun _ => 0 := by
  funext p
  unfold cx_d7
  repeat' split
  all_goals rfl
theorem cx_8_step {c p : Nat} (hc : c < 4096) (hp : p < 4) (h : cx_d8 c p < 7) : cx_d8 (c + cx_w8 p) = cx_up (cx_d8 c) p ∧ c + cx_w8 p < 4096 := by
  rcases cx_p4 hp with rfl | rfl | rfl | rfl
  · have h0 : c / 512 % 8 < 7 := h
    refine ⟨funext fun q => ?_, ?_⟩
    · show cx_d8 (c + 512) q = if q = 0 then cx_d8 c q + 1 else cx_d8 c q
      unfold cx_d8
      repeat' split
      all_goals omega
    · show c + 512 < 4096
      omega
  · have h0 : c / 64 % 8 < 7 := h
    refine ⟨funext fun q => ?_, ?_⟩
    · show cx_d8 (c + 64) q = if q = 1 then cx_d8 c q + 1 else cx_d8 c q
      unfold cx_d8
      repeat' split
      all_goals omega
    · show c + 64 < 4096
      omega
  · have h0 : c / 8 % 8 < 7 := h
    refine ⟨funext fun q => ?_, ?_⟩
    · show cx_d8 (c + 8) q = if q = 2 then cx_d8 c q + 1 else cx_d8 c q
      unfold cx_d8
      repeat' split
      all_goals omega
    · show c + 8 < 4096
      omega
  · have h0 : c % 8 < 7 := h
    refine ⟨funext fun q => ?_, ?_⟩
    · show cx_d8 (c + 1) q = if q = 3 then cx_d8 c q + 1 else cx_d8 c q
      unfold cx_d8
      repeat' split
      all_goals omega
    · show c + 1 < 4096
      omega
theorem cx_7_step {c p : Nat} (hc : c < 2401) (hp : p < 4) (h : cx_d7 c p < 6) : cx_d7 (c + cx_w7 p) = cx_up (cx_d7 c) p ∧ c + cx_w7 p < 2401 := by
  rcases cx_p4 hp with rfl | rfl | rfl | rfl
  · have h0 : c / 343 % 7 < 6 := h
    refine ⟨funext fun q => ?_, ?_⟩
    · show cx_d7 (c + 343) q = if q = 0 then cx_d7 c q + 1 else cx_d7 c q
      unfold cx_d7
      repeat' split
      all_goals omega
    · show c + 343 < 2401
      omega
  · have h0 : c / 49 % 7 < 6 := h
    refine ⟨funext fun q => ?_, ?_⟩
    · show cx_d7 (c + 49) q = if q = 1 then cx_d7 c q + 1 else cx_d7 c q
      unfold cx_d7
      repeat' split
      all_goals omega
    · show c + 49 < 2401
      omega
  · have h0 : c / 7 % 7 < 6 := h
    refine ⟨funext fun q => ?_, ?_⟩
    · show cx_d7 (c + 7) q = if q = 2 then cx_d7 c q + 1 else cx_d7 c q
      unfold cx_d7
      repeat' split
      all_goals omega
    · show c + 7 < 2401
      omega
  · have h0 : c % 7 < 6 := h
    refine ⟨funext fun q => ?_, ?_⟩
    · show cx_d7 (c + 1) q = if q = 3 then cx_d7 c q + 1 else cx_d7 c q
      unfold cx_d7
      repeat' split
      all_goals omega
    · show c + 1 < 2401
      omega
theorem cx_8_of {d : Nat → Nat} (h : ∀ p, p < 4 → d p < 8) (h4 : ∀ p, 4 ≤ p → d p = 0) : cx_d8 (cx_c8 d) = d := by
  have h0 := h 0 (by omega)
  have h1 := h 1 (by omega)
  have h2 := h 2 (by omega)
  have h3 := h 3 (by omega)
  funext q
  by_cases hq : q < 4
  · rcases cx_p4 hq with rfl | rfl | rfl | rfl
    · show (512 * d 0 + 64 * d 1 + 8 * d 2 + d 3) / 512 % 8 = d 0
      omega
    · show (512 * d 0 + 64 * d 1 + 8 * d 2 + d 3) / 64 % 8 = d 1
      omega
    · show (512 * d 0 + 64 * d 1 + 8 * d 2 + d 3) / 8 % 8 = d 2
      omega
    · show (512 * d 0 + 64 * d 1 + 8 * d 2 + d 3) % 8 = d 3
      omega
  · rw [cx_8_4 (by omega), h4 q (by omega)]
theorem cx_7_of {d : Nat → Nat} (h : ∀ p, p < 4 → d p < 7) (h4 : ∀ p, 4 ≤ p → d p = 0) : cx_d7 (cx_c7 d) = d := by
  have h0 := h 0 (by omega)
  have h1 := h 1 (by omega)
  have h2 := h 2 (by omega)
  have h3 := h 3 (by omega)
  funext q
  by_cases hq : q < 4
  · rcases cx_p4 hq with rfl | rfl | rfl | rfl
    · show (343 * d 0 + 49 * d 1 + 7 * d 2 + d 3) / 343 % 7 = d 0
      omega
    · show (343 * d 0 + 49 * d 1 + 7 * d 2 + d 3) / 49 % 7 = d 1
      omega
    · show (343 * d 0 + 49 * d 1 + 7 * d 2 + d 3) / 7 % 7 = d 2
      omega
    · show (343 * d 0 + 49 * d 1 + 7 * d 2 + d 3) % 7 = d 3
      omega
  · rw [cx_7_4 (by omega), h4 q (by omega)]
theorem cx_8_c {c : Nat} (hc : c < 4096) : cx_c8 (cx_d8 c) = c := by
  show 512 * (c / 512 % 8) + 64 * (c / 64 % 8) + 8 * (c / 8 % 8) + c % 8 = c
  omega
theorem cx_7_c {c : Nat} (hc : c < 2401) : cx_c7 (cx_d7 c) = c := by
  show 343 * (c / 343 % 7) + 49 * (c / 49 % 7) + 7 * (c / 7 % 7) + c % 7 = c
  omega
theorem cx_c8_lt {d : Nat → Nat} (h : ∀ p, p < 4 → d p < 8) : cx_c8 d < 4096 := by
  have h0 := h 0 (by omega)
  have h1 := h 1 (by omega)
  have h2 := h 2 (by omega)
  have h3 := h 3 (by omega)
  unfold cx_c8
  omega
theorem cx_c7_lt {d : Nat → Nat} (h : ∀ p, p < 4 → d p < 7) : cx_c7 d < 2401 := by
  have h0 := h 0 (by omega)
  have h1 := h 1 (by omega)
  have h2 := h 2 (by omega)
  have h3 := h 3 (by omega)
  unfold cx_c7
  omega
/-! the way from base 7 to base 8, and back -/
def cx_f (c : Nat) : Nat := cx_c8 (cx_d7 c)
theorem cx_8_f (c : Nat) : cx_d8 (cx_f c) = cx_d7 c :=
  cx_8_of (fun p _ => Nat.lt_succ_of_lt (cx_7_lt c p)) (fun _ h => cx_7_4 h)
theorem cx_f_lt (c : Nat) : cx_f c < 4096 := cx_c8_lt (fun p _ => Nat.lt_succ_of_lt (cx_7_lt c p))
theorem cx_f_s {c : Nat} (h : c < 2400) : cx_f c < cx_f (c + 1) :=
  co_dec (N := 2400) (P := fun c => cx_f c < cx_f (c + 1)) (by decide +kernel) h
theorem cx_f_m {a : Nat} : ∀ b, a < b → b < 2401 → cx_f a < cx_f b := by
  intro b
  induction b with
  | zero => intro h; omega
  | succ b ih =>
    intro h hb
    have s := cx_f_s (c := b) (by omega)
    by_cases e : a = b
    · rw [e]; exact s
    · exact Nat.lt_trans (ih (by omega) (by omega)) s
theorem cx_g7 {c : Nat} (h : ∀ p, p < 4 → cx_d8 c p < 7) : cx_d7 (cx_c7 (cx_d8 c)) = cx_d8 c := cx_7_of h (fun _ h => cx_8_4 h)
theorem cx_fg {c : Nat} (hc : c < 4096) (h : ∀ p, p < 4 → cx_d8 c p < 7) : cx_f (cx_c7 (cx_d8 c)) = c := by
  unfold cx_f
  rw [cx_g7 h, cx_8_c hc]
def cx_s (c : Nat) : Bool := decide (cx_d8 c 0 < 7) && (decide (cx_d8 c 1 < 7) && (decide (cx_d8 c 2 < 7) && decide (cx_d8 c 3 < 7)))
theorem cx_s_t {c : Nat} (h : ∀ p, p < 4 → cx_d8 c p < 7) : cx_s c = true := by
  unfold cx_s
  rw [decide_eq_true (h 0 (by omega)), decide_eq_true (h 1 (by omega)), decide_eq_true (h 2 (by omega)), decide_eq_true (h 3 (by omega))]
  rfl
theorem cx_list : (List.range 4096).filter cx_s = (List.range 2401).map cx_f := eq_of_beq (by decide +kernel)
/-! how many codes below n have a property -/
noncomputable def cx_b (P : Prop) : Bool := @decide P (Classical.propDecidable P)
theorem cx_b_t {P : Prop} : cx_b P = true ↔ P := @decide_eq_true_iff P (Classical.propDecidable P)
noncomputable def cx_n (Q : Nat → Prop) (n : Nat) : Nat := (List.range n).countP (fun c => cx_b (Q c))
theorem cx_n_0 (Q : Nat → Prop) : cx_n Q 0 = 0 := rfl
theorem cx_n_t {Q : Nat → Prop} {n : Nat} (h : Q n) : cx_n Q (n + 1) = cx_n Q n + 1 := by
  unfold cx_n
  rw [List.range_succ, List.countP_append, List.countP_cons, List.countP_nil, if_pos (cx_b_t.mpr h)]
theorem cx_n_f {Q : Nat → Prop} {n : Nat} (h : ¬ Q n) : cx_n Q (n + 1) = cx_n Q n := by
  unfold cx_n
  rw [List.range_succ, List.countP_append, List.countP_cons, List.countP_nil, if_neg (fun z => h (cx_b_t.mp z))]
  rfl
theorem cx_n_le (Q : Nat → Prop) (n : Nat) : cx_n Q n ≤ n := by
  have h := List.countP_le_length (p := fun c => cx_b (Q c)) (l := List.range n)
  rw [List.length_range] at h
  exact h
theorem cx_n_87 (Q : (Nat → Nat) → Prop) (h : ∀ d, Q d → ∀ p, p < 4 → d p < 7) : cx_n (fun c => Q (cx_d8 c)) 4096 = cx_n (fun c => Q (cx_d7 c)) 2401 := by
  unfold cx_n
  have e1 : (List.range 4096).countP (fun c => cx_b (Q (cx_d8 c))) = ((List.range 4096).filter cx_s).countP (fun c => cx_b (Q (cx_d8 c))) := by
    rw [List.countP_filter]
    apply List.countP_congr
    intro c _
    constructor
    · intro hb
      have hq := cx_b_t.mp hb
      have hs := cx_s_t (h _ hq)
      rw [hb, hs]
      rfl
    · intro hb
      exact (Bool.and_eq_true_iff.mp hb).1
  rw [e1, cx_list, List.countP_map]
  apply List.countP_congr
  intro c _
  show cx_b (Q (cx_d8 (cx_f c))) = true ↔ cx_b (Q (cx_d7 c)) = true
  rw [cx_8_f]
/-! the best cut: least level, then least code -/
def cx_Bst (Q : (Nat → Nat) → Prop) (D : Nat → Nat → Nat) (n b : Nat) : Prop :=
  b < n ∧ Q (D b) ∧ ∀ c, c < n → Q (D c) → cx_lv (D b) < cx_lv (D c) ∨ (cx_lv (D b) = cx_lv (D c) ∧ b ≤ c)
theorem cx_bst_eq {Q : (Nat → Nat) → Prop} (h : ∀ d, Q d → ∀ p, p < 4 → d p < 7) {b b' : Nat} (hb : cx_Bst Q cx_d8 4096 b) (hb' : cx_Bst Q cx_d7 2401 b') : cx_d8 b = cx_d7 b' := by
  obtain ⟨b1, b2, b3⟩ := hb
  obtain ⟨c1, c2, c3⟩ := hb'
  have s := h _ b2
  have g1 := cx_g7 s
  have g2 := cx_fg b1 s
  have gl := cx_c7_lt s
  generalize cx_c7 (cx_d8 b) = b'' at g1 g2 gl
  have f1 := cx_8_f b'
  have x := b3 (cx_f b') (cx_f_lt b') (by rw [f1]; exact c2)
  have y := c3 b'' gl (by rw [g1]; exact b2)
  rw [f1] at x
  rw [g1] at y
  by_cases e : b' = b''
  · rw [e, g1]
  · by_cases l : b' < b''
    · have m := cx_f_m b'' l gl
      omega
    · omega
theorem cx_no_87 {Q : (Nat → Nat) → Prop} (h : ∀ d, Q d → ∀ p, p < 4 → d p < 7) : (∀ c, c < 4096 → ¬ Q (cx_d8 c)) ↔ (∀ c, c < 2401 → ¬ Q (cx_d7 c)) := by
  constructor
  · intro z c _ hq
    exact z (cx_f c) (cx_f_lt c) (by rw [cx_8_f]; exact hq)
  · intro z c _ hq
    have s := h _ hq
    exact z _ (cx_c7_lt s) (by rw [cx_g7 s]; exact hq)
end
section
/-! cuts from which the final cut can be reached through good cuts alone -/
def cx_A (G : (Nat → Nat) → Prop) (K : Nat → Nat) (P : Nat) : Nat → (Nat → Nat) → Prop
  | 0 => fun _ => False
  | n + 1 => fun d => G d ∧ ((∀ p, p < 4 → d p = K p) ∨ ∃ p, p < P ∧ d p < K p ∧ cx_A G K P n (cx_up d p))
theorem cx_A_s (G : (Nat → Nat) → Prop) (K : Nat → Nat) (P n : Nat) (d : Nat → Nat) : cx_A G K P (n + 1) d ↔ (G d ∧ ((∀ p, p < 4 → d p = K p) ∨ ∃ p, p < P ∧ d p < K p ∧ cx_A G K P n (cx_up d p))) := Iff.rfl
def cx_R (G : (Nat → Nat) → Prop) (K : Nat → Nat) (P : Nat) (d : Nat → Nat) : Prop := cx_A G K P 26 d
theorem cx_lv_up {d : Nat → Nat} {p : Nat} (hp : p < 4) : cx_lv (cx_up d p) = cx_lv d + 1 := by
  unfold cx_lv cx_up
  rcases cx_p4 hp with rfl | rfl | rfl | rfl
  · show d 0 + 1 + d 1 + d 2 + d 3 = d 0 + d 1 + d 2 + d 3 + 1
    omega
  · show d 0 + (d 1 + 1) + d 2 + d 3 = d 0 + d 1 + d 2 + d 3 + 1
    omega
  · show d 0 + d 1 + (d 2 + 1) + d 3 = d 0 + d 1 + d 2 + d 3 + 1
    omega
  · show d 0 + d 1 + d 2 + (d 3 + 1) = d 0 + d 1 + d 2 + d 3 + 1
    omega
theorem cx_lv_le {d K : Nat → Nat} (h : ∀ p, p < 4 → d p ≤ K p) : cx_lv d ≤ cx_lv K := by
  have h0 := h 0 (by omega)
  have h1 := h 1 (by omega)
  have h2 := h 2 (by omega)
  have h3 := h 3 (by omega)
  unfold cx_lv
  omega
theorem cx_lv_eq {d K : Nat → Nat} (h : ∀ p, p < 4 → d p = K p) : cx_lv d = cx_lv K := by
  have h0 := h 0 (by omega)
  have h1 := h 1 (by omega)
  have h2 := h 2 (by omega)
  have h3 := h 3 (by omega)
  unfold cx_lv
  omega
theorem cx_lv_all {d K : Nat → Nat} (h : ∀ p, p < 4 → d p ≤ K p) (e : cx_lv d = cx_lv K) {p : Nat} (hp : p < 4) : d p = K p := by
  have h0 := h 0 (by omega)
  have h1 := h 1 (by omega)
  have h2 := h 2 (by omega)
  have h3 := h 3 (by omega)
  unfold cx_lv at e
  rcases cx_p4 hp with rfl | rfl | rfl | rfl <;> omega
theorem cx_lv_6 {K : Nat → Nat} (h : ∀ p, p < 4 → K p ≤ 6) : cx_lv K ≤ 24 := by
  have h0 := h 0 (by omega)
  have h1 := h 1 (by omega)
  have h2 := h 2 (by omega)
  have h3 := h 3 (by omega)
  unfold cx_lv
  omega
theorem cx_A_st {G : (Nat → Nat) → Prop} {K : Nat → Nat} {P : Nat} (hG : ∀ d, G d → ∀ p, p < 4 → d p ≤ K p) (hP : P ≤ 4) : ∀ n d, cx_lv K < cx_lv d + n → (cx_A G K P n d ↔ cx_A G K P (n + 1) d) := by
  intro n
  induction n with
  | zero =>
    intro d h
    constructor
    · exact fun z => z.elim
    · intro z
      have g := cx_lv_le (hG d ((cx_A_s G K P 0 d).mp z).1)
      omega
  | succ n ih =>
    intro d h
    have e : ∀ p, p < P → (cx_A G K P n (cx_up d p) ↔ cx_A G K P (n + 1) (cx_up d p)) := fun p hp => ih (cx_up d p) (by rw [cx_lv_up (by omega)]; omega)
    rw [cx_A_s G K P n d, cx_A_s G K P (n + 1) d]
    constructor
    · intro z
      obtain ⟨g, r⟩ := z
      refine ⟨g, ?_⟩
      rcases r with f | ⟨p, hp, hk, ha⟩
      · exact Or.inl f
      · exact Or.inr ⟨p, hp, hk, (e p hp).mp ha⟩
    · intro z
      obtain ⟨g, r⟩ := z
      refine ⟨g, ?_⟩
      rcases r with f | ⟨p, hp, hk, ha⟩
      · exact Or.inl f
      · exact Or.inr ⟨p, hp, hk, (e p hp).mpr ha⟩
theorem cx_R_iff {G : (Nat → Nat) → Prop} {K : Nat → Nat} {P : Nat} (hG : ∀ d, G d → ∀ p, p < 4 → d p ≤ K p) (hP : P ≤ 4) (hK : ∀ p, p < 4 → K p ≤ 6) (d : Nat → Nat) :
    cx_R G K P d ↔ (G d ∧ ((∀ p, p < 4 → d p = K p) ∨ ∃ p, p < P ∧ d p < K p ∧ cx_R G K P (cx_up d p))) :=
  (cx_A_st hG hP 26 d (by have := cx_lv_6 hK; omega)).trans (cx_A_s G K P 26 d)
/-! the least avoiding path -/
noncomputable def cx_ls (S : Nat → Prop) : Nat := @dite Nat (∃ k, S k ∧ ∀ j, j < k → ¬ S j) (Classical.propDecidable _) (fun h => h.choose) (fun _ => 0)
theorem cx_ls_s {S : Nat → Prop} (h : ∃ k, S k) : S (cx_ls S) ∧ ∀ j, j < cx_ls S → ¬ S j := by
  have h' := pk_least S h
  unfold cx_ls
  rw [dif_pos h']
  exact h'.choose_spec
theorem cx_ls_u {S : Nat → Prop} {k : Nat} (h : S k) (hk : ∀ j, j < k → ¬ S j) : cx_ls S = k := by
  have z := cx_ls_s ⟨k, h⟩
  have a : ¬ cx_ls S < k := fun l => hk _ l z.1
  have b : ¬ k < cx_ls S := fun l => z.2 _ l h
  omega
def cx_S (G : (Nat → Nat) → Prop) (K : Nat → Nat) (P : Nat) (d : Nat → Nat) (p : Nat) : Prop := p < P ∧ d p < K p ∧ cx_R G K P (cx_up d p)
noncomputable def cx_D (G : (Nat → Nat) → Prop) (K : Nat → Nat) (P : Nat) : Nat → Nat → Nat
  | 0 => fun _ => 0
  | n + 1 => cx_up (cx_D G K P n) (cx_ls (cx_S G K P (cx_D G K P n)))
theorem cx_D_s (G : (Nat → Nat) → Prop) (K : Nat → Nat) (P n : Nat) : cx_D G K P (n + 1) = cx_up (cx_D G K P n) (cx_ls (cx_S G K P (cx_D G K P n))) := rfl
theorem cx_D_ex {G : (Nat → Nat) → Prop} {K : Nat → Nat} {P : Nat} (hG : ∀ d, G d → ∀ p, p < 4 → d p ≤ K p) (hP : P ≤ 4) (hK : ∀ p, p < 4 → K p ≤ 6) {d : Nat → Nat} (h : cx_R G K P d) (hl : cx_lv d < cx_lv K) : ∃ p, cx_S G K P d p := by
  rcases ((cx_R_iff hG hP hK d).mp h).2 with f | ⟨p, hp, hk, ha⟩
  · have := cx_lv_eq f
    omega
  · exact ⟨p, hp, hk, ha⟩
theorem cx_D_ok {G : (Nat → Nat) → Prop} {K : Nat → Nat} {P : Nat} (hG : ∀ d, G d → ∀ p, p < 4 → d p ≤ K p) (hP : P ≤ 4) (hK : ∀ p, p < 4 → K p ≤ 6) (h0 : cx_R G K P (fun _ => 0)) : ∀ i, i ≤ cx_lv K → cx_R G K P (cx_D G K P i) ∧ cx_lv (cx_D G K P i) = i := by
  intro i
  induction i with
  | zero => exact fun _ => ⟨h0, rfl⟩
  | succ i ih =>
    intro hi
    obtain ⟨r, l⟩ := ih (by omega)
    have s := (cx_ls_s (cx_D_ex hG hP hK r (by omega))).1
    rw [cx_D_s]
    refine ⟨s.2.2, ?_⟩
    rw [cx_lv_up (Nat.lt_of_lt_of_le s.1 hP), l]
theorem cx_D_st {G : (Nat → Nat) → Prop} {K : Nat → Nat} {P : Nat} (hG : ∀ d, G d → ∀ p, p < 4 → d p ≤ K p) (hP : P ≤ 4) (hK : ∀ p, p < 4 → K p ≤ 6) (h0 : cx_R G K P (fun _ => 0)) {i : Nat} (hi : i < cx_lv K) :
    cx_S G K P (cx_D G K P i) (cx_ls (cx_S G K P (cx_D G K P i))) ∧ ∀ j, j < cx_ls (cx_S G K P (cx_D G K P i)) → ¬ cx_S G K P (cx_D G K P i) j := by
  obtain ⟨r, l⟩ := cx_D_ok hG hP hK h0 i (by omega)
  exact cx_ls_s (cx_D_ex hG hP hK r (by omega))
theorem cx_D_end {G : (Nat → Nat) → Prop} {K : Nat → Nat} {P : Nat} (hG : ∀ d, G d → ∀ p, p < 4 → d p ≤ K p) (hP : P ≤ 4) (hK : ∀ p, p < 4 → K p ≤ 6) (h0 : cx_R G K P (fun _ => 0)) (p : Nat) : ¬ cx_S G K P (cx_D G K P (cx_lv K)) p := by
  intro s
  obtain ⟨r, l⟩ := cx_D_ok hG hP hK h0 (cx_lv K) (Nat.le_refl _)
  have e := cx_lv_all (hG _ ((cx_R_iff hG hP hK _).mp r).1) l (p := p) (Nat.lt_of_lt_of_le s.1 hP)
  have := s.2.1
  omega
end
section
/-! the printed arithmetic of codes, slots and weights -/
theorem cx_ix {c p : Nat} (hc : c < 4096) (hp : p < 4) : (nI c >>> ((9 - nI p * 3) &&& 31)) &&& 7 = nI (cx_d8 c p) := by
  rcases cx_p4 hp with rfl | rfl | rfl | rfl
  · rw [pk_shrN (by omega) _ 9 (by decide), pk_andN (by omega) 3 (by decide)]
    rfl
  · rw [pk_shrN (by omega) _ 6 (by decide), pk_andN (by omega) 3 (by decide)]
    rfl
  · rw [pk_shrN (by omega) _ 3 (by decide), pk_andN (by omega) 3 (by decide)]
    rfl
  · rw [pk_shrN (by omega) _ 0 (by decide), pk_andN (by omega) 3 (by decide)]
    show nI (c / 1 % 8) = nI (c % 8)
    rw [Nat.div_one]
theorem cx_sh {p : Nat} (hp : p < 4) : (1 : Int32) <<< ((9 - nI p * 3) &&& 31) = nI (cx_w8 p) := by
  rcases cx_p4 hp with rfl | rfl | rfl | rfl <;> decide
theorem cx_sf {c p : Nat} (hp : p < 4) : nI c + ((1 : Int32) <<< ((9 - nI p * 3) &&& 31)) = nI (c + cx_w8 p) := by
  rw [cx_sh hp, nI_add]
theorem cx_sl (p k : Nat) : nI p * 7 + nI k = nI (p * 7 + k) := by
  have h : nI p * 7 = nI (p * 7) := pk_mul p 7
  rw [h, nI_add]
theorem cx_st (s q : Nat) : nI s * 4 + nI q = nI (s * 4 + q) := by
  have h : nI s * 4 = nI (s * 4) := pk_mul s 4
  rw [h, nI_add]
theorem cx_y6 (p k : Nat) : nI p * 6 + nI (k + 1) - 1 = nI (p * 6 + k) := by
  have h : nI p * 6 = nI (p * 6) := pk_mul p 6
  rw [h, nI_add]
  exact nI_pred (p * 6 + k)
theorem cx_yi (p k q : Nat) : (nI p * 6 + nI (k + 1) - 1) * 4 + nI q = nI ((p * 6 + k) * 4 + q) := by
  rw [cx_y6, cx_st]
theorem cx_dg {c p : Nat} (hc : c < 2401) (hp : p < 4) : nI c / nI (cx_w7 p) - nI c / nI (cx_w7 p) / 7 * 7 = nI (cx_d7 c p) := by
  rcases cx_p4 hp with rfl | rfl | rfl | rfl
  · have e : nI c / nI (cx_w7 0) = nI (c / 343) := pk_div (d := 343) (by omega) (by omega) (by omega)
    rw [e]
    exact pk_rem (d := 7) (by omega) (by omega) (by omega)
  · have e : nI c / nI (cx_w7 1) = nI (c / 49) := pk_div (d := 49) (by omega) (by omega) (by omega)
    rw [e]
    exact pk_rem (d := 7) (by omega) (by omega) (by omega)
  · have e : nI c / nI (cx_w7 2) = nI (c / 7) := pk_div (d := 7) (by omega) (by omega) (by omega)
    rw [e]
    exact pk_rem (d := 7) (by omega) (by omega) (by omega)
  · have e : nI c / nI (cx_w7 3) = nI (c / 1) := pk_div (d := 1) (by omega) (by omega) (by omega)
    rw [e, Nat.div_one]
    exact pk_rem (d := 7) (by omega) (by omega) (by omega)
theorem cx_w7_pos (p : Nat) : 0 < cx_w7 p ∧ cx_w7 p < 2 ^ 31 := by
  unfold cx_w7
  repeat' split
  all_goals omega
/-! stores -/
theorem cx_upd_id {f : Nat → Int32} {k : Nat} {x : Int32} (h : f k = x) : upd f k x = f := by
  funext j
  by_cases e : j = k
  · rw [e, pk_us, h]
  · rw [pk_un e]
theorem cx_slot_inj {p k p' k' : Nat} (hk : k < 7) (hk' : k' < 7) (h : p * 7 + k = p' * 7 + k') : p = p' ∧ k = k' := by omega
theorem cx_slot6_inj {p k p' k' : Nat} (hk : k < 6) (hk' : k' < 6) (h : p * 6 + k = p' * 6 + k') : p = p' ∧ k = k' := by omega
theorem cx_cell_inj {s q s' q' : Nat} (hq : q < 4) (hq' : q' < 4) (h : s * 4 + q = s' * 4 + q') : s = s' ∧ q = q' := by omega
/-! the pure picture of a cut's state -/
def cx_Va (K d : Nat → Nat) : Prop := ∀ p, p < 4 → d p ≤ K p
def cx_Co (P : Nat) (st : Nat → Int32) (d : Nat → Nat) : Prop := ∀ p, p < P → ∀ q, q < P → st ((p * 7 + d p) * 4 + q) ≤ nI (d q)
def cx_Wb (P : Nat) (va lo hi : Nat → Int32) (d : Nat → Nat) : Prop := ∀ p, p < P → ¬ va (p * 7 + d p) < lo p ∧ va (p * 7 + d p) ≤ hi p
def cx_Sm (va : Nat → Int32) (d : Nat → Nat) : Nat → Int64
  | 0 => 0
  | n + 1 => cx_Sm va d n + (va (n * 7 + d n)).toInt64
def cx_Sa (P : Nat) (md th : Int32) (va lo hi : Nat → Int32) (d : Nat → Nat) : Prop :=
  (md = 0 → cx_Wb P va lo hi d) ∧ (¬ md = 0 → (md = 1 → ¬ cx_Sm va d P < th.toInt64) ∧ (¬ md = 1 → ¬ th.toInt64 < cx_Sm va d P))
def cx_V (P : Nat) (K : Nat → Nat) (st : Nat → Int32) (d : Nat → Nat) : Prop := cx_Va K d ∧ cx_Co P st d
def cx_Q (P : Nat) (K : Nat → Nat) (st : Nat → Int32) (md th : Int32) (va lo hi : Nat → Int32) (d : Nat → Nat) : Prop := cx_V P K st d ∧ cx_Sa P md th va lo hi d
def cx_G (P : Nat) (K : Nat → Nat) (st : Nat → Int32) (md th : Int32) (va lo hi : Nat → Int32) (d : Nat → Nat) : Prop := cx_V P K st d ∧ ¬ cx_Sa P md th va lo hi d
theorem cx_V_7 {P : Nat} {K : Nat → Nat} {st : Nat → Int32} (hK : ∀ p, p < 4 → K p ≤ 6) : ∀ d, cx_V P K st d → ∀ p, p < 4 → d p < 7 :=
  fun _ h p hp => by have a := h.1 p hp; have b := hK p hp; omega
theorem cx_Q_7 {P : Nat} {K : Nat → Nat} {st : Nat → Int32} {md th : Int32} {va lo hi : Nat → Int32} (hK : ∀ p, p < 4 → K p ≤ 6) : ∀ d, cx_Q P K st md th va lo hi d → ∀ p, p < 4 → d p < 7 :=
  fun d h => cx_V_7 hK d h.1
theorem cx_G_K {P : Nat} {K : Nat → Nat} {st : Nat → Int32} {md th : Int32} {va lo hi : Nat → Int32} : ∀ d, cx_G P K st md th va lo hi d → ∀ p, p < 4 → d p ≤ K p :=
  fun _ h => h.1.1
end
section
/-! loops by shape: all of, the first of, a fold; W n i is the printed loop at fuel n and counter i -/
theorem cx_all {T F : Prop} (W : Nat → Nat → Prop) (e : Nat) (B : Nat → Prop) (hT : (∀ p, p < e → B p) → T) (hF : ¬ (∀ p, p < e → B p) → F)
    (hx : ∀ n, T → W (n + 1) e) (hs : ∀ n i, i < e → (B i → W n (i + 1)) → (¬ B i → F) → W (n + 1) i) : ∃ n, W n 0 := by
  have h : ∀ m i, i + m = e → (∀ p, p < i → B p) → W (m + 1) i := by
    intro m
    induction m with
    | zero =>
      intro i hi hb
      have : i = e := by omega
      subst this
      exact hx 0 (hT hb)
    | succ m ih =>
      intro i hi hb
      exact hs (m + 1) i (by omega) (fun b => ih (i + 1) (by omega) (lt_s hb b)) (fun nb => hF (fun a => nb (a i (by omega))))
  exact ⟨e + 1, h e 0 (by omega) lt_0⟩
theorem cx_fst {N : Prop} {F : Nat → Prop} (W : Nat → Nat → Prop) (e : Nat) (B : Nat → Prop) (hF : ∀ i, i < e → B i → (∀ j, j < i → ¬ B j) → F i) (hN : (∀ i, i < e → ¬ B i) → N)
    (hx : ∀ n, N → W (n + 1) e) (hs : ∀ n i, i < e → (¬ B i → W n (i + 1)) → (B i → F i) → W (n + 1) i) : ∃ n, W n 0 := by
  have h : ∀ m i, i + m = e → (∀ p, p < i → ¬ B p) → W (m + 1) i := by
    intro m
    induction m with
    | zero =>
      intro i hi hb
      have : i = e := by omega
      subst this
      exact hx 0 (hN hb)
    | succ m ih =>
      intro i hi hb
      exact hs (m + 1) i (by omega) (fun b => ih (i + 1) (by omega) (lt_s (p := fun j => ¬ B j) hb b)) (fun b => hF i (by omega) b hb)
  exact ⟨e + 1, h e 0 (by omega) (lt_0 (p := fun j => ¬ B j))⟩
theorem cx_fold {σ : Type} (W : Nat → Nat → σ → Prop) (e : Nat) (g : Nat → σ) (hx : ∀ n, W (n + 1) e (g e)) (hs : ∀ n i, i < e → W n (i + 1) (g (i + 1)) → W (n + 1) i (g i)) : ∃ n, W n 0 (g 0) := by
  have h : ∀ m i, i + m = e → W (m + 1) i (g i) := by
    intro m
    induction m with
    | zero =>
      intro i hi
      have : i = e := by omega
      subst this
      exact hx 0
    | succ m ih =>
      intro i hi
      exact hs (m + 1) i (by omega) (ih (i + 1) (by omega))
  exact ⟨e + 1, h e 0 (by omega)⟩
/-! a loop with an invariant, its state general -/
theorem cx_inv {σ : Type} (W : Nat → Nat → σ → Prop) (I : Nat → σ → Prop) (e : Nat) (s : σ) (h0 : I 0 s) (hx : ∀ n s, I e s → W (n + 1) e s)
    (hs : ∀ n i s, i < e → I i s → (∀ s', I (i + 1) s' → W n (i + 1) s') → W (n + 1) i s) : ∃ n, W n 0 s := pk_loop W I e 0 s (Nat.zero_le e) h0 hx hs
/-! comparisons of numbers -/
theorem cx_le {a b : Nat} {A B : Prop} (ha : a < 2 ^ 31) (hb : b < 2 ^ 31) (f : a ≤ b → A) (g : ¬ a ≤ b → B) : (nI a ≤ nI b → A) ∧ (¬ nI a ≤ nI b → B) := ek_if (nI_leI ha hb) f g
theorem cx_lt {a b : Nat} {A B : Prop} (ha : a < 2 ^ 31) (hb : b < 2 ^ 31) (f : a < b → A) (g : ¬ a < b → B) : (nI a < nI b → A) ∧ (¬ nI a < nI b → B) := ek_if (nI_ltI ha hb) f g
theorem cx_eq {a b : Nat} {A B : Prop} (ha : a < 2 ^ 31) (hb : b < 2 ^ 31) (f : a = b → A) (g : ¬ a = b → B) : (nI a = nI b → A) ∧ (¬ nI a = nI b → B) := ek_if (nI_eq ha hb) f g
theorem cx_ite_n {P : Prop} : ∀ {r : Int32}, (P → r = 1) → (¬ P → r = 0) → narrow .boolean (.int r) = .int r := by
  intro r h1 h0
  by_cases h : P
  · rw [h1 h]; rfl
  · rw [h0 h]; rfl
theorem cx_down {σ : Type} (W : Nat → Int32 → σ → Prop) (I : Nat → σ → Prop) (hx : ∀ n s, I 0 s → W (n + 1) (-1) s)
    (hs : ∀ n i s, I (i + 1) s → (∀ s', I i s' → W n (nI i + (-1)) s') → W (n + 1) (nI i) s) (e : Nat) (s : σ) (h : I (e + 1) s) : ∃ n, W n (nI e) s := by
  have g : ∀ m s, I m s → W (m + 1) (nI m + (-1)) s := by
    intro m
    induction m with
    | zero =>
      intro s h
      have e0 : nI 0 + (-1) = (-1 : Int32) := by decide
      rw [e0]
      exact hx 0 s h
    | succ m ih =>
      intro s h
      rw [pk_m1]
      exact hs (m + 1) m s h ih
  have z := g (e + 1) s h
  rw [pk_m1] at z
  exact ⟨_, z⟩
/-! 0 or 1 -/
noncomputable def cx_i (P : Prop) : Int32 := @ite Int32 P (Classical.propDecidable P) 1 0
theorem cx_i_t {P : Prop} (h : P) : cx_i P = 1 := if_pos h
theorem cx_i_f {P : Prop} (h : ¬ P) : cx_i P = 0 := if_neg h
theorem cx_i_0 {P : Prop} : cx_i P = 0 ↔ ¬ P := by
  constructor
  · intro h p
    rw [cx_i_t p] at h
    exact absurd h (by decide)
  · exact cx_i_f
theorem cx_i_c {P Q : Prop} (h : P ↔ Q) : cx_i P = cx_i Q := by rw [propext h]
/-! the search for the best cut, going up the codes -/
def cx_PI (Q : (Nat → Nat) → Prop) (cut : Nat) (best bl : Int32) : Prop :=
  ∃ B : Nat, bl = nI B ∧ B ≤ 25 ∧ ((best = -1 ∧ B = 25 ∧ ∀ c, c < cut → ¬ Q (cx_d8 c)) ∨ ∃ b : Nat, best = nI b ∧ B = cx_lv (cx_d8 b) ∧ cx_Bst Q cx_d8 cut b)
theorem cx_PI_0 (Q : (Nat → Nat) → Prop) : cx_PI Q 0 (-1) 25 :=
  ⟨25, rfl, Nat.le_refl _, Or.inl ⟨rfl, rfl, fun _ h => absurd h (Nat.not_lt_zero _)⟩⟩
theorem cx_PI_new {Q : (Nat → Nat) → Prop} {cut : Nat} {best bl : Int32} (h : cx_PI Q cut best bl) (hq : Q (cx_d8 cut)) (h24 : cx_lv (cx_d8 cut) ≤ 28) (hl : nI (cx_lv (cx_d8 cut)) < bl) :
    cx_PI Q (cut + 1) (nI cut) (nI (cx_lv (cx_d8 cut))) := by
  obtain ⟨B, rfl, hB, h⟩ := h
  rw [nI_ltI (by omega) (by omega)] at hl
  refine ⟨_, rfl, by omega, Or.inr ⟨cut, rfl, rfl, by omega, hq, fun c hc qc => ?_⟩⟩
  by_cases e : c = cut
  · subst e
    exact Or.inr ⟨rfl, Nat.le_refl _⟩
  · rcases h with ⟨_, _, h⟩ | ⟨b, _, hb, h⟩
    · exact absurd qc (h c (by omega))
    · have := h.2.2 c (by omega) qc
      omega
theorem cx_PI_keep {Q : (Nat → Nat) → Prop} {cut : Nat} {best bl : Int32} (h : cx_PI Q cut best bl) (h24 : Q (cx_d8 cut) → cx_lv (cx_d8 cut) ≤ 24) (hl : Q (cx_d8 cut) → ¬ nI (cx_lv (cx_d8 cut)) < bl) :
    cx_PI Q (cut + 1) best bl := by
  obtain ⟨B, rfl, hB, h⟩ := h
  have g : Q (cx_d8 cut) → B ≤ cx_lv (cx_d8 cut) := by
    intro q
    have a := h24 q
    have b := hl q
    rw [nI_ltI (by omega) (by omega)] at b
    omega
  refine ⟨B, rfl, hB, ?_⟩
  rcases h with ⟨h1, h2, h⟩ | ⟨b, h1, hb, h⟩
  · refine Or.inl ⟨h1, h2, fun c hc qc => ?_⟩
    by_cases e : c = cut
    · subst e
      have a := g qc
      have b := h24 qc
      omega
    · exact h c (by omega) qc
  · refine Or.inr ⟨b, h1, hb, by have := h.1; omega, h.2.1, fun c hc qc => ?_⟩
    by_cases e : c = cut
    · subst e
      have a := g qc
      have b := h.1
      omega
    · exact h.2.2 c (by omega) qc
theorem cx_lv_28 (c : Nat) : cx_lv (cx_d8 c) ≤ 28 := by
  have h0 := cx_8_lt c 0
  have h1 := cx_8_lt c 1
  have h2 := cx_8_lt c 2
  have h3 := cx_8_lt c 3
  unfold cx_lv
  omega
theorem cx_lv_24 {d K : Nat → Nat} (h : ∀ p, p < 4 → d p ≤ K p) (hK : ∀ p, p < 4 → K p ≤ 6) : cx_lv d ≤ 24 :=
  Nat.le_trans (cx_lv_le h) (cx_lv_6 hK)
end
section
/-! what ties the two sides' values and stamps: P processes, K p events of process p -/
def cx_B (P : Nat) (K : Nat → Nat) (va st ni vl s6 : Nat → Int32) : Prop := ∀ p, p < P →
  ni p = va (p * 7 + 0) ∧ (∀ k, k < K p → vl (p * 6 + k) = va (p * 7 + (k + 1))) ∧
  (∀ q, q < P → st ((p * 7 + 0) * 4 + q) = 0 ∧ (∀ k, k < K p → s6 ((p * 6 + k) * 4 + q) = st ((p * 7 + (k + 1)) * 4 + q)) ∧ (∀ k, k ≤ K p → ¬ st ((p * 7 + k) * 4 + q) < 0))
theorem cx_B_ev {P p0 : Nat} {K : Nat → Nat} {va st ni vl s6 st' s6' w : Nat → Int32} {v : Int32} (hP : P ≤ 4) (hK : ∀ p, p < P → K p ≤ 6) (hp0 : p0 < P) (hk0 : K p0 < 6) (h : cx_B P K va st ni vl s6)
    (h1 : ∀ s q, s ≠ p0 * 7 + (K p0 + 1) → q < 4 → st' (s * 4 + q) = st (s * 4 + q)) (h2 : ∀ q, q < P → st' ((p0 * 7 + (K p0 + 1)) * 4 + q) = w q)
    (h3 : ∀ s q, s ≠ p0 * 6 + K p0 → q < 4 → s6' (s * 4 + q) = s6 (s * 4 + q)) (h4 : ∀ q, q < P → s6' ((p0 * 6 + K p0) * 4 + q) = w q) (hw : ∀ q, q < P → ¬ w q < 0) :
    cx_B P (cx_up K p0) (upd va (p0 * 7 + (K p0 + 1)) v) st' ni (upd vl (p0 * 6 + K p0) v) s6' := by
  intro p hp
  obtain ⟨b1, b2, b3⟩ := h p hp
  have hKp := hK p hp
  refine ⟨?_, ?_, ?_⟩
  · rw [pk_un (by omega)]
    exact b1
  · intro k hk
    by_cases e : p = p0
    · subst e
      rw [cx_up_s] at hk
      by_cases e2 : k = K p
      · subst e2
        rw [pk_us, pk_us]
      · rw [pk_un (by omega), pk_un (by omega)]
        exact b2 k (by omega)
    · rw [cx_up_n e] at hk
      rw [pk_un (by omega), pk_un (by omega)]
      exact b2 k hk
  · intro q hq
    obtain ⟨c1, c2, c3⟩ := b3 q hq
    refine ⟨?_, ?_, ?_⟩
    · rw [h1 _ _ (by omega) (by omega)]
      exact c1
    · intro k hk
      by_cases e : p = p0
      · subst e
        rw [cx_up_s] at hk
        by_cases e2 : k = K p
        · subst e2
          rw [h2 q hq, h4 q hq]
        · rw [h1 _ _ (by omega) (by omega), h3 _ _ (by omega) (by omega)]
          exact c2 k (by omega)
      · rw [cx_up_n e] at hk
        rw [h1 _ _ (by omega) (by omega), h3 _ _ (by omega) (by omega)]
        exact c2 k hk
    · intro k hk
      by_cases e : p = p0
      · subst e
        rw [cx_up_s] at hk
        by_cases e2 : k = K p + 1
        · subst e2
          rw [h2 q hq]
          exact hw q hq
        · rw [h1 _ _ (by omega) (by omega)]
          exact c3 k (by omega)
      · rw [cx_up_n e] at hk
        rw [h1 _ _ (by omega) (by omega)]
        exact c3 k hk
def cx_mx (b c : Int32) : Int32 := if c ≤ b then b else c
theorem cx_mx_t {b c : Int32} (h : c ≤ b) : cx_mx b c = b := if_pos h
theorem cx_mx_f {b c : Int32} (h : ¬ c ≤ b) : cx_mx b c = c := if_neg h
theorem cx_mx_nn {b c : Int32} (h : ¬ b < 0) : ¬ cx_mx b c < 0 := by
  by_cases l : c ≤ b
  · rw [cx_mx_t l]
    exact h
  · rw [cx_mx_f l]
    intro z
    exact h (Int32.lt_trans (Int32.not_le.mp l) z)
theorem cx_mx_0 {b : Int32} (h : ¬ b < 0) : cx_mx b 0 = b := cx_mx_t (Int32.not_lt.mp h)
/-! messages -/
def cx_C (P M : Nat) (K : Nat → Nat) (sp ss mk rc : Nat → Int32) : Prop :=
  (∀ m, m < M → ∃ p k : Nat, p < P ∧ k < K p ∧ sp m = nI p ∧ ss m = nI (p * 7 + (k + 1)) ∧ mk m = nI (k + 1)) ∧ (∀ m, M ≤ m → rc m = 0)
theorem cx_up_le (K : Nat → Nat) (p0 p : Nat) : K p ≤ cx_up K p0 p := by
  by_cases e : p = p0
  · rw [e, cx_up_s]; omega
  · rw [cx_up_n e]; omega
theorem cx_C_up {P M : Nat} {K : Nat → Nat} {sp ss mk rc : Nat → Int32} (p0 : Nat) (h : cx_C P M K sp ss mk rc) : cx_C P M (cx_up K p0) sp ss mk rc :=
  ⟨fun m hm => by
    obtain ⟨p, k, a, b, c⟩ := h.1 m hm
    exact ⟨p, k, a, Nat.lt_of_lt_of_le b (cx_up_le K p0 p), c⟩, h.2⟩
theorem cx_C_send {P M p0 : Nat} {K : Nat → Nat} {sp ss mk rc : Nat → Int32} (hp0 : p0 < P) (h : cx_C P M K sp ss mk rc) :
    cx_C P (M + 1) (cx_up K p0) (upd sp M (nI p0)) (upd ss M (nI (p0 * 7 + (K p0 + 1)))) (upd mk M (nI (K p0 + 1))) rc := by
  refine ⟨fun m hm => ?_, fun m hm => h.2 m (by omega)⟩
  by_cases e : m = M
  · subst e
    exact ⟨p0, K p0, hp0, by rw [cx_up_s]; omega, pk_us, pk_us, pk_us⟩
  · obtain ⟨p, k, a, b, c⟩ := h.1 m (by omega)
    refine ⟨p, k, a, Nat.lt_of_lt_of_le b (cx_up_le K p0 p), ?_⟩
    rw [pk_un e, pk_un e, pk_un e]
    exact c
theorem cx_C_rec {P M m : Nat} {K : Nat → Nat} {sp ss mk rc : Nat → Int32} {x : Int32} (hm : m < M) (h : cx_C P M K sp ss mk rc) : cx_C P M K sp ss mk (upd rc m x) :=
  ⟨h.1, fun j hj => by rw [pk_un (by omega)]; exact h.2 j hj⟩
theorem cx_K_up (K : Nat → Nat) (p : Nat) : upd (fun i => nI (K i)) p (nI (K p + 1)) = fun i => nI (cx_up K p i) := by
  funext i
  by_cases e : i = p
  · rw [e, pk_us, cx_up_s]
  · rw [pk_un e, cx_up_n e]
/-! sizes -/
def cx_N (P E M : Nat) (K : Nat → Nat) : Prop := 1 ≤ P ∧ P ≤ 4 ∧ E ≤ 6 ∧ M ≤ 16 ∧ (∀ p, K p ≤ E) ∧ (∀ p, P ≤ p → K p = 0)
theorem cx_N_6 {P E M : Nat} {K : Nat → Nat} (h : cx_N P E M K) (p : Nat) : K p ≤ 6 := Nat.le_trans (h.2.2.2.2.1 p) h.2.2.1
theorem cx_N_up {P E M p0 : Nat} {K : Nat → Nat} (h : cx_N P E M K) (hp : p0 < P) (hk : K p0 < E) : cx_N P E M (cx_up K p0) := by
  obtain ⟨h1, h2, h3, h4, h5, h6⟩ := h
  refine ⟨h1, h2, h3, h4, fun p => ?_, fun p hp' => ?_⟩
  · by_cases e : p = p0
    · rw [e, cx_up_s]; omega
    · rw [cx_up_n e]; exact h5 p
  · rw [cx_up_n (by omega)]
    exact h6 p hp'
/-! results that are kept: witness and path -/
def cx_Wt (wc hw : Int32) (wt : Nat → Int32) : Prop := (wc = -1 ∧ hw = 0) ∨ ∃ c : Nat, c < 4096 ∧ wc = nI c ∧ hw = 1 ∧ ∀ p, p < 4 → wt p = nI (cx_d8 c p)
def cx_Pt (ps hp pl : Int32) (pa py : Nat → Int32) : Prop := (ps = -1 ∧ hp = 0) ∨ ∃ L : Nat, L ≤ 24 ∧ ps = nI L ∧ hp = 1 ∧ pl = nI L ∧ ∀ j, j < L → pa j = py j
theorem cx_Wt_0 (wt : Nat → Int32) : cx_Wt (-1) 0 wt := Or.inl ⟨rfl, rfl⟩
theorem cx_Pt_0 (pl : Int32) (pa py : Nat → Int32) : cx_Pt (-1) 0 pl pa py := Or.inl ⟨rfl, rfl⟩
/-! the reference's reading of the same picture -/
theorem cx_Co_0 {P : Nat} {K : Nat → Nat} {va st ni vl s6 : Nat → Int32} (h : cx_B P K va st ni vl s6) {p q x : Nat} (hp : p < P) (hq : q < P) (hx : x < 2 ^ 31) : st ((p * 7 + 0) * 4 + q) ≤ nI x := by
  rw [((h p hp).2.2 q hq).1]
  exact nI_pos' hx
end
section
/-! the component's reading methods, each with a general post -/
theorem xw_index {post : Int32 → Prop} {c p : Nat} (hc : c < 4096) (hp : p < 4) (h : post (nI (cx_d8 c p))) : wpX_indexIn post () (nI c) (nI p) := by
  show post ((nI c >>> ((9 - nI p * 3) &&& 31)) &&& 7)
  rw [cx_ix hc hp]
  exact h
theorem xw_slot {post : Int32 → Prop} {p k : Nat} (h : post (nI (p * 7 + k))) : wpX_slotOf post () (nI p) (nI k) := by
  show post (nI p * 7 + nI k)
  rw [cx_sl]
  exact h
theorem xw_step {post : Int32 → Prop} {c p : Nat} (hp : p < 4) (h : post (nI (c + cx_w8 p))) : wpX_stepFrom post () (nI c) (nI p) := by
  show post (nI c + ((1 : Int32) <<< ((9 - nI p * 3) &&& 31)))
  rw [cx_sf hp]
  exact h
theorem xw_10 : ¬ (1 : Int32) = 0 := by decide
section
variable {P : Nat} {K : Nat → Nat} {f_procs f_maxEvents f_messages f_mode f_threshold f_witnessCut f_pathSteps : Int32} {a_counts a_values a_stamps a_senders a_sendSlots a_received a_lows a_highs a_path a_avoidable : Nat → Int32}
theorem xw_within {post : Int32 → Prop} {c : Nat} (hc : c < 4096) (hcn : ∀ i, a_counts i = nI (K i)) (hK : ∀ p, p < 4 → K p ≤ 6) (hT : cx_Va K (cx_d8 c) → post 1) (hF : ¬ cx_Va K (cx_d8 c) → post 0) :
    wpX_isWithinCounts post (f_procs, f_maxEvents, f_messages, f_mode, f_threshold, f_witnessCut, f_pathSteps, a_counts, a_values, a_stamps, a_senders, a_sendSlots, a_received, a_lows, a_highs, a_path, a_avoidable) (nI c) :=
  cx_all (fun n i => wX_isWithinCounts_2 post (nI c) f_procs f_maxEvents f_messages f_mode f_threshold f_witnessCut f_pathSteps a_counts a_values a_stamps a_senders a_sendSlots a_received a_lows a_highs a_path a_avoidable n (nI i)) 4 (fun p => cx_d8 c p ≤ K p) hT hF
    (fun n t => br_t (nI_le (a := 4) (b := 4) (Nat.le_refl _) (by omega)) t)
    (fun n i hi t f => br_f (nI_ge (b := 4) hi (by omega)) (xw_index hc hi ⟨vp_in_nI hi (by omega), by
      rw [nI_clamp (n := i) (by omega), hcn]
      have := hK i hi
      have := cx_8_lt c i
      exact cx_le (by omega) (by omega) (fun h => nm_r (nI_1 i) (t h)) f⟩))
theorem xw_cons {post : Int32 → Prop} {c : Nat} (hc : c < 4096) (hP : P ≤ 4) (h6 : ∀ p, p < 4 → cx_d8 c p < 7) (hT : cx_Co P a_stamps (cx_d8 c) → post 1) (hF : ¬ cx_Co P a_stamps (cx_d8 c) → post 0) :
    wpX_isConsistent post (nI P, f_maxEvents, f_messages, f_mode, f_threshold, f_witnessCut, f_pathSteps, a_counts, a_values, a_stamps, a_senders, a_sendSlots, a_received, a_lows, a_highs, a_path, a_avoidable) (nI c) :=
  cx_all (fun n i => wX_isConsistent_2 post (nI c) (nI P) f_maxEvents f_messages f_mode f_threshold f_witnessCut f_pathSteps a_counts a_values a_stamps a_senders a_sendSlots a_received a_lows a_highs a_path a_avoidable n (nI i)) P (fun p => ∀ q, q < P → a_stamps ((p * 7 + cx_d8 c p) * 4 + q) ≤ nI (cx_d8 c q)) hT hF
    (fun n t => br_t (nI_le (Nat.le_refl P) (by omega)) t)
    (fun n i hi t f => br_f (nI_ge hi (by omega)) (xw_index hc (by omega) (xw_slot
      (cx_all (fun m j => wX_isConsistent_26 post (wX_isConsistent_2 post (nI c) (nI P) f_maxEvents f_messages f_mode f_threshold f_witnessCut f_pathSteps a_counts a_values a_stamps a_senders a_sendSlots a_received a_lows a_highs a_path a_avoidable n) (nI c) (nI i) (nI (i * 7 + cx_d8 c i)) (nI P) f_maxEvents f_messages f_mode f_threshold f_witnessCut f_pathSteps a_counts a_values a_stamps a_senders a_sendSlots a_received a_lows a_highs a_path a_avoidable m (nI j)) P
        (fun q => a_stamps ((i * 7 + cx_d8 c i) * 4 + q) ≤ nI (cx_d8 c q)) t f
        (fun m t' => br_t (nI_le (Nat.le_refl P) (by omega)) (nm_r (nI_1 i) t'))
        (fun m j hj t' f' => br_f (nI_ge hj (by omega)) (by
          have e := cx_st (i * 7 + cx_d8 c i) j
          have b := h6 i (by omega)
          refine ⟨?_, ?_⟩
          · rw [e]
            exact vp_in_nI (by omega) (by omega)
          · refine xw_index hc (by omega) ?_
            rw [e, nI_clamp (by omega)]
            exact br_c (fun h => nm_r (nI_1 j) (t' h)) f'))))))
theorem xw_bounds {post : Int32 → Prop} {c : Nat} (hc : c < 4096) (hP : P ≤ 4) (h6 : ∀ p, p < 4 → cx_d8 c p < 7) (hT : cx_Wb P a_values a_lows a_highs (cx_d8 c) → post 1) (hF : ¬ cx_Wb P a_values a_lows a_highs (cx_d8 c) → post 0) :
    wpX_isWithinBounds post (nI P, f_maxEvents, f_messages, f_mode, f_threshold, f_witnessCut, f_pathSteps, a_counts, a_values, a_stamps, a_senders, a_sendSlots, a_received, a_lows, a_highs, a_path, a_avoidable) (nI c) :=
  cx_all (fun n i => wX_isWithinBounds_2 post (nI c) (nI P) f_maxEvents f_messages f_mode f_threshold f_witnessCut f_pathSteps a_counts a_values a_stamps a_senders a_sendSlots a_received a_lows a_highs a_path a_avoidable n (nI i)) P (fun p => ¬ a_values (p * 7 + cx_d8 c p) < a_lows p ∧ a_values (p * 7 + cx_d8 c p) ≤ a_highs p) hT hF
    (fun n t => br_t (nI_le (Nat.le_refl P) (by omega)) t)
    (fun n i hi t f => br_f (nI_ge hi (by omega)) (xw_index hc (by omega) (xw_slot (by
      have b := h6 i (by omega)
      refine ⟨vp_in_nI (by omega) (by omega), nm_r (congrArg a_values (nI_clamp (by omega))) ⟨vp_in_nI (by omega) (by omega), ?_⟩⟩
      rw [nI_clamp (n := i) (by omega)]
      exact br_c (fun h => f (fun z => z.1 h)) (fun h => ⟨vp_in_nI (by omega) (by omega), br_c (fun h2 => nm_r (nI_1 i) (t ⟨h, h2⟩)) (fun h2 => f (fun z => h2 z.2))⟩)))))
theorem xw_sum {post : Int64 → Prop} {c : Nat} (hc : c < 4096) (hP : P ≤ 4) (h6 : ∀ p, p < 4 → cx_d8 c p < 7) (h : post (cx_Sm a_values (cx_d8 c) P)) :
    wpX_sumIn post (nI P, f_maxEvents, f_messages, f_mode, f_threshold, f_witnessCut, f_pathSteps, a_counts, a_values, a_stamps, a_senders, a_sendSlots, a_received, a_lows, a_highs, a_path, a_avoidable) (nI c) :=
  cx_fold (fun n i s => wX_sumIn_5 post (nI c) (nI P) f_maxEvents f_messages f_mode f_threshold f_witnessCut f_pathSteps a_counts a_values a_stamps a_senders a_sendSlots a_received a_lows a_highs a_path a_avoidable n s (nI i)) P (cx_Sm a_values (cx_d8 c))
    (fun n => br_t (nI_le (Nat.le_refl P) (by omega)) h)
    (fun n i hi k => br_f (nI_ge hi (by omega)) (xw_index hc (by omega) (xw_slot (by
      have b := h6 i (by omega)
      refine ⟨vp_in_nI (by omega) (by omega), ?_⟩
      rw [nI_clamp (by omega)]
      exact nm_e (nm_r (nI_1 i) k)))))
theorem xw_sat {post : Int32 → Prop} {c : Nat} (hc : c < 4096) (hP : P ≤ 4) (h6 : ∀ p, p < 4 → cx_d8 c p < 7) (hT : cx_Sa P f_mode f_threshold a_values a_lows a_highs (cx_d8 c) → post 1)
    (hF : ¬ cx_Sa P f_mode f_threshold a_values a_lows a_highs (cx_d8 c) → post 0) : wpX_satisfies post (nI P, f_maxEvents, f_messages, f_mode, f_threshold, f_witnessCut, f_pathSteps, a_counts, a_values, a_stamps, a_senders, a_sendSlots, a_received, a_lows, a_highs, a_path, a_avoidable) (nI c) := by
  unfold wpX_satisfies
  refine br_c (fun m0 => ?_) (fun m0 => ?_)
  · exact xw_bounds hc hP h6 (fun w => ⟨rfl, hT ⟨fun _ => w, fun n => absurd m0 n⟩⟩) (fun w => ⟨rfl, hF (fun s => w (s.1 m0))⟩)
  · refine xw_sum hc hP h6 (br_c (fun m1 => ?_) (fun m1 => ?_))
    · exact br_c (fun l => hF (fun s => (s.2 m0).1 m1 l)) (fun l => hT ⟨fun z => absurd z m0, fun _ => ⟨fun _ => l, fun n => absurd m1 n⟩⟩)
    · exact br_c (fun l => hF (fun s => (s.2 m0).2 m1 l)) (fun l => hT ⟨fun z => absurd z m0, fun _ => ⟨fun z => absurd z m1, fun _ => l⟩⟩)
theorem xw_state {post : Int32 → Prop} {c : Nat} (hc : c < 4096) (hP : P ≤ 4) (hcn : ∀ i, a_counts i = nI (K i)) (hK : ∀ p, p < 4 → K p ≤ 6) (h0 : ¬ cx_Va K (cx_d8 c) → post 0) (h1 : cx_Va K (cx_d8 c) → ¬ cx_Co P a_stamps (cx_d8 c) → post 1)
    (h2 : cx_V P K a_stamps (cx_d8 c) → ¬ cx_Sa P f_mode f_threshold a_values a_lows a_highs (cx_d8 c) → post 2) (h3 : cx_V P K a_stamps (cx_d8 c) → cx_Sa P f_mode f_threshold a_values a_lows a_highs (cx_d8 c) → post 3) :
    wpX_stateOf post (nI P, f_maxEvents, f_messages, f_mode, f_threshold, f_witnessCut, f_pathSteps, a_counts, a_values, a_stamps, a_senders, a_sendSlots, a_received, a_lows, a_highs, a_path, a_avoidable) (nI c) := by
  unfold wpX_stateOf
  refine xw_within hc hcn hK (fun v => br_f xw_10 ?_) (fun nv => br_t rfl (h0 nv))
  have h6 : ∀ p, p < 4 → cx_d8 c p < 7 := fun p hp => by have a := v p hp; have b := hK p hp; omega
  refine xw_cons hc hP h6 (fun co => br_f xw_10 ?_) (fun nc => br_t rfl (h1 v nc))
  exact xw_sat hc hP h6 (fun s => br_f xw_10 (h3 ⟨v, co⟩ s)) (fun s => br_t rfl (h2 ⟨v, co⟩ s))
end
end
section
def cx_pl (d : Nat → Nat) : Nat → Nat
  | 0 => 0
  | n + 1 => cx_pl d n + d n
theorem cx_pl_4 (d : Nat → Nat) : cx_pl d 4 = cx_lv d := by
  show 0 + d 0 + d 1 + d 2 + d 3 = d 0 + d 1 + d 2 + d 3
  omega
theorem xw_level {post : Int32 → Prop} {c : Nat} (hc : c < 4096) (h : post (nI (cx_lv (cx_d8 c)))) : wpX_levelOf post () (nI c) := by
  rw [← cx_pl_4] at h
  exact cx_fold (fun n i s => wX_levelOf_4 post (nI c) n s (nI i)) 4 (fun i => nI (cx_pl (cx_d8 c) i))
    (fun n => br_t (nI_le (a := 4) (b := 4) (Nat.le_refl _) (by omega)) h)
    (fun n i hi k => br_f (nI_ge (b := 4) hi (by omega)) (xw_index hc hi (nm_r (nI_add _ _) (nm_r (nI_1 i) k))))
/-! counts and the best cut, on both sides -/
theorem cx_count (W : Nat → Nat → Int32 → Prop) (e : Nat) (Q : Nat → Prop) (hx : ∀ n, W (n + 1) e (nI (cx_n Q e)))
    (hs : ∀ n i s, i < e → (Q i → W n (i + 1) (s + 1)) → (¬ Q i → W n (i + 1) s) → W (n + 1) i s) : ∃ n, W n 0 0 := by
  have h := cx_fold W e (fun i => nI (cx_n Q i)) hx (fun n i hi k => hs n i _ hi
    (fun q => by
      have k' : W n (i + 1) (nI (cx_n Q (i + 1))) := k
      rw [nI_1, ← cx_n_t q]
      exact k')
    (fun q => by
      have k' : W n (i + 1) (nI (cx_n Q (i + 1))) := k
      rw [← cx_n_f q]
      exact k'))
  exact h
theorem cx_m1 {b : Nat} (h : b < 2 ^ 31) : ¬ nI b = -1 := by
  intro e
  have h1 := nI_toInt h
  rw [e] at h1
  have h2 : (-1 : Int32).toInt = -1 := by decide
  omega
section
variable {P : Nat} {K : Nat → Nat} {f_procs f_maxEvents f_messages f_mode f_threshold f_witnessCut f_pathSteps : Int32} {a_counts a_values a_stamps a_senders a_sendSlots a_received a_lows a_highs a_path a_avoidable : Nat → Int32}
theorem xw_cc {post : Int32 → Prop} (hP : P ≤ 4) (hcn : ∀ i, a_counts i = nI (K i)) (hK : ∀ p, p < 4 → K p ≤ 6) (h : post (nI (cx_n (fun c => cx_V P K a_stamps (cx_d8 c)) 4096))) :
    wpX_countConsistent post (nI P, f_maxEvents, f_messages, f_mode, f_threshold, f_witnessCut, f_pathSteps, a_counts, a_values, a_stamps, a_senders, a_sendSlots, a_received, a_lows, a_highs, a_path, a_avoidable) :=
  cx_count (fun n i s => wX_countConsistent_4 post (nI P) f_maxEvents f_messages f_mode f_threshold f_witnessCut f_pathSteps a_counts a_values a_stamps a_senders a_sendSlots a_received a_lows a_highs a_path a_avoidable n s (nI i)) 4096 (fun c => cx_V P K a_stamps (cx_d8 c))
    (fun n => br_t (nI_le (a := 4096) (b := 4096) (Nat.le_refl _) (by omega)) h)
    (fun n i s hi t f => br_f (nI_ge (b := 4096) hi (by omega)) (xw_state hi hP hcn hK
      (fun nv => br_f (by decide) (br_f (by decide) (nm_r (nI_1 i) (f (fun v => nv v.1)))))
      (fun _ nc => br_f (by decide) (br_f (by decide) (nm_r (nI_1 i) (f (fun v => nc v.2)))))
      (fun v _ => br_t rfl (nm_e (nm_r (nI_1 i) (t v))))
      (fun v _ => br_f (by decide) (br_t rfl (nm_e (nm_r (nI_1 i) (t v)))))))
theorem xw_cs {post : Int32 → Prop} (hP : P ≤ 4) (hcn : ∀ i, a_counts i = nI (K i)) (hK : ∀ p, p < 4 → K p ≤ 6) (h : post (nI (cx_n (fun c => cx_Q P K a_stamps f_mode f_threshold a_values a_lows a_highs (cx_d8 c)) 4096))) :
    wpX_countSatisfying post (nI P, f_maxEvents, f_messages, f_mode, f_threshold, f_witnessCut, f_pathSteps, a_counts, a_values, a_stamps, a_senders, a_sendSlots, a_received, a_lows, a_highs, a_path, a_avoidable) :=
  cx_count (fun n i s => wX_countSatisfying_4 post (nI P) f_maxEvents f_messages f_mode f_threshold f_witnessCut f_pathSteps a_counts a_values a_stamps a_senders a_sendSlots a_received a_lows a_highs a_path a_avoidable n s (nI i)) 4096 (fun c => cx_Q P K a_stamps f_mode f_threshold a_values a_lows a_highs (cx_d8 c))
    (fun n => br_t (nI_le (a := 4096) (b := 4096) (Nat.le_refl _) (by omega)) h)
    (fun n i s hi t f => br_f (nI_ge (b := 4096) hi (by omega)) (xw_state hi hP hcn hK
      (fun nv => br_f (by decide) (nm_r (nI_1 i) (f (fun v => nv v.1.1))))
      (fun _ nc => br_f (by decide) (nm_r (nI_1 i) (f (fun v => nc v.1.2))))
      (fun _ ns => br_f (by decide) (nm_r (nI_1 i) (f (fun v => ns v.2))))
      (fun v s => br_t rfl (nm_e (nm_r (nI_1 i) (t ⟨v, s⟩))))))
theorem xw_possibly {post : Int32 → St2 → Prop} (hP : P ≤ 4) (hcn : ∀ i, a_counts i = nI (K i)) (hK : ∀ p, p < 4 → K p ≤ 6)
    (hN : (∀ c, c < 4096 → ¬ cx_Q P K a_stamps f_mode f_threshold a_values a_lows a_highs (cx_d8 c)) → post 0 (nI P, f_maxEvents, f_messages, f_mode, f_threshold, -1, f_pathSteps, a_counts, a_values, a_stamps, a_senders, a_sendSlots, a_received, a_lows, a_highs, a_path, a_avoidable))
    (hS : ∀ b, cx_Bst (cx_Q P K a_stamps f_mode f_threshold a_values a_lows a_highs) cx_d8 4096 b → post 1 (nI P, f_maxEvents, f_messages, f_mode, f_threshold, nI b, f_pathSteps, a_counts, a_values, a_stamps, a_senders, a_sendSlots, a_received, a_lows, a_highs, a_path, a_avoidable)) :
    wpX_possibly post (nI P, f_maxEvents, f_messages, f_mode, f_threshold, f_witnessCut, f_pathSteps, a_counts, a_values, a_stamps, a_senders, a_sendSlots, a_received, a_lows, a_highs, a_path, a_avoidable) :=
  cx_inv (σ := Int32 × Int32) (fun n i s => wX_possibly_7 post (nI P) f_maxEvents f_messages f_mode f_threshold f_witnessCut f_pathSteps a_counts a_values a_stamps a_senders a_sendSlots a_received a_lows a_highs a_path a_avoidable n s.1 s.2 (nI i)) (fun i s => cx_PI (cx_Q P K a_stamps f_mode f_threshold a_values a_lows a_highs) i s.1 s.2) 4096 (-1, 25) (cx_PI_0 _)
    (fun n s I => br_t (nI_le (a := 4096) (b := 4096) (Nat.le_refl _) (by omega)) (by
      obtain ⟨x1, x2⟩ := s
      obtain ⟨B, _, _, I⟩ := I
      rcases I with ⟨e, _, I⟩ | ⟨b, e, _, I⟩
      · have e' : x1 = -1 := e
        subst e'
        exact br_t rfl (hN I)
      · have e' : x1 = nI b := e
        subst e'
        exact br_f (cx_m1 (by have := I.1; omega)) (hS b I)))
    (fun n i s hi I k => br_f (nI_ge (b := 4096) hi (by omega)) (xw_level hi (by
      have q24 : cx_Q P K a_stamps f_mode f_threshold a_values a_lows a_highs (cx_d8 i) → cx_lv (cx_d8 i) ≤ 24 := fun q => cx_lv_24 q.1.1 hK
      refine br_c (fun le => nm_r (nI_1 i) (k s (cx_PI_keep I q24 (fun _ => Int32.not_lt.mpr le)))) (fun nle => xw_state hi hP hcn hK ?_ ?_ ?_ ?_)
      · exact fun nv => br_f (by decide) (nm_r (nI_1 i) (k s (cx_PI_keep I q24 (fun q => absurd q.1.1 nv))))
      · exact fun _ nc => br_f (by decide) (nm_r (nI_1 i) (k s (cx_PI_keep I q24 (fun q => absurd q.1.2 nc))))
      · exact fun _ ns => br_f (by decide) (nm_r (nI_1 i) (k s (cx_PI_keep I q24 (fun q => absurd q.2 ns))))
      · exact fun v sa => br_t rfl (nm_r (nI_1 i) (k (nI i, nI (cx_lv (cx_d8 i))) (cx_PI_new I ⟨v, sa⟩ (cx_lv_28 i) (Int32.not_le.mp nle)))))))
end
end
section
/-! definitely() on the component's side -/
section
variable {P : Nat} {K : Nat → Nat} {G : (Nat → Nat) → Prop} {f_procs f_maxEvents f_messages f_mode f_threshold f_witnessCut f_pathSteps : Int32} {a_counts a_values a_stamps a_senders a_sendSlots a_received a_lows a_highs a_path a_avoidable : Nat → Int32}
theorem xw_final {post : Int32 → Prop} {c : Nat} (hc : c < 4096) (hP : P ≤ 4) (hcn : ∀ i, a_counts i = nI (K i)) (hK : ∀ p, p < 4 → K p ≤ 6) (hT : (∀ p, p < P → cx_d8 c p = K p) → post 1) (hF : ¬ (∀ p, p < P → cx_d8 c p = K p) → post 0) :
    wpX_isFinal post (nI P, f_maxEvents, f_messages, f_mode, f_threshold, f_witnessCut, f_pathSteps, a_counts, a_values, a_stamps, a_senders, a_sendSlots, a_received, a_lows, a_highs, a_path, a_avoidable) (nI c) :=
  cx_all (fun n i => wX_isFinal_2 post (nI c) (nI P) f_maxEvents f_messages f_mode f_threshold f_witnessCut f_pathSteps a_counts a_values a_stamps a_senders a_sendSlots a_received a_lows a_highs a_path a_avoidable n (nI i)) P (fun p => cx_d8 c p = K p) hT hF
    (fun n t => br_t (nI_le (Nat.le_refl P) (by omega)) t)
    (fun n i hi t f => br_f (nI_ge hi (by omega)) (xw_index hc (by omega) ⟨vp_in_nI (by omega) (by omega), by
      rw [nI_clamp (n := i) (by omega), hcn]
      have := hK i (by omega)
      have := cx_8_lt c i
      exact cx_eq (by omega) (by omega) (fun h => nm_r (nI_1 i) (t h)) f⟩))
theorem xw_least {post : Int32 → Prop} {c : Nat} (hc : c < 4096) (hP : P ≤ 4) (hcn : ∀ i, a_counts i = nI (K i)) (hK : ∀ p, p < 4 → K p ≤ 6) (hav : ∀ c', c < c' → c' < 4096 → a_avoidable c' = cx_i (cx_R G K P (cx_d8 c')))
    (hS : ∀ p, cx_S G K P (cx_d8 c) p → (∀ j, j < p → ¬ cx_S G K P (cx_d8 c) j) → post (nI p)) (hN : (∀ p, ¬ cx_S G K P (cx_d8 c) p) → post (-1)) :
    wpX_leastAvoidingStep post (nI P, f_maxEvents, f_messages, f_mode, f_threshold, f_witnessCut, f_pathSteps, a_counts, a_values, a_stamps, a_senders, a_sendSlots, a_received, a_lows, a_highs, a_path, a_avoidable) (nI c) :=
  cx_fst (fun n i => wX_leastAvoidingStep_2 post (nI c) (nI P) f_maxEvents f_messages f_mode f_threshold f_witnessCut f_pathSteps a_counts a_values a_stamps a_senders a_sendSlots a_received a_lows a_highs a_path a_avoidable n (nI i)) P (cx_S G K P (cx_d8 c)) (F := fun p => post (nI p)) (N := post (-1))
    (fun i _ s l => hS i s l) (fun none => hN (fun p s => none p s.1 s))
    (fun n t => br_t (nI_le (Nat.le_refl P) (by omega)) t)
    (fun n i hi nb b => br_f (nI_ge hi (by omega)) (xw_index hc (by omega) ⟨vp_in_nI (by omega) (by omega), by
      rw [nI_clamp (n := i) (by omega), hcn]
      have k6 := hK i (by omega)
      have d8 := cx_8_lt c i
      refine cx_le (by omega) (by omega) (fun h => nm_r (nI_1 i) (nb (fun s => by have := s.2.1; omega))) (fun h => xw_step (by omega) ?_)
      have e := cx_8_step hc (p := i) (by omega) (by omega)
      refine ⟨vp_in_nI e.2 (by omega), ?_⟩
      have w0 : 0 < cx_w8 i := by
        unfold cx_w8
        repeat' split
        all_goals omega
      rw [nI_clamp (by omega), hav _ (by omega) e.2, e.1]
      exact ek_if cx_i_0 (fun z => nm_r (nI_1 i) (nb (fun s => z s.2.2))) (fun z => b ⟨hi, by omega, Classical.byContradiction z⟩)⟩))
/-! the answer of leastAvoidingStep on the least avoiding path's i-th cut -/
noncomputable def cx_xs (G : (Nat → Nat) → Prop) (K : Nat → Nat) (P i : Nat) : Int32 := if i < cx_lv K then nI (cx_ls (cx_S G K P (cx_D G K P i))) else -1
theorem xw_leastD {post : Int32 → Prop} {c i : Nat} (hG : ∀ d, G d → ∀ p, p < 4 → d p ≤ K p) (hc : c < 4096) (hP : P ≤ 4) (hcn : ∀ i, a_counts i = nI (K i)) (hK : ∀ p, p < 4 → K p ≤ 6) (hav : ∀ c', c' < 4096 → a_avoidable c' = cx_i (cx_R G K P (cx_d8 c')))
    (h0 : cx_R G K P (fun _ => 0)) (hi : i ≤ cx_lv K) (hd : cx_d8 c = cx_D G K P i) (h : post (cx_xs G K P i)) : wpX_leastAvoidingStep post (nI P, f_maxEvents, f_messages, f_mode, f_threshold, f_witnessCut, f_pathSteps, a_counts, a_values, a_stamps, a_senders, a_sendSlots, a_received, a_lows, a_highs, a_path, a_avoidable) (nI c) := by
  unfold cx_xs at h
  refine xw_least (G := G) hc hP hcn hK (fun c' _ h' => hav c' h') (fun p s l => ?_) (fun n => ?_)
  · rw [hd] at s l
    by_cases e : i < cx_lv K
    · rw [if_pos e, cx_ls_u s l] at h
      exact h
    · have e' : i = cx_lv K := by omega
      rw [e'] at s
      exact absurd s (cx_D_end hG hP hK h0 p)
  · rw [hd] at n
    by_cases e : i < cx_lv K
    · exact absurd (cx_D_st hG hP hK h0 e).1 (n _)
    · rw [if_neg e] at h
      exact h
theorem xw_record {post : St2 → Prop} (hG : ∀ d, G d → ∀ p, p < 4 → d p ≤ K p) (hP : P ≤ 4) (hcn : ∀ i, a_counts i = nI (K i)) (hK : ∀ p, p < 4 → K p ≤ 6) (hav : ∀ c', c' < 4096 → a_avoidable c' = cx_i (cx_R G K P (cx_d8 c')))
    (h0 : cx_R G K P (fun _ => 0)) (h : ∀ pa : Nat → Int32, (∀ j, j < cx_lv K → pa j = nI (cx_ls (cx_S G K P (cx_D G K P j)))) → post (nI P, f_maxEvents, f_messages, f_mode, f_threshold, f_witnessCut, nI (cx_lv K), a_counts, a_values, a_stamps, a_senders, a_sendSlots, a_received, a_lows, a_highs, pa, a_avoidable)) :
    wpX_recordPath post (nI P, f_maxEvents, f_messages, f_mode, f_threshold, f_witnessCut, f_pathSteps, a_counts, a_values, a_stamps, a_senders, a_sendSlots, a_received, a_lows, a_highs, a_path, a_avoidable) := by
  have T24 := cx_lv_6 hK
  have L : ∀ m i c (pa : Nat → Int32), i + m = cx_lv K → c < 4096 → cx_d8 c = cx_D G K P i → (∀ j, j < i → pa j = nI (cx_ls (cx_S G K P (cx_D G K P j)))) →
      wX_recordPath_10 post (nI P) f_maxEvents f_messages f_mode f_threshold f_witnessCut f_pathSteps (m + 1) (nI c) (nI i) (cx_xs G K P i) a_counts a_values a_stamps a_senders a_sendSlots a_received a_lows a_highs pa a_avoidable := by
    intro m
    induction m with
    | zero =>
      intro i c pa hi hc hd hp
      have e : i = cx_lv K := by omega
      subst e
      have ex : cx_xs G K P (cx_lv K) = -1 := if_neg (Nat.lt_irrefl _)
      rw [ex]
      exact br_t rfl (h pa hp)
    | succ m ih =>
      intro i c pa hi hc hd hp
      have hl : i < cx_lv K := by omega
      have ex : cx_xs G K P i = nI (cx_ls (cx_S G K P (cx_D G K P i))) := if_pos hl
      have s := (cx_D_st hG hP hK h0 hl).1
      have es := cx_D_s G K P i
      rw [ex]
      generalize hg : cx_ls (cx_S G K P (cx_D G K P i)) = l at s es ⊢
      have s1 := s.1
      have s2 := s.2.1
      have k6 := hK l (by omega)
      have e := cx_8_step hc (p := l) (by omega) (by rw [hd]; omega)
      refine br_f (cx_m1 (by omega)) (br_f (nI_ge (b := 24) (by omega) (by omega)) ⟨vp_in_nI (by omega) (by omega), ?_⟩)
      rw [nI_clamp (n := i) (by omega)]
      refine nm_e (nm_r (nI_1 i) (xw_step (by omega) ?_))
      refine xw_leastD hG e.2 hP hcn hK hav h0 (i := i + 1) (by omega) (by rw [e.1, hd, es]) ?_
      refine ih (i + 1) (c + cx_w8 l) _ (by omega) e.2 (by rw [e.1, hd, es]) (fun j hj => ?_)
      by_cases ej : j = i
      · rw [ej, pk_us, hg]
      · rw [pk_un ej]
        exact hp j (by omega)
  unfold wpX_recordPath
  refine xw_leastD hG (c := 0) (by omega) hP hcn hK hav h0 (i := 0) (by omega) cx_8_z ?_
  exact ⟨_, L (cx_lv K) 0 0 a_path (by omega) (by omega) cx_8_z (fun j hj => absurd hj (Nat.not_lt_zero j))⟩
end
section
variable {P : Nat} {K : Nat → Nat} {f_procs f_maxEvents f_messages f_mode f_threshold f_witnessCut f_pathSteps : Int32} {a_counts a_values a_stamps a_senders a_sendSlots a_received a_lows a_highs a_path a_avoidable : Nat → Int32}
theorem xw_definitely {post : Int32 → St2 → Prop} (hP : P ≤ 4) (hcn : ∀ i, a_counts i = nI (K i)) (hK : ∀ p, p < 4 → K p ≤ 6) (hz : ∀ p, P ≤ p → K p = 0)
    (hT : ¬ cx_R (cx_G P K a_stamps f_mode f_threshold a_values a_lows a_highs) K P (fun _ => 0) → ∀ av : Nat → Int32, post 1 (nI P, f_maxEvents, f_messages, f_mode, f_threshold, f_witnessCut, -1, a_counts, a_values, a_stamps, a_senders, a_sendSlots, a_received, a_lows, a_highs, a_path, av))
    (hF : cx_R (cx_G P K a_stamps f_mode f_threshold a_values a_lows a_highs) K P (fun _ => 0) → ∀ av pa : Nat → Int32, (∀ j, j < cx_lv K → pa j = nI (cx_ls (cx_S (cx_G P K a_stamps f_mode f_threshold a_values a_lows a_highs) K P (cx_D (cx_G P K a_stamps f_mode f_threshold a_values a_lows a_highs) K P j)))) →
      post 0 (nI P, f_maxEvents, f_messages, f_mode, f_threshold, f_witnessCut, nI (cx_lv K), a_counts, a_values, a_stamps, a_senders, a_sendSlots, a_received, a_lows, a_highs, pa, av)) :
    wpX_definitely post (nI P, f_maxEvents, f_messages, f_mode, f_threshold, f_witnessCut, f_pathSteps, a_counts, a_values, a_stamps, a_senders, a_sendSlots, a_received, a_lows, a_highs, a_path, a_avoidable) := by
  have hG := cx_G_K (P := P) (K := K) (st := a_stamps) (md := f_mode) (th := f_threshold) (va := a_values) (lo := a_lows) (hi := a_highs)
  have hg : ∀ d, cx_G P K a_stamps f_mode f_threshold a_values a_lows a_highs d ↔ (cx_V P K a_stamps d ∧ ¬ cx_Sa P f_mode f_threshold a_values a_lows a_highs d) := fun _ => Iff.rfl
  generalize cx_G P K a_stamps f_mode f_threshold a_values a_lows a_highs = G at hT hF hG hg
  refine cx_down (fun n x s => wX_definitely_4 post (nI P) f_maxEvents f_messages f_mode f_threshold f_witnessCut f_pathSteps n x a_counts a_values a_stamps a_senders a_sendSlots a_received a_lows a_highs a_path s) (fun m s => m ≤ 4096 ∧ ∀ c, m ≤ c → c < 4096 → s c = cx_i (cx_R G K P (cx_d8 c)))
    (fun n s I => br_t (by decide) ?_) (fun n i s I k => ?_) 4095 a_avoidable ⟨Nat.le_refl _, fun c h h' => absurd h (by omega)⟩
  · have hav : ∀ c, c < 4096 → s c = cx_i (cx_R G K P (cx_d8 c)) := fun c hc => I.2 c (Nat.zero_le c) hc
    have z := hav 0 (by omega)
    rw [cx_8_z] at z
    by_cases r : cx_R G K P (fun _ => 0)
    · rw [cx_i_t r] at z
      refine br_f (by rw [z]; decide) ?_
      exact xw_record hG hP hcn hK hav r (fun pa hp => hF r s pa hp)
    · rw [cx_i_f r] at z
      exact br_t z (hT r s)
  · have hi : i < 4096 := by have := I.1; omega
    have set0 : ¬ cx_R G K P (cx_d8 i) → (vp_in (nI i) 4096 ∧ ∀ a : Nat → Int32, a = upd s (nI i).toNatClampNeg 0 → (∀ x : Int32, x = nI i + (-1) → wX_definitely_4 post (nI P) f_maxEvents f_messages f_mode f_threshold f_witnessCut f_pathSteps n x a_counts a_values a_stamps a_senders a_sendSlots a_received a_lows a_highs a_path a)) := by
      intro r
      refine ⟨vp_in_nI hi (by omega), ?_⟩
      rw [nI_clamp (by omega)]
      refine nm_e (nm_e (k _ ⟨by omega, fun c h h' => ?_⟩))
      by_cases e : c = i
      · rw [e, pk_us, cx_i_f r]
      · rw [pk_un e]
        exact I.2 c (by omega) h'
    have set1 : cx_R G K P (cx_d8 i) → (vp_in (nI i) 4096 ∧ ∀ a : Nat → Int32, a = upd s (nI i).toNatClampNeg 1 → (∀ x : Int32, x = nI i + (-1) → wX_definitely_4 post (nI P) f_maxEvents f_messages f_mode f_threshold f_witnessCut f_pathSteps n x a_counts a_values a_stamps a_senders a_sendSlots a_received a_lows a_highs a_path a)) := by
      intro r
      refine ⟨vp_in_nI hi (by omega), ?_⟩
      rw [nI_clamp (by omega)]
      refine nm_e (nm_e (k _ ⟨by omega, fun c h h' => ?_⟩))
      by_cases e : c = i
      · rw [e, pk_us, cx_i_t r]
      · rw [pk_un e]
        exact I.2 c (by omega) h'
    have R := cx_R_iff hG hP hK (cx_d8 i)
    refine br_f (nI_pos (by omega)) (xw_state hi hP hcn hK ?_ ?_ ?_ ?_)
    · exact fun nv => br_f (by decide) (set0 (fun r => nv ((hg _).mp (R.mp r).1).1.1))
    · exact fun _ nc => br_f (by decide) (set0 (fun r => nc ((hg _).mp (R.mp r).1).1.2))
    · intro v ns
      refine br_t rfl (xw_final hi hP hcn hK (fun f => br_f xw_10 (set1 ?_)) (fun nf => br_t rfl ?_))
      · refine R.mpr ⟨(hg _).mpr ⟨v, ns⟩, Or.inl (fun p hp => ?_)⟩
        by_cases e : p < P
        · exact f p e
        · have a := v.1 p hp
          have b := hz p (by omega)
          omega
      · refine xw_least (G := G) hi hP hcn hK (fun c' h h' => I.2 c' (by omega) h') (fun p s l => ?_) (fun no => ?_)
        · exact br_f (cx_m1 (by have := s.1; omega)) (set1 (R.mpr ⟨(hg _).mpr ⟨v, ns⟩, Or.inr ⟨p, s.1, s.2.1, s.2.2⟩⟩))
        · refine br_t rfl (set0 (fun r => ?_))
          rcases (R.mp r).2 with f | ⟨p, a, b, c⟩
          · exact nf (fun p hp => f p (by omega))
          · exact no p ⟨a, b, c⟩
    · exact fun v sa => br_f (by decide) (set0 (fun r => ((hg _).mp (R.mp r).1).2 sa))
end
end
section
section
variable {P p cs : Nat} {K : Nat → Nat} {v : Int32} {f_procs f_maxEvents f_messages f_mode f_threshold f_witnessCut f_pathSteps : Int32} {a_counts a_values a_stamps a_senders a_sendSlots a_received a_lows a_highs a_path a_avoidable : Nat → Int32}
theorem xw_event {post : St2 → Prop} (hp : p < P) (hP : P ≤ 4) (hk : K p < 6) (hcn : ∀ i, a_counts i = nI (K i)) (hcs : cs < 28) (hne : cs ≠ p * 7 + (K p + 1))
    (h : ∀ st' : Nat → Int32, (∀ s q, s ≠ p * 7 + (K p + 1) → q < 4 → st' (s * 4 + q) = a_stamps (s * 4 + q)) → st' ((p * 7 + (K p + 1)) * 4 + p) = nI (K p + 1) →
      (∀ q, q < P → q ≠ p → st' ((p * 7 + (K p + 1)) * 4 + q) = cx_mx (a_stamps ((p * 7 + K p) * 4 + q)) (a_stamps (cs * 4 + q))) →
      post (nI P, f_maxEvents, f_messages, f_mode, f_threshold, -1, -1, upd a_counts p (nI (K p + 1)), upd a_values (p * 7 + (K p + 1)) v, st', a_senders, a_sendSlots, a_received, a_lows, a_highs, a_path, a_avoidable)) :
    wpX_addEvent post (nI P, f_maxEvents, f_messages, f_mode, f_threshold, f_witnessCut, f_pathSteps, a_counts, a_values, a_stamps, a_senders, a_sendSlots, a_received, a_lows, a_highs, a_path, a_avoidable) (nI p) v (nI cs) := by
  unfold wpX_addEvent
  refine ⟨vp_in_nI (by omega) (by omega), ?_⟩
  rw [nI_clamp (n := p) (by omega), hcn]
  refine nm_r (nI_1 (K p)) (xw_slot ⟨vp_in_nI (by omega) (by omega), nm_e ⟨vp_in_nI (by omega) (by omega), ?_⟩⟩)
  rw [nI_clamp (n := p * 7 + (K p + 1)) (by omega)]
  refine nm_e ?_
  refine cx_inv (fun n i s => wX_addEvent_37 post (nI p) (nI cs) (nI (K p + 1)) (nI (p * 7 + (K p + 1))) (nI P) f_maxEvents f_messages f_mode f_threshold f_witnessCut f_pathSteps n (nI i) (upd a_counts p (nI (K p + 1))) (upd a_values (p * 7 + (K p + 1)) v) s a_senders a_sendSlots a_received a_lows a_highs a_path a_avoidable)
    (fun i s => (∀ t q, t ≠ p * 7 + (K p + 1) → q < 4 → s (t * 4 + q) = a_stamps (t * 4 + q)) ∧ (∀ q, q < i → s ((p * 7 + (K p + 1)) * 4 + q) = cx_mx (a_stamps ((p * 7 + K p) * 4 + q)) (a_stamps (cs * 4 + q)))) P a_stamps
    ⟨fun _ _ _ _ => rfl, fun q hq => absurd hq (Nat.not_lt_zero q)⟩ (fun n s I => br_t (nI_le (Nat.le_refl P) (by omega)) ?_) (fun n i s hi I k => br_f (nI_ge hi (by omega)) ?_)
  · rw [cx_st, nI_clamp (n := (p * 7 + (K p + 1)) * 4 + p) (by omega)]
    refine ⟨vp_in_nI (by omega) (by omega), nm_e ?_⟩
    unfold wpX_forgetResults
    refine h _ (fun t q ht hq => ?_) pk_us (fun q hq hn => ?_)
    · rw [pk_un (by omega)]
      exact I.1 t q ht hq
    · rw [pk_un (by omega)]
      exact I.2 q hq
  · have e1 : nI (p * 7 + (K p + 1)) - 1 = nI (p * 7 + K p) := nI_pred (p * 7 + K p)
    have J : ∀ x, x = cx_mx (a_stamps ((p * 7 + K p) * 4 + i)) (a_stamps (cs * 4 + i)) →
        ((∀ t q, t ≠ p * 7 + (K p + 1) → q < 4 → upd s ((p * 7 + (K p + 1)) * 4 + i) x (t * 4 + q) = a_stamps (t * 4 + q)) ∧ (∀ q, q < i + 1 → upd s ((p * 7 + (K p + 1)) * 4 + i) x ((p * 7 + (K p + 1)) * 4 + q) = cx_mx (a_stamps ((p * 7 + K p) * 4 + q)) (a_stamps (cs * 4 + q)))) := by
      intro x ex
      refine ⟨fun t q ht hq => ?_, fun q hq => ?_⟩
      · rw [pk_un (by omega)]
        exact I.1 t q ht hq
      · by_cases e : q = i
        · rw [e, pk_us]
          exact ex
        · rw [pk_un (by omega)]
          exact I.2 q (by omega)
    rw [e1, cx_st (p * 7 + K p) i, cx_st cs i, cx_st (p * 7 + (K p + 1)) i, nI_clamp (n := (p * 7 + K p) * 4 + i) (by omega), nI_clamp (n := cs * 4 + i) (by omega), nI_clamp (n := (p * 7 + (K p + 1)) * 4 + i) (by omega),
      I.1 (p * 7 + K p) i (by omega) (by omega), I.1 cs i hne (by omega)]
    refine ⟨vp_in_nI (by omega) (by omega), nm_e ⟨vp_in_nI (by omega) (by omega), nm_e (br_c (fun le => ?_) (fun nle => ?_))⟩⟩
    · exact ⟨vp_in_nI (by omega) (by omega), nm_e (nm_r (nI_1 i) (k _ (J _ (cx_mx_t le).symm)))⟩
    · exact ⟨vp_in_nI (by omega) (by omega), nm_e (nm_r (nI_1 i) (k _ (J _ (cx_mx_f nle).symm)))⟩
end
end
section
theorem cx_cn_up {K : Nat → Nat} {cn : Nat → Int32} (h : ∀ i, cn i = nI (K i)) (p : Nat) : ∀ i, upd cn p (nI (K p + 1)) i = nI (cx_up K p i) := by
  intro i
  by_cases e : i = p
  · rw [e, pk_us, cx_up_s]
  · rw [pk_un e, cx_up_n e, h]
theorem cx_out {P : Nat} {x : Int32} {A B : Prop} (o : x < 0 ∨ nI P ≤ x) (a : A) : (x < 0 → A) ∧ (¬ x < 0 → ((x < nI P → B) ∧ (¬ x < nI P → A))) :=
  ⟨fun _ => a, fun n => ⟨fun l => o.elim (fun h => absurd h n) (fun h => absurd l (Int32.not_lt.mpr h)), fun _ => a⟩⟩
theorem cx_inn {P j : Nat} {A B : Prop} (hj : j < P) (hP : P ≤ 16) (b : B) : (nI j < 0 → A) ∧ (¬ nI j < 0 → ((nI j < nI P → B) ∧ (¬ nI j < nI P → A))) :=
  br_f (nI_pos (by omega)) (br_t (nI_lt hj (by omega)) b)
def cx_Ok (x : Int32) (k : Nat) : Prop := ∃ j : Nat, j ≤ k ∧ x = nI j
theorem cx_ok {x : Int32} {k : Nat} (hk : k < 2 ^ 31) (n : ¬ x < 0) (m : ¬ nI k < x) : cx_Ok x k := by
  obtain ⟨j, hj, rfl⟩ := nI_of n
  rw [nI_ltI hk hj] at m
  exact ⟨j, by omega, rfl⟩
theorem cx_pos {x : Int32} (h : ¬ x < 1) : ∃ k : Nat, k + 1 < 2 ^ 31 ∧ x = nI (k + 1) := by
  have n : ¬ x < 0 := fun z => h (Int32.lt_trans z (by decide))
  obtain ⟨j, hj, rfl⟩ := nI_of n
  have h' : ¬ nI j < nI 1 := h
  rw [nI_ltI hj (by omega)] at h'
  exact ⟨j - 1, by omega, congrArg nI (by omega)⟩
theorem cx_m1le {x : Int32} (h : ¬ x < 0) : (-1 : Int32) ≤ x := Int32.le_trans (by decide) (Int32.not_lt.mp h)
/-! clamping -/
def cx_Cl (x : Int32) (m j : Nat) : Prop := (¬ 1 ≤ x ∧ j = 1) ∨ (1 ≤ x ∧ x ≤ nI m ∧ x = nI j) ∨ (1 ≤ x ∧ ¬ x ≤ nI m ∧ j = m)
theorem cx_Cl_ex (x : Int32) {m : Nat} (h1 : 1 ≤ m) (h6 : m ≤ 6) : ∃ j, 1 ≤ j ∧ j ≤ m ∧ cx_Cl x m j := by
  by_cases a : 1 ≤ x
  · by_cases b : x ≤ nI m
    · obtain ⟨k, hk, e⟩ := cx_pos (Int32.not_lt.mpr a)
      have b' := b
      rw [e, nI_leI hk (by omega)] at b'
      exact ⟨k + 1, by omega, b', Or.inr (Or.inl ⟨a, b, e⟩)⟩
    · exact ⟨m, h1, Nat.le_refl m, Or.inr (Or.inr ⟨a, b, rfl⟩)⟩
  · exact ⟨1, Nat.le_refl 1, h1, Or.inl ⟨a, rfl⟩⟩
theorem cx_Cl_w {x y : Int32} {m j : Nat} {A B C : Prop} (c : cx_Cl x m j) (hy : y = nI m) (a : x = nI j → A) (b : j = m → B) (d : j = 1 → C) : (1 ≤ x → ((x ≤ y → A) ∧ (¬ x ≤ y → B))) ∧ (¬ 1 ≤ x → C) := by
  subst hy
  rcases c with ⟨h, e⟩ | ⟨h, l, e⟩ | ⟨h, l, e⟩
  · exact br_f h (d e)
  · exact br_t h (br_t l (a e))
  · exact br_t h (br_f l (b e))
section
variable {P E M : Nat} {K : Nat → Nat} {f_procs f_maxEvents f_messages f_mode f_threshold f_witnessCut f_pathSteps : Int32} {a_counts a_values a_stamps a_senders a_sendSlots a_received a_lows a_highs a_path a_avoidable : Nat → Int32}
theorem xw_isProc {post : Int32 → Prop} {x : Int32} (hP : P ≤ 4) (h1 : ∀ j, j < P → x = nI j → post 1) (h0 : (x < 0 ∨ nI P ≤ x) → post 0) : wpX_isProcess post (nI P, f_maxEvents, f_messages, f_mode, f_threshold, f_witnessCut, f_pathSteps, a_counts, a_values, a_stamps, a_senders, a_sendSlots, a_received, a_lows, a_highs, a_path, a_avoidable) x := by
  unfold wpX_isProcess
  refine br_c (fun l => h0 (Or.inl l)) (fun nl => br_c (fun le => h0 (Or.inr le)) (fun nle => ?_))
  rcases pk_ix x (n := P) (by omega) with a | b | ⟨j, hj, e⟩
  · exact absurd a nl
  · exact absurd b nle
  · exact h1 j hj e
theorem xw_room {post : Int32 → Prop} {x : Int32} (hP : P ≤ 4) (hE : E ≤ 6) (hcn : ∀ i, a_counts i = nI (K i)) (hKE : ∀ p, K p ≤ E) (h1 : ∀ j, j < P → x = nI j → K j < E → post 1) (h0 : (x < 0 ∨ nI P ≤ x) → post 0)
    (h0' : ∀ j, j < P → x = nI j → K j = E → post 0) : wpX_hasRoom post (nI P, nI E, f_messages, f_mode, f_threshold, f_witnessCut, f_pathSteps, a_counts, a_values, a_stamps, a_senders, a_sendSlots, a_received, a_lows, a_highs, a_path, a_avoidable) x := by
  unfold wpX_hasRoom
  refine xw_isProc hP (fun j hj e => br_f xw_10 ?_) (fun o => br_t rfl (h0 o))
  subst e
  refine ⟨vp_in_nI (by omega) (by omega), ?_⟩
  rw [nI_clamp (by omega), hcn]
  have := hKE j
  exact cx_le (by omega) (by omega) (fun le => h0' j hj rfl (by omega)) (fun nle => h1 j hj rfl (by omega))
theorem xw_pending {post : Int32 → Prop} {x : Int32} (hM : M ≤ 16) (h1 : ∀ j, j < M → x = nI j → a_received j = 0 → post 1) (h0 : (x < 0 ∨ nI M ≤ x) → post 0) (h0' : ∀ j, j < M → x = nI j → ¬ a_received j = 0 → post 0) :
    wpX_isPending post (f_procs, f_maxEvents, nI M, f_mode, f_threshold, f_witnessCut, f_pathSteps, a_counts, a_values, a_stamps, a_senders, a_sendSlots, a_received, a_lows, a_highs, a_path, a_avoidable) x := by
  unfold wpX_isPending
  refine br_c (fun l => h0 (Or.inl l)) (fun nl => br_c (fun le => h0 (Or.inr le)) (fun nle => ?_))
  rcases pk_ix x (n := M) (by omega) with a | b | ⟨j, hj, e⟩
  · exact absurd a nl
  · exact absurd b nle
  · subst e
    refine ⟨vp_in_nI (by omega) (by omega), ?_⟩
    rw [nI_clamp (by omega)]
    exact br_c (fun z => h1 j hj rfl z) (fun z => h0' j hj rfl z)
theorem xw_fits {post : Int32 → Prop} {x : Int32} (h1 : cx_Ok x 7 → post 1) (h0 : ¬ cx_Ok x 7 → post 0) : wpX_fitsInCode post () x := by
  unfold wpX_fitsInCode
  refine br_c (fun l => h0 (fun z => ?_)) (fun nl => br_c (fun l => h0 (fun z => ?_)) (fun nl2 => h1 (cx_ok (by omega) nl nl2)))
  · obtain ⟨j, hj, rfl⟩ := z
    exact absurd l (nI_pos (by omega))
  · obtain ⟨j, hj, rfl⟩ := z
    exact absurd l (nI_nlt (b := j) (a := 7) (by omega) (by omega))
end
end
section
theorem cx_dd (a b c e : Nat) : ∃ d : Nat → Nat, d 0 = a ∧ d 1 = b ∧ d 2 = c ∧ d 3 = e ∧ ∀ p, 4 ≤ p → d p = 0 :=
  ⟨fun p => if p = 0 then a else if p = 1 then b else if p = 2 then c else if p = 3 then e else 0, rfl, rfl, rfl, rfl, fun p hp => by
    show (if p = 0 then a else if p = 1 then b else if p = 2 then c else if p = 3 then e else 0) = 0
    rw [if_neg (by omega), if_neg (by omega), if_neg (by omega), if_neg (by omega)]⟩
section
variable {P : Nat} {K : Nat → Nat} {x0 x1 x2 x3 : Int32} {f_procs f_maxEvents f_messages f_mode f_threshold f_witnessCut f_pathSteps : Int32} {a_counts a_values a_stamps a_senders a_sendSlots a_received a_lows a_highs a_path a_avoidable : Nat → Int32}
theorem xw_cut0 {post : Int32 → Prop} (h : ¬ (cx_Ok x0 7 ∧ cx_Ok x1 7 ∧ cx_Ok x2 7 ∧ cx_Ok x3 7)) (h0 : post 0) : wpX_cutState post (f_procs, f_maxEvents, f_messages, f_mode, f_threshold, f_witnessCut, f_pathSteps, a_counts, a_values, a_stamps, a_senders, a_sendSlots, a_received, a_lows, a_highs, a_path, a_avoidable) x0 x1 x2 x3 := by
  unfold wpX_cutState
  refine xw_fits (fun o0 => br_f xw_10 ?_) (fun _ => br_t rfl h0)
  refine xw_fits (fun o1 => br_f xw_10 ?_) (fun _ => br_t rfl h0)
  refine xw_fits (fun o2 => br_f xw_10 ?_) (fun _ => br_t rfl h0)
  exact xw_fits (fun o3 => absurd ⟨o0, o1, o2, o3⟩ h) (fun _ => br_t rfl h0)
theorem xw_cut {post : Int32 → Prop} {d : Nat → Nat} (hP : P ≤ 4) (hcn : ∀ i, a_counts i = nI (K i)) (hK : ∀ p, p < 4 → K p ≤ 6) (h8 : ∀ p, p < 4 → d p < 8) (h4 : ∀ p, 4 ≤ p → d p = 0)
    (h0 : ¬ cx_Va K d → post 0) (h1 : cx_Va K d → ¬ cx_Co P a_stamps d → post 1)
    (h2 : cx_V P K a_stamps d → ¬ cx_Sa P f_mode f_threshold a_values a_lows a_highs d → post 2) (h3 : cx_V P K a_stamps d → cx_Sa P f_mode f_threshold a_values a_lows a_highs d → post 3) :
    wpX_cutState post (nI P, f_maxEvents, f_messages, f_mode, f_threshold, f_witnessCut, f_pathSteps, a_counts, a_values, a_stamps, a_senders, a_sendSlots, a_received, a_lows, a_highs, a_path, a_avoidable) (nI (d 0)) (nI (d 1)) (nI (d 2)) (nI (d 3)) := by
  have d0 := h8 0 (by omega)
  have d1 := h8 1 (by omega)
  have d2 := h8 2 (by omega)
  have d3 := h8 3 (by omega)
  have hc := cx_c8_lt h8
  have hd := cx_8_of h8 h4
  unfold wpX_cutState
  refine xw_fits (fun _ => br_f xw_10 ?_) (fun n => absurd ⟨d 0, by omega, rfl⟩ n)
  refine xw_fits (fun _ => br_f xw_10 ?_) (fun n => absurd ⟨d 1, by omega, rfl⟩ n)
  refine xw_fits (fun _ => br_f xw_10 ?_) (fun n => absurd ⟨d 2, by omega, rfl⟩ n)
  refine xw_fits (fun _ => br_f xw_10 ?_) (fun n => absurd ⟨d 3, by omega, rfl⟩ n)
  have sh : ∀ {n : Nat}, n < 4096 → nI n <<< ((3 : Int32) &&& 31) = nI (n * 8) := fun {n} hn => pk_shlN (n := n) _ 3 (by decide) (by omega)
  refine nm_r (e' := nI (d 0 * 8 + d 1)) (by rw [sh (by omega), nI_add]) ?_
  refine nm_r (e' := nI ((d 0 * 8 + d 1) * 8 + d 2)) (by rw [sh (by omega), nI_add]) ?_
  refine nm_r (e' := nI (cx_c8 d)) (by rw [sh (by omega), nI_add]; exact congrArg nI (by unfold cx_c8; omega)) ?_
  refine xw_state hc hP hcn hK ?_ ?_ ?_ ?_
  · rw [hd]; exact h0
  · rw [hd]; exact h1
  · rw [hd]; exact h2
  · rw [hd]; exact h3
end
end
section
/-! the class's public calls at arguments that the law gives -/
theorem xo_clamp {post : Int32 → Prop} {j m : Nat} (h1 : 1 ≤ j) (hm : j ≤ m) (h6 : m ≤ 6) (h : post (nI j)) : wpX_clamp post () (nI j) (nI m) :=
  br_t (nI_le (a := 1) h1 (by omega)) (br_t (nI_le hm (by omega)) h)
def cx_it (v : Int32) : Nat → Nat → Int32
  | 0 => fun _ => 0
  | n + 1 => upd (cx_it v n) n v
theorem xo_init {post : St2 → Prop} {P E mc ms : Nat} {u : St1} (p1 : 1 ≤ P) (p2 : P ≤ 4) (e1 : 1 ≤ E) (e2 : E ≤ 6) (hmc : 10 ≤ mc) (hms : 4320 ≤ ms)
    (h : post (nI P, nI E, 0, 0, 0, -1, -1, (fun _ => 0), (fun _ => 0), (fun _ => 0), (fun _ => 0), (fun _ => 0), (fun _ => 0), cx_it (-2147483648) 4, cx_it 2147483647 4, (fun _ => 0), (fun _ => 0))) : wpX_init post mc ms u (nI P) (nI E) := by
  unfold wpX_init
  refine ⟨by omega, by omega, by omega, by omega, by omega, by omega, by omega, by omega, by omega, by omega, by omega, by omega, by omega, by omega, by omega, by omega, by omega, by omega, by omega, by omega, ?_⟩
  refine xo_clamp (m := 4) p1 p2 (by omega) (xo_clamp (m := 6) e1 e2 (by omega) ?_)
  refine cx_fold (σ := (Nat → Int32) × (Nat → Int32)) (fun n i s => wX_init_128 post mc ms 10 4320 (nI P) (nI E) 0 0 0 (-1) (-1) n (nI i) (fun _ => 0) (fun _ => 0) (fun _ => 0) (fun _ => 0) (fun _ => 0) (fun _ => 0) s.1 s.2 (fun _ => 0) (fun _ => 0)) 4
    (fun i => (cx_it (-2147483648) i, cx_it 2147483647 i)) (fun n => br_t (nI_le (a := 4) (b := 4) (Nat.le_refl _) (by omega)) h) (fun n i hi k => br_f (nI_ge (b := 4) hi (by omega)) ⟨vp_in_nI hi (by omega), ?_⟩)
  rw [nI_clamp (n := i) (by omega)]
  exact nm_e ⟨vp_in_nI hi (by omega), nm_e (nm_r (nI_1 i) k)⟩
section
variable {P E M j : Nat} {K : Nat → Nat} {v : Int32} {f_procs f_maxEvents f_messages f_mode f_threshold f_witnessCut f_pathSteps : Int32} {a_counts a_values a_stamps a_senders a_sendSlots a_received a_lows a_highs a_path a_avoidable : Nat → Int32}
theorem xo_proc {post : Int32 → Prop} (hj : j < P) (hP : P ≤ 4) (h : post 1) : wpX_isProcess post (nI P, f_maxEvents, f_messages, f_mode, f_threshold, f_witnessCut, f_pathSteps, a_counts, a_values, a_stamps, a_senders, a_sendSlots, a_received, a_lows, a_highs, a_path, a_avoidable) (nI j) :=
  br_f (nI_pos (by omega)) (br_f (nI_ge hj (by omega)) h)
theorem xo_count {post : Int32 → Prop} (hj : j < P) (hP : P ≤ 4) (hcn : ∀ i, a_counts i = nI (K i)) (h : post (nI (K j))) : wpX_eventCount post (nI P, f_maxEvents, f_messages, f_mode, f_threshold, f_witnessCut, f_pathSteps, a_counts, a_values, a_stamps, a_senders, a_sendSlots, a_received, a_lows, a_highs, a_path, a_avoidable) (nI j) := by
  unfold wpX_eventCount
  refine xo_proc hj hP (br_f xw_10 ⟨vp_in_nI (by omega) (by omega), ?_⟩)
  rw [nI_clamp (n := j) (by omega), hcn]
  exact h
theorem xo_stamp {post : Int32 → Prop} {k q : Nat} (hj : j < P) (hP : P ≤ 4) (hq : q < P) (hcn : ∀ i, a_counts i = nI (K i)) (hk : k < K j) (hK : K j ≤ 6) (h : post (a_stamps ((j * 7 + (k + 1)) * 4 + q))) : wpX_stamp post (nI P, f_maxEvents, f_messages, f_mode, f_threshold, f_witnessCut, f_pathSteps, a_counts, a_values, a_stamps, a_senders, a_sendSlots, a_received, a_lows, a_highs, a_path, a_avoidable) (nI j) (nI (k + 1)) (nI q) := by
  unfold wpX_stamp
  refine xo_proc hj hP (br_f xw_10 (xo_proc hq hP (br_f xw_10 (br_f (nI_nlt (b := 1) (by omega) (by omega)) ⟨vp_in_nI (by omega) (by omega), ?_⟩))))
  rw [nI_clamp (n := j) (by omega), hcn]
  refine br_t (nI_le (by omega) (by omega)) (xw_slot ?_)
  rw [cx_st, nI_clamp (n := (j * 7 + (k + 1)) * 4 + q) (by omega)]
  exact ⟨vp_in_nI (by omega) (by omega), h⟩
theorem xo_witness {post : Int32 → Prop} {c : Nat} (hc : c < 4096) (hj : j < P) (hP : P ≤ 4) (h : post (nI (cx_d8 c j))) : wpX_witness post (nI P, f_maxEvents, f_messages, f_mode, f_threshold, nI c, f_pathSteps, a_counts, a_values, a_stamps, a_senders, a_sendSlots, a_received, a_lows, a_highs, a_path, a_avoidable) (nI j) := by
  unfold wpX_witness
  exact br_f (cx_m1 (by omega)) (xo_proc hj hP (br_f xw_10 (xw_index hc (by omega) h)))
theorem xo_witness0 {post : Int32 → Prop} {x : Int32} (h : post (-1)) : wpX_witness post (f_procs, f_maxEvents, f_messages, f_mode, f_threshold, -1, f_pathSteps, a_counts, a_values, a_stamps, a_senders, a_sendSlots, a_received, a_lows, a_highs, a_path, a_avoidable) x := br_t rfl h
theorem xo_pathStep {post : Int32 → Prop} {T i : Nat} (hT : T ≤ 24) (hi : i < T) (h : post (a_path i)) : wpX_pathStep post (f_procs, f_maxEvents, f_messages, f_mode, f_threshold, f_witnessCut, nI T, a_counts, a_values, a_stamps, a_senders, a_sendSlots, a_received, a_lows, a_highs, a_path, a_avoidable) (nI i) := by
  unfold wpX_pathStep
  refine br_f (nI_pos (by omega)) (br_f (nI_ge hi (by omega)) ⟨vp_in_nI (by omega) (by omega), ?_⟩)
  rw [nI_clamp (n := i) (by omega)]
  exact h
theorem xo_pathStepE {post : Int32 → Prop} {T : Nat} (hT : T ≤ 24) (h : post (-1)) : wpX_pathStep post (f_procs, f_maxEvents, f_messages, f_mode, f_threshold, f_witnessCut, nI T, a_counts, a_values, a_stamps, a_senders, a_sendSlots, a_received, a_lows, a_highs, a_path, a_avoidable) (nI T) :=
  br_f (nI_pos (by omega)) (br_t (nI_le (Nat.le_refl T) (by omega)) h)
theorem xo_setInitial {post : Int32 → St2 → Prop} (hj : j < P) (hP : P ≤ 4) (hcn : ∀ i, a_counts i = nI (K i)) (hk : K j = 0) (h : post 1 (nI P, f_maxEvents, f_messages, f_mode, f_threshold, -1, -1, a_counts, upd a_values (j * 7 + 0) v, a_stamps, a_senders, a_sendSlots, a_received, a_lows, a_highs, a_path, a_avoidable)) :
    wpX_setInitial post (nI P, f_maxEvents, f_messages, f_mode, f_threshold, f_witnessCut, f_pathSteps, a_counts, a_values, a_stamps, a_senders, a_sendSlots, a_received, a_lows, a_highs, a_path, a_avoidable) (nI j) v := by
  unfold wpX_setInitial
  refine xo_proc hj hP (br_f xw_10 ⟨vp_in_nI (by omega) (by omega), ?_⟩)
  rw [nI_clamp (n := j) (by omega), hcn]
  refine br_t (nI_lt (b := 1) (by omega) (by omega)) (xw_slot (k := 0) ⟨vp_in_nI (by omega) (by omega), ?_⟩)
  rw [nI_clamp (n := j * 7 + 0) (by omega)]
  exact nm_e h
theorem xo_setBounds {post : Int32 → St2 → Prop} {x y : Int32} (hj : j < P) (hP : P ≤ 4) (h : post 1 (nI P, f_maxEvents, f_messages, f_mode, f_threshold, -1, -1, a_counts, a_values, a_stamps, a_senders, a_sendSlots, a_received, upd a_lows j x, upd a_highs j y, a_path, a_avoidable)) :
    wpX_setBounds post (nI P, f_maxEvents, f_messages, f_mode, f_threshold, f_witnessCut, f_pathSteps, a_counts, a_values, a_stamps, a_senders, a_sendSlots, a_received, a_lows, a_highs, a_path, a_avoidable) (nI j) x y := by
  unfold wpX_setBounds
  refine xo_proc hj hP (br_f xw_10 ⟨vp_in_nI (by omega) (by omega), ?_⟩)
  rw [nI_clamp (n := j) (by omega)]
  exact nm_e ⟨vp_in_nI (by omega) (by omega), nm_e h⟩
theorem xo_setPredicate {post : Int32 → St2 → Prop} {m t : Int32} (hm : m = 0 ∨ m = 1 ∨ m = 2) (h : post 1 (f_procs, f_maxEvents, f_messages, m, t, -1, -1, a_counts, a_values, a_stamps, a_senders, a_sendSlots, a_received, a_lows, a_highs, a_path, a_avoidable)) : wpX_setPredicate post (f_procs, f_maxEvents, f_messages, f_mode, f_threshold, f_witnessCut, f_pathSteps, a_counts, a_values, a_stamps, a_senders, a_sendSlots, a_received, a_lows, a_highs, a_path, a_avoidable) m t := by
  unfold wpX_setPredicate
  exact br_c (fun _ => h) (fun a => br_c (fun _ => h) (fun b => br_c (fun _ => h) (fun c => (hm.elim (fun z => absurd z a) (fun z => z.elim (fun z => absurd z b) (fun z => absurd z c))))))
theorem xo_local {post : Int32 → St2 → Prop} (hj : j < P) (hP : P ≤ 4) (hE : E ≤ 6) (hcn : ∀ i, a_counts i = nI (K i)) (hKE : ∀ p, K p ≤ E) (h0 : ∀ r, post r (nI P, nI E, f_messages, f_mode, f_threshold, f_witnessCut, f_pathSteps, a_counts, a_values, a_stamps, a_senders, a_sendSlots, a_received, a_lows, a_highs, a_path, a_avoidable))
    (h1 : K j < E → ∀ (r : Int32) (st' : Nat → Int32), (∀ s q, s ≠ j * 7 + (K j + 1) → q < 4 → st' (s * 4 + q) = a_stamps (s * 4 + q)) →
      post r (nI P, nI E, f_messages, f_mode, f_threshold, -1, -1, upd a_counts j (nI (K j + 1)), upd a_values (j * 7 + (K j + 1)) v, st', a_senders, a_sendSlots, a_received, a_lows, a_highs, a_path, a_avoidable)) :
    wpX_local post (nI P, nI E, f_messages, f_mode, f_threshold, f_witnessCut, f_pathSteps, a_counts, a_values, a_stamps, a_senders, a_sendSlots, a_received, a_lows, a_highs, a_path, a_avoidable) (nI j) v := by
  unfold wpX_local
  have kj := hKE j
  refine xw_room hP hE hcn hKE (fun i hi e hl => br_f xw_10 ?_) (fun o => br_t rfl (h0 _)) (fun i hi e hE => br_t rfl (h0 _))
  rw [nI_eq (by omega) (by omega)] at e
  subst e
  refine xw_event (cs := 0) hj hP (by omega) hcn (by omega) (by omega) (fun st' a b c => ?_)
  exact ⟨vp_in_nI (by omega) (by omega), h1 hl _ st' a⟩
theorem xo_send {post : Int32 → St2 → Prop} (hj : j < P) (hP : P ≤ 4) (hE : E ≤ 6) (hM : M ≤ 16) (hcn : ∀ i, a_counts i = nI (K i)) (hKE : ∀ p, K p ≤ E) (h0 : ∀ r, post r (nI P, nI E, nI M, f_mode, f_threshold, f_witnessCut, f_pathSteps, a_counts, a_values, a_stamps, a_senders, a_sendSlots, a_received, a_lows, a_highs, a_path, a_avoidable))
    (h1 : K j < E → M < 16 → ∀ (r : Int32) (st' : Nat → Int32), (∀ s q, s ≠ j * 7 + (K j + 1) → q < 4 → st' (s * 4 + q) = a_stamps (s * 4 + q)) →
      post r (nI P, nI E, nI (M + 1), f_mode, f_threshold, -1, -1, upd a_counts j (nI (K j + 1)), upd a_values (j * 7 + (K j + 1)) v, st', upd a_senders M (nI j), upd a_sendSlots M (nI (j * 7 + (K j + 1))), a_received, a_lows, a_highs, a_path, a_avoidable)) :
    wpX_send post (nI P, nI E, nI M, f_mode, f_threshold, f_witnessCut, f_pathSteps, a_counts, a_values, a_stamps, a_senders, a_sendSlots, a_received, a_lows, a_highs, a_path, a_avoidable) (nI j) v := by
  unfold wpX_send
  have kj := hKE j
  refine xw_room hP hE hcn hKE (fun i hi e hl => br_f xw_10 ?_) (fun o => br_t rfl (h0 _)) (fun i hi e hE => br_t rfl (h0 _))
  rw [nI_eq (by omega) (by omega)] at e
  subst e
  refine pk_lt M 16 (fun lt => ?_) (fun ge => h0 _)
  refine xw_event (cs := 0) hj hP (by omega) hcn (by omega) (by omega) (fun st' a b c => ?_)
  refine ⟨vp_in_nI (by omega) (by omega), ?_⟩
  rw [nI_clamp (n := M) (by omega)]
  refine nm_e ⟨vp_in_nI (by omega) (by omega), ?_⟩
  rw [nI_clamp (n := j) (by omega), pk_us (f := a_counts)]
  refine xw_slot ⟨vp_in_nI (by omega) (by omega), ?_⟩
  exact nm_e (nm_r (nI_1 M) (h1 hl lt _ st' a))
theorem xo_receive {post : Int32 → St2 → Prop} {x : Int32} (hj : j < P) (hP : P ≤ 4) (hE : E ≤ 6) (hM : M ≤ 16) (hcn : ∀ i, a_counts i = nI (K i)) (hKE : ∀ p, K p ≤ E) (hms : ∀ m, m < M → ∃ p k : Nat, p < P ∧ k < K p ∧ a_sendSlots m = nI (p * 7 + (k + 1)))
    (h0 : ∀ r, post r (nI P, nI E, nI M, f_mode, f_threshold, f_witnessCut, f_pathSteps, a_counts, a_values, a_stamps, a_senders, a_sendSlots, a_received, a_lows, a_highs, a_path, a_avoidable))
    (h1 : K j < E → ∀ (m : Nat) (r : Int32) (st' : Nat → Int32), (∀ s q, s ≠ j * 7 + (K j + 1) → q < 4 → st' (s * 4 + q) = a_stamps (s * 4 + q)) →
      post r (nI P, nI E, nI M, f_mode, f_threshold, -1, -1, upd a_counts j (nI (K j + 1)), upd a_values (j * 7 + (K j + 1)) v, st', a_senders, a_sendSlots, upd a_received m 1, a_lows, a_highs, a_path, a_avoidable)) :
    wpX_receive post (nI P, nI E, nI M, f_mode, f_threshold, f_witnessCut, f_pathSteps, a_counts, a_values, a_stamps, a_senders, a_sendSlots, a_received, a_lows, a_highs, a_path, a_avoidable) (nI j) x v := by
  unfold wpX_receive
  have kj := hKE j
  refine xw_room hP hE hcn hKE (fun i hi e hl => br_f xw_10 ?_) (fun o => br_t rfl (h0 _)) (fun i hi e hE => br_t rfl (h0 _))
  rw [nI_eq (by omega) (by omega)] at e
  subst e
  refine xw_pending hM (fun m hm e0 er => br_f xw_10 ?_) (fun o => br_t rfl (h0 _)) (fun m hm e0 er => br_t rfl (h0 _))
  subst e0
  obtain ⟨p', k', hp', hk', ess⟩ := hms m hm
  have k6 := hKE p'
  have hne7 : p' * 7 + (k' + 1) ≠ j * 7 + (K j + 1) := by
    by_cases e : p' = j
    · subst e
      omega
    · omega
  refine ⟨vp_in_nI (by omega) (by omega), ?_⟩
  rw [nI_clamp (n := m) (by omega)]
  refine br_c (fun _ => h0 _) (fun _ => ⟨vp_in_nI (by omega) (by omega), ?_⟩)
  rw [ess]
  refine nm_e ⟨vp_in_nI (by omega) (by omega), xw_event (cs := p' * 7 + (k' + 1)) hj hP (by omega) hcn (by omega) hne7 (fun st' a b c => ?_)⟩
  exact ⟨vp_in_nI (by omega) (by omega), h1 hl m _ st' a⟩
end
end
section
/-! the law's own numbering of cuts: P digits in base R, process 0 the lowest -/
def cx_dR (P R c p : Nat) : Nat := if p < P then c / R ^ p % R else 0
def cx_cs (R : Nat) (d : Nat → Nat) : Nat → Nat
  | 0 => 0
  | n + 1 => cx_cs R d n + d n * R ^ n
def cx_PR (P R : Nat) : Prop := (P = 1 ∧ R = 7) ∨ (P = 2 ∧ R = 7) ∨ (P = 3 ∧ R = 5) ∨ (P = 4 ∧ R = 3)
theorem cx_PR_b {P R : Nat} (h : cx_PR P R) : 1 ≤ P ∧ P ≤ 4 ∧ 2 ≤ R ∧ R ≤ 7 ∧ R ^ P ≤ 125 ∧ 0 < R ^ P := by
  rcases h with ⟨rfl, rfl⟩ | ⟨rfl, rfl⟩ | ⟨rfl, rfl⟩ | ⟨rfl, rfl⟩ <;> decide
def cx_Dg (P R : Nat) (d : Nat → Nat) : Prop := (∀ p, p < P → d p < R) ∧ ∀ p, P ≤ p → d p = 0
theorem cx_dR_Dg {P R c : Nat} (hR : 0 < R) : cx_Dg P R (cx_dR P R c) := by
  refine ⟨fun p hp => ?_, fun p hp => ?_⟩
  · unfold cx_dR
    rw [if_pos hp]
    exact Nat.mod_lt _ hR
  · unfold cx_dR
    rw [if_neg (by omega)]
theorem cx_Dg_8 {P R : Nat} {d : Nat → Nat} (h : cx_PR P R) (g : cx_Dg P R d) : cx_d8 (cx_c8 d) = d ∧ cx_c8 d < 4096 := by
  obtain ⟨b1, b2, b3, b4, b5, b6⟩ := cx_PR_b h
  have h8 : ∀ p, p < 4 → d p < 8 := fun p _ => by
    by_cases e : p < P
    · have := g.1 p e
      omega
    · rw [g.2 p (by omega)]
      omega
  exact ⟨cx_8_of h8 (fun p hp => g.2 p (by omega)), cx_c8_lt h8⟩
def cx_ck (P R : Nat) : Bool := (List.range (R ^ P)).all fun c => (List.range P).all fun p =>
  decide (cx_dR P R c p + 1 < R → c + R ^ p < R ^ P ∧ cx_dR P R (c + R ^ p) 0 = cx_up (cx_dR P R c) p 0 ∧ cx_dR P R (c + R ^ p) 1 = cx_up (cx_dR P R c) p 1 ∧ cx_dR P R (c + R ^ p) 2 = cx_up (cx_dR P R c) p 2 ∧ cx_dR P R (c + R ^ p) 3 = cx_up (cx_dR P R c) p 3)
theorem cx_ck_t {P R : Nat} (h : cx_PR P R) : cx_ck P R = true := by
  rcases h with ⟨rfl, rfl⟩ | ⟨rfl, rfl⟩ | ⟨rfl, rfl⟩ | ⟨rfl, rfl⟩ <;> decide +kernel
theorem cx_dR_step {P R c p : Nat} (h : cx_PR P R) (hc : c < R ^ P) (hp : p < P) (hd : cx_dR P R c p + 1 < R) : cx_dR P R (c + R ^ p) = cx_up (cx_dR P R c) p ∧ c + R ^ p < R ^ P := by
  have t := cx_ck_t h
  unfold cx_ck at t
  have t2 := List.all_eq_true.mp (List.all_eq_true.mp t c (List.mem_range.mpr hc)) p (List.mem_range.mpr hp)
  obtain ⟨t0, q0, q1, q2, q3⟩ := of_decide_eq_true t2 hd
  obtain ⟨b1, b2, b3, b4, b5, b6⟩ := cx_PR_b h
  refine ⟨funext fun q => ?_, t0⟩
  by_cases hq : q < 4
  · rcases cx_p4 hq with rfl | rfl | rfl | rfl
    · exact q0
    · exact q1
    · exact q2
    · exact q3
  · rw [cx_up_n (by omega), (cx_dR_Dg (by omega)).2 q (by omega), (cx_dR_Dg (by omega)).2 q (by omega)]
def cx_ck2 (P R : Nat) : Bool := (List.range (R ^ P)).all fun c => decide (cx_cs R (cx_dR P R c) P = c)
theorem cx_ck2_t {P R : Nat} (h : cx_PR P R) : cx_ck2 P R = true := by
  rcases h with ⟨rfl, rfl⟩ | ⟨rfl, rfl⟩ | ⟨rfl, rfl⟩ | ⟨rfl, rfl⟩ <;> decide +kernel
theorem cx_cs_c {P R c : Nat} (h : cx_PR P R) (hc : c < R ^ P) : cx_cs R (cx_dR P R c) P = c := by
  have t := cx_ck2_t h
  unfold cx_ck2 at t
  exact of_decide_eq_true (List.all_eq_true.mp t c (List.mem_range.mpr hc))
theorem cx_dR_of {P R : Nat} {d : Nat → Nat} (h : cx_PR P R) (g : cx_Dg P R d) : cx_dR P R (cx_cs R d P) = d ∧ cx_cs R d P < R ^ P := by
  obtain ⟨g1, g2⟩ := g
  rcases h with ⟨rfl, rfl⟩ | ⟨rfl, rfl⟩ | ⟨rfl, rfl⟩ | ⟨rfl, rfl⟩
  · have a0 := g1 0 (by omega)
    refine ⟨funext fun q => ?_, ?_⟩
    · by_cases hq : q < 1
      · have e : q = 0 := by omega
        subst e
        show (0 + d 0 * 1) / 1 % 7 = d 0
        omega
      · rw [g2 q (by omega)]
        exact if_neg hq
    · show 0 + d 0 * 1 < 7
      omega
  · have a0 := g1 0 (by omega)
    have a1 := g1 1 (by omega)
    refine ⟨funext fun q => ?_, ?_⟩
    · by_cases hq : q < 2
      · have e : q = 0 ∨ q = 1 := by omega
        rcases e with rfl | rfl
        · show (0 + d 0 * 1 + d 1 * 7) / 1 % 7 = d 0
          omega
        · show (0 + d 0 * 1 + d 1 * 7) / 7 % 7 = d 1
          omega
      · rw [g2 q (by omega)]
        exact if_neg hq
    · show 0 + d 0 * 1 + d 1 * 7 < 49
      omega
  · have a0 := g1 0 (by omega)
    have a1 := g1 1 (by omega)
    have a2 := g1 2 (by omega)
    refine ⟨funext fun q => ?_, ?_⟩
    · by_cases hq : q < 3
      · have e : q = 0 ∨ q = 1 ∨ q = 2 := by omega
        rcases e with rfl | rfl | rfl
        · show (0 + d 0 * 1 + d 1 * 5 + d 2 * 25) / 1 % 5 = d 0
          omega
        · show (0 + d 0 * 1 + d 1 * 5 + d 2 * 25) / 5 % 5 = d 1
          omega
        · show (0 + d 0 * 1 + d 1 * 5 + d 2 * 25) / 25 % 5 = d 2
          omega
      · rw [g2 q (by omega)]
        exact if_neg hq
    · show 0 + d 0 * 1 + d 1 * 5 + d 2 * 25 < 125
      omega
  · have a0 := g1 0 (by omega)
    have a1 := g1 1 (by omega)
    have a2 := g1 2 (by omega)
    have a3 := g1 3 (by omega)
    refine ⟨funext fun q => ?_, ?_⟩
    · by_cases hq : q < 4
      · rcases cx_p4 hq with rfl | rfl | rfl | rfl
        · show (0 + d 0 * 1 + d 1 * 3 + d 2 * 9 + d 3 * 27) / 1 % 3 = d 0
          omega
        · show (0 + d 0 * 1 + d 1 * 3 + d 2 * 9 + d 3 * 27) / 3 % 3 = d 1
          omega
        · show (0 + d 0 * 1 + d 1 * 3 + d 2 * 9 + d 3 * 27) / 9 % 3 = d 2
          omega
        · show (0 + d 0 * 1 + d 1 * 3 + d 2 * 9 + d 3 * 27) / 27 % 3 = d 3
          omega
      · rw [g2 q (by omega)]
        exact if_neg hq
    · show 0 + d 0 * 1 + d 1 * 3 + d 2 * 9 + d 3 * 27 < 81
      omega
/-! the lexicographic number of a cut, process 0 the highest -/
def cx_lx (P R : Nat) (d : Nat → Nat) : Nat → Nat
  | 0 => 0
  | n + 1 => cx_lx P R d n + d n * R ^ (P - 1 - n)
def cx_dB (P R e p : Nat) : Nat := if p < P then e / R ^ (P - 1 - p) % R else 0
def cx_fB (P R e : Nat) : Nat := cx_c8 (cx_dB P R e)
theorem cx_dB_of {P R : Nat} {d : Nat → Nat} (h : cx_PR P R) (g : cx_Dg P R d) : cx_dB P R (cx_lx P R d P) = d ∧ cx_lx P R d P < R ^ P := by
  obtain ⟨g1, g2⟩ := g
  rcases h with ⟨rfl, rfl⟩ | ⟨rfl, rfl⟩ | ⟨rfl, rfl⟩ | ⟨rfl, rfl⟩
  · have a0 := g1 0 (by omega)
    refine ⟨funext fun q => ?_, ?_⟩
    · by_cases hq : q < 1
      · have e : q = 0 := by omega
        subst e
        show (0 + d 0 * 1) / 1 % 7 = d 0
        omega
      · rw [g2 q (by omega)]
        exact if_neg hq
    · show 0 + d 0 * 1 < 7
      omega
  · have a0 := g1 0 (by omega)
    have a1 := g1 1 (by omega)
    refine ⟨funext fun q => ?_, ?_⟩
    · by_cases hq : q < 2
      · have e : q = 0 ∨ q = 1 := by omega
        rcases e with rfl | rfl
        · show (0 + d 0 * 7 + d 1 * 1) / 7 % 7 = d 0
          omega
        · show (0 + d 0 * 7 + d 1 * 1) / 1 % 7 = d 1
          omega
      · rw [g2 q (by omega)]
        exact if_neg hq
    · show 0 + d 0 * 7 + d 1 * 1 < 49
      omega
  · have a0 := g1 0 (by omega)
    have a1 := g1 1 (by omega)
    have a2 := g1 2 (by omega)
    refine ⟨funext fun q => ?_, ?_⟩
    · by_cases hq : q < 3
      · have e : q = 0 ∨ q = 1 ∨ q = 2 := by omega
        rcases e with rfl | rfl | rfl
        · show (0 + d 0 * 25 + d 1 * 5 + d 2 * 1) / 25 % 5 = d 0
          omega
        · show (0 + d 0 * 25 + d 1 * 5 + d 2 * 1) / 5 % 5 = d 1
          omega
        · show (0 + d 0 * 25 + d 1 * 5 + d 2 * 1) / 1 % 5 = d 2
          omega
      · rw [g2 q (by omega)]
        exact if_neg hq
    · show 0 + d 0 * 25 + d 1 * 5 + d 2 * 1 < 125
      omega
  · have a0 := g1 0 (by omega)
    have a1 := g1 1 (by omega)
    have a2 := g1 2 (by omega)
    have a3 := g1 3 (by omega)
    refine ⟨funext fun q => ?_, ?_⟩
    · by_cases hq : q < 4
      · rcases cx_p4 hq with rfl | rfl | rfl | rfl
        · show (0 + d 0 * 27 + d 1 * 9 + d 2 * 3 + d 3 * 1) / 27 % 3 = d 0
          omega
        · show (0 + d 0 * 27 + d 1 * 9 + d 2 * 3 + d 3 * 1) / 9 % 3 = d 1
          omega
        · show (0 + d 0 * 27 + d 1 * 9 + d 2 * 3 + d 3 * 1) / 3 % 3 = d 2
          omega
        · show (0 + d 0 * 27 + d 1 * 9 + d 2 * 3 + d 3 * 1) / 1 % 3 = d 3
          omega
      · rw [g2 q (by omega)]
        exact if_neg hq
    · show 0 + d 0 * 27 + d 1 * 9 + d 2 * 3 + d 3 * 1 < 81
      omega
def cx_ck3 (P R : Nat) : Bool := (List.range (R ^ P - 1)).all fun e => decide (cx_fB P R e < cx_fB P R (e + 1))
theorem cx_ck3_t {P R : Nat} (h : cx_PR P R) : cx_ck3 P R = true := by
  rcases h with ⟨rfl, rfl⟩ | ⟨rfl, rfl⟩ | ⟨rfl, rfl⟩ | ⟨rfl, rfl⟩ <;> decide +kernel
theorem cx_fB_m {P R a : Nat} (h : cx_PR P R) : ∀ b, a < b → b < R ^ P → cx_fB P R a < cx_fB P R b := by
  intro b
  induction b with
  | zero => intro z; omega
  | succ b ih =>
    intro l hb
    have t := cx_ck3_t h
    unfold cx_ck3 at t
    have s := of_decide_eq_true (List.all_eq_true.mp t b (List.mem_range.mpr (by omega)))
    by_cases e : a = b
    · rw [e]; exact s
    · exact Nat.lt_trans (ih (by omega) (by omega)) s
def cx_ky (P R : Nat) (d : Nat → Nat) : Nat := cx_lv d * R ^ P + cx_lx P R d P
theorem cx_ky_eq {P R : Nat} {d d' : Nat → Nat} (h : cx_PR P R) (g : cx_Dg P R d) (g' : cx_Dg P R d') (o : cx_lv d < cx_lv d' ∨ (cx_lv d = cx_lv d' ∧ cx_c8 d ≤ cx_c8 d')) (k : cx_ky P R d' ≤ cx_ky P R d) : d = d' := by
  obtain ⟨e, l⟩ := cx_dB_of h g
  obtain ⟨e', l'⟩ := cx_dB_of h g'
  unfold cx_ky at k
  have c1 : cx_fB P R (cx_lx P R d P) = cx_c8 d := congrArg cx_c8 e
  have c2 : cx_fB P R (cx_lx P R d' P) = cx_c8 d' := congrArg cx_c8 e'
  have m := cx_fB_m (a := cx_lx P R d' P) h (cx_lx P R d P)
  generalize hx : cx_lx P R d P = x at *
  generalize hx' : cx_lx P R d' P = x' at *
  have lv : cx_lv d = cx_lv d' := by
    rcases o with o | o
    · have q : (cx_lv d + 1) * R ^ P ≤ cx_lv d' * R ^ P := Nat.mul_le_mul_right _ o
      rw [Nat.add_mul] at q
      omega
    · exact o.1
  have c8 : cx_c8 d ≤ cx_c8 d' := by
    rcases o with o | o
    · omega
    · exact o.2
  rw [lv] at k
  have x1 : ¬ x' < x := fun z => by
    have := m z l
    omega
  have xe : x = x' := by omega
  rw [← e, ← e', xe]
/-! counting -/
def cx_sR (P R c : Nat) : Bool := (List.range 4).all fun p => if p < P then decide (cx_d8 c p < R) else decide (cx_d8 c p = 0)
theorem cx_sR_t {P R c : Nat} (g : cx_Dg P R (cx_d8 c)) : cx_sR P R c = true := by
  unfold cx_sR
  refine List.all_eq_true.mpr (fun p _ => ?_)
  by_cases e : p < P
  · rw [if_pos e]
    exact decide_eq_true (g.1 p e)
  · rw [if_neg e]
    exact decide_eq_true (g.2 p (by omega))
theorem cx_perm {P R : Nat} (h : cx_PR P R) : ((List.range 4096).filter (cx_sR P R)).isPerm ((List.range (R ^ P)).map (fun c => cx_c8 (cx_dR P R c))) = true := by
  rcases h with ⟨rfl, rfl⟩ | ⟨rfl, rfl⟩ | ⟨rfl, rfl⟩ | ⟨rfl, rfl⟩ <;> decide +kernel
theorem cx_n_R {P R : Nat} (h : cx_PR P R) (Q : (Nat → Nat) → Prop) (hq : ∀ d, Q d → (∀ p, 4 ≤ p → d p = 0) → cx_Dg P R d) : cx_n (fun c => Q (cx_d8 c)) 4096 = cx_n (fun c => Q (cx_dR P R c)) (R ^ P) := by
  obtain ⟨b1, b2, b3, b4, b5, b6⟩ := cx_PR_b h
  unfold cx_n
  have e1 : (List.range 4096).countP (fun c => cx_b (Q (cx_d8 c))) = ((List.range 4096).filter (cx_sR P R)).countP (fun c => cx_b (Q (cx_d8 c))) := by
    rw [List.countP_filter]
    apply List.countP_congr
    intro c _
    constructor
    · intro hb
      have hs := cx_sR_t (hq _ (cx_b_t.mp hb) (fun _ hp => cx_8_4 hp))
      rw [hb, hs]
      rfl
    · intro hb
      exact (Bool.and_eq_true_iff.mp hb).1
  rw [e1, (List.isPerm_iff.mp (cx_perm h)).countP_eq, List.countP_map]
  apply List.countP_congr
  intro c _
  show cx_b (Q (cx_d8 (cx_c8 (cx_dR P R c)))) = true ↔ cx_b (Q (cx_dR P R c)) = true
  rw [(cx_Dg_8 h (cx_dR_Dg (by omega))).1]
theorem cx_n_mono (Q : Nat → Prop) (a : Nat) : ∀ b, a ≤ b → cx_n Q a ≤ cx_n Q b := by
  intro b
  induction b with
  | zero =>
    intro l
    have : a = 0 := by omega
    subst this
    exact Nat.le_refl _
  | succ b ih =>
    intro l
    by_cases e : a = b + 1
    · subst e
      exact Nat.le_refl _
    · have i := ih (by omega)
      by_cases q : Q b
      · rw [cx_n_t q]
        omega
      · rw [cx_n_f q]
        exact i
end
section
/-! rows of the kit to paste: bits -/
theorem ts_nf {x : Bool} (h : ¬ x = false) : x = true := by cases x <;> first | rfl | exact absurd rfl h
theorem ts_nt {x : Bool} (h : ¬ x = true) : x = false := by cases x <;> first | rfl | exact absurd rfl h
theorem ts_bit {w : Int64} {s : UInt64} {j : Nat} (hj : j < 64) (hs : s.toNat = j) : ((w.toUInt64 >>> s).toInt64 &&& 1) = 0 ↔ w.toBitVec.getLsbD j = false := by
  have e : (w.toUInt64 >>> s).toInt64.toBitVec = w.toBitVec >>> j := by
    apply BitVec.eq_of_toNat_eq
    show (w.toUInt64 >>> s).toNat = _
    rw [UInt64.toNat_shiftRight, hs, Nat.mod_eq_of_lt hj, BitVec.toNat_ushiftRight]
    rfl
  rw [← Int64.toBitVec_inj, Int64.toBitVec_and, e]
  show w.toBitVec >>> j &&& 1#64 = 0#64 ↔ _
  constructor
  · intro h
    have t := congrArg (fun x => x.getLsbD 0) h
    simpa using t
  · intro h
    apply BitVec.eq_of_getLsbD_eq
    intro i hi
    cases i with
    | zero => simp [h]
    | succ i => simp
theorem wb_c : ∀ k, k < 64 → ((nI k).toInt64 &&& 63) = lN k := by decide +kernel
theorem wb_cu : ∀ k, k < 64 → ((nI k).toInt64.toUInt64 &&& Int64.toUInt64 63) = UInt64.ofNat k := by decide +kernel
theorem u_tn {n : Nat} (h : n < 2 ^ 64) : (UInt64.ofNat n).toNat = n := Nat.mod_eq_of_lt h
/-! the law's own helpers -/
def cx_cl (L : Nat) (xs : Nat → Int32) (k : Nat) : Int32 := if k < L then xs k else 0
def cx_vl (L : Nat) (xs : Nat → Int32) (p k : Nat) : Int32 := (cx_cl L xs (8 + p * 8 + k) &&& 15) - 8
def cx_lo (L : Nat) (xs : Nat → Int32) (p : Nat) : Int32 := (cx_cl L xs (40 + p) &&& 15) - 8
def cx_hi (L : Nat) (xs : Nat → Int32) (p : Nat) : Int32 := (cx_lo L xs p + (cx_cl L xs (44 + p) &&& 15)) - 2
theorem la_cell {post : Int32 → Prop} {L k : Nat} {xs : Nat → Int32} (hL : L ≤ 260) (hk : k < 2 ^ 31) (h : post (cx_cl L xs k)) : wpL_cell post L xs () (nI k) := by
  unfold cx_cl at h
  unfold wpL_cell
  refine pk_le L k (fun le => ?_) (fun lt => ⟨vp_in_nI lt (by omega), ?_⟩)
  · rw [if_neg (by omega)] at h
    exact h
  · rw [if_pos lt] at h
    rw [nI_clamp hk]
    exact h
theorem la_pw {post : Int32 → Prop} {r e : Nat} (he : e < 2 ^ 31) (h : post (nI (r ^ e))) : wpL_pw post () (nI r) (nI e) :=
  cx_fold (fun n i s => wL_pw_4 post (nI r) (nI e) n s (nI i)) e (fun i => nI (r ^ i)) (fun n => br_t (nI_le (Nat.le_refl e) he) h)
    (fun n i hi k => br_f (nI_ge hi he) (nm_r (pk_mul (r ^ i) r) (nm_r (nI_1 i) k)))
theorem cx_pw_b {R p : Nat} (h1 : 2 ≤ R) (hR : R ≤ 7) (hp : p ≤ 4) : 0 < R ^ p ∧ R ^ p ≤ 2401 :=
  ⟨Nat.pow_pos (by omega), Nat.le_trans (Nat.pow_le_pow_left hR p) (show 7 ^ p ≤ 7 ^ 4 from Nat.pow_le_pow_right (by omega) hp)⟩
theorem la_comp {post : Int32 → Prop} {c p R : Nat} (h1 : 2 ≤ R) (hR : R ≤ 7) (hp : p ≤ 4) (hc : c < 2401) (h : post (nI (c / R ^ p % R))) : wpL_comp post () (nI c) (nI p) (nI R) := by
  obtain ⟨b1, b2⟩ := cx_pw_b (p := p) h1 hR hp
  unfold wpL_comp
  refine la_pw (by omega) ?_
  generalize R ^ p = w at *
  have := Nat.div_le_self c w
  refine ⟨nI_ne0 b1 (by omega), nI_ne0 (by omega) (by omega), ?_⟩
  rw [pk_div (by omega) b1 (by omega), pk_rem (by omega) (by omega) (by omega)]
  exact h
theorem la_compD {post : Int32 → Prop} {P R c p : Nat} (hb : cx_PR P R) (hc : c < R ^ P) (hp : p < 4) (h : post (nI (cx_dR P R c p))) : wpL_comp post () (nI c) (nI p) (nI R) := by
  obtain ⟨b1, b2, b3, b4, b5, b6⟩ := cx_PR_b hb
  refine la_comp b3 b4 (by omega) (by omega) ?_
  unfold cx_dR at h
  by_cases e : p < P
  · rw [if_pos e] at h
    exact h
  · rw [if_neg e] at h
    have l : R ^ P ≤ R ^ p := Nat.pow_le_pow_right (by omega) (by omega)
    rw [Nat.div_eq_of_lt (Nat.lt_of_lt_of_le hc l), Nat.zero_mod]
    exact h
theorem la_pick {post : Int32 → Prop} {K : Nat → Nat} {p : Nat} (hp : p < 4) (h : post (nI (K p))) : wpL_pick post () (nI (K 0)) (nI (K 1)) (nI (K 2)) (nI (K 3)) (nI p) := by
  unfold wpL_pick
  rcases cx_p4 hp with rfl | rfl | rfl | rfl
  · exact br_t rfl h
  · exact br_f (by decide) (br_t rfl h)
  · exact br_f (by decide) (br_f (by decide) (br_t rfl h))
  · exact br_f (by decide) (br_f (by decide) (br_f (by decide) h))
theorem la_val {post : Int32 → Prop} {L p k : Nat} {xs : Nat → Int32} (hL : L ≤ 260) (hp : p < 4) (hk : k ≤ 8) (h : post (cx_vl L xs p k)) : wpL_val post L xs () (nI p) (nI k) := by
  unfold wpL_val
  have e1 : nI p * 8 = nI (p * 8) := pk_mul p 8
  have e2 : 8 + nI (p * 8) = nI (8 + p * 8) := nI_add 8 (p * 8)
  rw [e1, e2, nI_add]
  exact la_cell hL (by omega) h
theorem la_lo {post : Int32 → Prop} {L p : Nat} {xs : Nat → Int32} (hL : L ≤ 260) (hp : p < 4) (h : post (cx_lo L xs p)) : wpL_lo post L xs () (nI p) := by
  unfold wpL_lo
  have e : 40 + nI p = nI (40 + p) := nI_add 40 p
  rw [e]
  exact la_cell hL (by omega) h
theorem la_hi {post : Int32 → Prop} {L p : Nat} {xs : Nat → Int32} (hL : L ≤ 260) (hp : p < 4) (h : post (cx_hi L xs p)) : wpL_hi post L xs () (nI p) := by
  unfold wpL_hi
  refine la_lo hL hp ?_
  have e : 44 + nI p = nI (44 + p) := nI_add 44 p
  rw [e]
  exact la_cell hL (by omega) h
theorem cx_i_s {B : Nat → Prop} {i : Nat} (b : B i) : cx_i (∀ p, p < i → B p) = cx_i (∀ p, p < i + 1 → B p) := cx_i_c ⟨fun h => lt_s h b, fun h p hp => h p (by omega)⟩
theorem cx_i_n {B : Nat → Prop} {i : Nat} (b : ¬ B i) : (0 : Int32) = cx_i (∀ p, p < i + 1 → B p) := (cx_i_f (fun h => b (h i (by omega)))).symm
theorem la_sat {post : Int32 → Prop} {L P R c : Nat} {xs va lo hi : Nat → Int32} {md th : Int32} (hL : L ≤ 260) (hb : cx_PR P R) (hc : c < R ^ P) (hva : ∀ p, p < P → va (p * 7 + cx_dR P R c p) = cx_vl L xs p (cx_dR P R c p))
    (hlo : ∀ p, p < P → lo p = cx_lo L xs p) (hhi : ∀ p, p < P → hi p = cx_hi L xs p) (hT : cx_Sa P md th va lo hi (cx_dR P R c) → post 1) (hF : ¬ cx_Sa P md th va lo hi (cx_dR P R c) → post 0) :
    wpL_sat post L xs () md th (nI P) (nI R) (nI c) := by
  obtain ⟨b1, b2, b3, b4, b5, b6⟩ := cx_PR_b hb
  have F := cx_fold (σ := Int64 × Int32) (fun n i s => wL_sat_9 post L xs md th (nI P) (nI R) (nI c) n s.1 s.2 (nI i)) P
    (fun i => (cx_Sm va (cx_dR P R c) i, cx_i (∀ p, p < i → ¬ va (p * 7 + cx_dR P R c p) < lo p ∧ va (p * 7 + cx_dR P R c p) ≤ hi p)))
    (fun n => br_t (nI_le (Nat.le_refl P) (by omega)) (br_c (fun m0 => ?_) (fun m0 => br_c (fun m1 => ?_) (fun m1 => ?_))))
    (fun n i hi' k => br_f (nI_ge hi' (by omega)) (la_compD hb hc (by omega) ?_))
  · obtain ⟨n, hn⟩ := F
    have hn' : wL_sat_9 post L xs md th (nI P) (nI R) (nI c) n 0 (cx_i (∀ p, p < 0 → ¬ va (p * 7 + cx_dR P R c p) < lo p ∧ va (p * 7 + cx_dR P R c p) ≤ hi p)) 0 := hn
    rw [cx_i_t (fun p hp => absurd hp (Nat.not_lt_zero p))] at hn'
    exact ⟨n, hn'⟩
  · by_cases w : cx_Wb P va lo hi (cx_dR P R c)
    · have e : cx_i (∀ p, p < P → ¬ va (p * 7 + cx_dR P R c p) < lo p ∧ va (p * 7 + cx_dR P R c p) ≤ hi p) = 1 := cx_i_t w
      rw [e]
      show narrow .boolean (.int 1) = .int 1 ∧ post 1
      exact ⟨rfl, hT ⟨fun _ => w, fun n => absurd m0 n⟩⟩
    · have e : cx_i (∀ p, p < P → ¬ va (p * 7 + cx_dR P R c p) < lo p ∧ va (p * 7 + cx_dR P R c p) ≤ hi p) = 0 := cx_i_f w
      rw [e]
      show narrow .boolean (.int 0) = .int 0 ∧ post 0
      exact ⟨rfl, hF (fun s => w (s.1 m0))⟩
  · exact br_c (fun l => hF (fun s => (s.2 m0).1 m1 l)) (fun l => hT ⟨fun z => absurd z m0, fun _ => ⟨fun _ => l, fun n => absurd m1 n⟩⟩)
  · exact br_c (fun l => hF (fun s => (s.2 m0).2 m1 l)) (fun l => hT ⟨fun z => absurd z m0, fun _ => ⟨fun z => absurd z m1, fun _ => l⟩⟩)
  · have g := (cx_dR_Dg (P := P) (R := R) (c := c) (by omega)).1 i hi'
    refine la_val hL (by omega) (by omega) ?_
    rw [← hva i hi']
    refine nm_e (la_lo hL (by omega) ?_)
    rw [← hlo i hi']
    refine br_c (fun l => nm_r (nI_1 i) ?_) (fun nl => la_hi hL (by omega) ?_)
    · have e := cx_i_n (B := fun p => ¬ va (p * 7 + cx_dR P R c p) < lo p ∧ va (p * 7 + cx_dR P R c p) ≤ hi p) (i := i) (fun z => z.1 l)
      rw [e]
      exact k
    · rw [← hhi i hi']
      refine br_c (fun le => nm_r (nI_1 i) ?_) (fun nle => nm_r (nI_1 i) ?_)
      · have e := cx_i_s (B := fun p => ¬ va (p * 7 + cx_dR P R c p) < lo p ∧ va (p * 7 + cx_dR P R c p) ≤ hi p) (i := i) ⟨nl, le⟩
        show wL_sat_9 post L xs md th (nI P) (nI R) (nI c) n _ (cx_i (∀ p, p < i → ¬ va (p * 7 + cx_dR P R c p) < lo p ∧ va (p * 7 + cx_dR P R c p) ≤ hi p)) _
        rw [e]
        exact k
      · have e := cx_i_n (B := fun p => ¬ va (p * 7 + cx_dR P R c p) < lo p ∧ va (p * 7 + cx_dR P R c p) ≤ hi p) (i := i) (fun z => nle z.2)
        rw [e]
        exact k
/-! the law's 128 bits -/
def cx_bt (a b : Int64) (i : Nat) : Bool := if i < 64 then a.toBitVec.getLsbD i else b.toBitVec.getLsbD (i - 64)
theorem la_bit {post : Int32 → Prop} {a b : Int64} {i : Nat} (hi : i < 128) (h1 : cx_bt a b i = true → post 1) (h0 : cx_bt a b i = false → post 0) : wpL_bit post () a b (nI i) := by
  unfold cx_bt at h1 h0
  unfold wpL_bit
  refine pk_le 64 i (fun le => ?_) (fun lt => ?_)
  · rw [if_neg (by omega)] at h1 h0
    have e : nI i - 64 = nI (i - 64) := pk_sub (b := 64) le
    rw [e, wb_cu (i - 64) (by omega)]
    exact ek_if (ts_bit (j := i - 64) (by omega) (u_tn (by omega))) h0 (fun z => h1 (ts_nf z))
  · rw [if_pos lt] at h1 h0
    rw [wb_cu i lt]
    exact ek_if (ts_bit (j := i) lt (u_tn (by omega))) h0 (fun z => h1 (ts_nf z))
theorem cx_tp : ∀ k, k < 64 → ((1 : Int64) <<< ((nI k).toInt64 &&& 63)).toBitVec = BitVec.twoPow 64 k := by decide +kernel
theorem cx_or (w : Int64) {k : Nat} (hk : k < 64) (j : Nat) (hj : j < 64) : (w ||| ((1 : Int64) <<< ((nI k).toInt64 &&& 63))).toBitVec.getLsbD j = (w.toBitVec.getLsbD j || decide (j = k)) := by
  rw [Int64.toBitVec_or, BitVec.getLsbD_or, cx_tp k hk, BitVec.getLsbD_twoPow]
  by_cases e : j = k
  · subst e
    simp [hj]
  · have e' : ¬ k = j := fun z => e z.symm
    simp [e, e']
theorem cx_set_lo (a b : Int64) {k : Nat} (hk : k < 64) : ∀ j, j < 128 → cx_bt (a ||| ((1 : Int64) <<< ((nI k).toInt64 &&& 63))) b j = (cx_bt a b j || decide (j = k)) := by
  intro j hj
  unfold cx_bt
  by_cases l : j < 64
  · rw [if_pos l, if_pos l, cx_or a hk j l]
  · rw [if_neg l, if_neg l, decide_eq_false (show ¬ j = k by omega), Bool.or_false]
theorem cx_set_hi (a b : Int64) {k : Nat} (h64 : 64 ≤ k) (hk : k < 128) : ∀ j, j < 128 → cx_bt a (b ||| ((1 : Int64) <<< ((nI k - 64).toInt64 &&& 63))) j = (cx_bt a b j || decide (j = k)) := by
  intro j hj
  have e : nI k - 64 = nI (k - 64) := pk_sub (b := 64) h64
  rw [e]
  unfold cx_bt
  by_cases l : j < 64
  · rw [if_pos l, if_pos l, decide_eq_false (show ¬ j = k by omega), Bool.or_false]
  · rw [if_neg l, if_neg l, cx_or b (by omega) (j - 64) (by omega)]
    by_cases e : j = k
    · rw [decide_eq_true (show j - 64 = k - 64 by omega), decide_eq_true e]
    · rw [decide_eq_false (show ¬ j - 64 = k - 64 by omega), decide_eq_false e]
end
section
/-! one cut of the law's walk over all cuts -/
def cx_Env (L : Nat) (xs : Nat → Int32) (P R : Nat) (K : Nat → Nat) (cn va st lo hi : Nat → Int32) : Prop :=
  L ≤ 260 ∧ cx_PR P R ∧ (∀ i, cn i = nI (K i)) ∧ (∀ p, K p < R) ∧ (∀ p, P ≤ p → K p = 0) ∧ (∀ p, p < P → ∀ k, k ≤ K p → va (p * 7 + k) = cx_vl L xs p k) ∧
  (∀ p, p < P → lo p = cx_lo L xs p ∧ hi p = cx_hi L xs p) ∧ (∀ p, p < P → ∀ q, q < P → st ((p * 7 + 0) * 4 + q) = 0)
theorem cx_Env_6 {L : Nat} {xs : Nat → Int32} {P R : Nat} {K : Nat → Nat} {cn va st lo hi : Nat → Int32} (E : cx_Env L xs P R K cn va st lo hi) : ∀ p, p < 4 → K p ≤ 6 := fun p _ => by
  have a := E.2.2.2.1 p
  have b := (cx_PR_b E.2.1).2.2.2.1
  omega
theorem cx_V_Dg {P R : Nat} {K : Nat → Nat} {d : Nat → Nat} (hK : ∀ p, K p < R) (hz : ∀ p, P ≤ p → K p = 0) (v : cx_Va K d) (h4 : ∀ p, 4 ≤ p → d p = 0) (hP : P ≤ 4) : cx_Dg P R d := by
  refine ⟨fun p hp => ?_, fun p hp => ?_⟩
  · have a := v p (by omega)
    have b := hK p
    omega
  · by_cases e : p < 4
    · have a := v p e
      have b := hz p hp
      omega
    · exact h4 p (by omega)
theorem cx_pl_P {P R : Nat} {d : Nat → Nat} (h : cx_PR P R) (g : cx_Dg P R d) : cx_pl d P = cx_lv d := by
  obtain ⟨g1, g2⟩ := g
  unfold cx_lv
  rcases h with ⟨rfl, rfl⟩ | ⟨rfl, rfl⟩ | ⟨rfl, rfl⟩ | ⟨rfl, rfl⟩
  · have a1 := g2 1 (by omega)
    have a2 := g2 2 (by omega)
    have a3 := g2 3 (by omega)
    show 0 + d 0 = _
    omega
  · have a2 := g2 2 (by omega)
    have a3 := g2 3 (by omega)
    show 0 + d 0 + d 1 = _
    omega
  · have a3 := g2 3 (by omega)
    show 0 + d 0 + d 1 + d 2 = _
    omega
  · show 0 + d 0 + d 1 + d 2 + d 3 = _
    omega
theorem cx_Fin {P R c : Nat} {K : Nat → Nat} (hb : cx_PR P R) (hc : c < R ^ P) (hK : ∀ p, K p < R) (hz : ∀ p, P ≤ p → K p = 0) : c = cx_cs R K P ↔ (∀ p, p < 4 → cx_dR P R c p = K p) := by
  obtain ⟨b1, b2, b3, b4, b5, b6⟩ := cx_PR_b hb
  constructor
  · intro e p _
    rw [e, (cx_dR_of hb ⟨fun p _ => hK p, hz⟩).1]
  · intro f
    have e : cx_dR P R c = K := funext fun p => by
      by_cases hp : p < 4
      · exact f p hp
      · rw [(cx_dR_Dg (by omega)).2 p (by omega), hz p (by omega)]
    rw [← e, cx_cs_c hb hc]
section
variable {post : Int32 → Prop} {L P R c kc ks : Nat} {K : Nat → Nat} {xs : Nat → Int32} {J170 : Int32 → Int32 → Int32 → Int32 → Int32 → Int32 → Int32 → Int32 → (Nat → Int32) → (Nat → Int32) → (Nat → Int32) → (Nat → Int32) → (Nat → Int32) → (Nat → Int32) → (Nat → Int32) → (Nat → Int32) → (Nat → Int32) → (Nat → Int32) → Prop} {J423 : Int32 → Int32 → Int32 → Int64 → Int64 → Int64 → Int32 → Prop} {x8 x9 x16 x17 x18 : Int32} {x19 x21 x23 : Int64} {f_procs f_maxEvents f_messages f_mode f_threshold f_witnessCut f_pathSteps : Int32} {a_counts a_values a_stamps a_senders a_sendSlots a_received a_lows a_highs a_path a_avoidable : Nat → Int32}
theorem la_675 (hb : cx_PR P R) (hc : c < R ^ P)
    (k1 : x19 ≤ lN (cx_ky P R (cx_dR P R c)) → J423 x16 x17 x18 x19 x21 x23 (nI c + (-1))) (k2 : ¬ x19 ≤ lN (cx_ky P R (cx_dR P R c)) → J423 x16 x17 (nI c) (lN (cx_ky P R (cx_dR P R c))) x21 x23 (nI c + (-1))) :
    ∃ n, wL_law_675 post L xs J170 J423 (nI P) (nI R) (nI (R ^ P)) f_mode f_threshold x8 x9 (nI (K 0)) (nI (K 1)) (nI (K 2)) (nI (K 3)) (nI (cx_cs R K P)) (nI (cx_lv K)) x16 x17 x18 x19 x21 x23 (nI c) kc ks (nI P) f_maxEvents f_messages f_mode f_threshold f_witnessCut f_pathSteps a_counts a_values a_stamps a_senders a_sendSlots a_received a_lows a_highs a_path a_avoidable n 0 0 0 := by
  obtain ⟨b1, b2, b3, b4, b5, b6⟩ := cx_PR_b hb
  refine cx_fold (σ := Int64 × Int64) (fun n i s => wL_law_675 post L xs J170 J423 (nI P) (nI R) (nI (R ^ P)) f_mode f_threshold x8 x9 (nI (K 0)) (nI (K 1)) (nI (K 2)) (nI (K 3)) (nI (cx_cs R K P)) (nI (cx_lv K)) x16 x17 x18 x19 x21 x23 (nI c) kc ks (nI P) f_maxEvents f_messages f_mode f_threshold f_witnessCut f_pathSteps a_counts a_values a_stamps a_senders a_sendSlots a_received a_lows a_highs a_path a_avoidable n s.1 s.2 (nI i)) P (fun i => (lN (cx_pl (cx_dR P R c) i), lN (cx_lx P R (cx_dR P R c) i)))
    (fun n => br_t (nI_le (Nat.le_refl P) (by omega)) ?_) (fun n i hi k => br_f (nI_ge hi (by omega)) (la_compD hb hc (by omega) ?_))
  · refine nm_r (e' := lN (cx_ky P R (cx_dR P R c))) ?_ (br_c (fun h => nm_e (k1 h)) (fun h => nm_e (k2 h)))
    show lN (cx_pl (cx_dR P R c) P) * (nI (R ^ P)).toInt64 + lN (cx_lx P R (cx_dR P R c) P) = _
    rw [nI_l (by omega), lN_mul, lN_add, cx_pl_P hb (cx_dR_Dg (by omega))]
    rfl
  · have g := (cx_dR_Dg (P := P) (R := R) (c := c) (by omega)).1 i hi
    have e1 : nI P - 1 = nI (P - 1) := pk_sub (b := 1) b1
    have e2 : nI (P - 1) - nI i = nI (P - 1 - i) := pk_sub (by omega)
    obtain ⟨w1, w2⟩ := cx_pw_b (R := R) (p := P - 1 - i) b3 b4 (by omega)
    refine nm_r (e' := lN (cx_pl (cx_dR P R c) (i + 1))) (by rw [nI_l (by omega), lN_add]; rfl) (la_compD hb hc (by omega) ?_)
    rw [e1, e2]
    refine la_pw (by omega) (nm_r (e' := lN (cx_lx P R (cx_dR P R c) (i + 1))) ?_ (nm_r (nI_1 i) k))
    rw [nI_l (by omega), nI_l (by omega), lN_mul, lN_add]
    rfl
theorem la_774 {G : (Nat → Nat) → Prop} (hb : cx_PR P R) (hc : c < R ^ P) (hK : ∀ p, K p < R) (hz : ∀ p, P ≤ p → K p = 0) (hG : ∀ d, G d → ∀ p, p < 4 → d p ≤ K p) (g : G (cx_dR P R c))
    (hbit : ∀ j, c < j → j < R ^ P → (cx_bt x21 x23 j = true ↔ cx_R G K P (cx_dR P R j)))
    (k1 : cx_R G K P (cx_dR P R c) → ∀ a b : Int64, (∀ j, j < 128 → cx_bt a b j = (cx_bt x21 x23 j || decide (j = c))) → J423 x16 x17 x18 x19 a b (nI c + (-1)))
    (k0 : ¬ cx_R G K P (cx_dR P R c) → J423 x16 x17 x18 x19 x21 x23 (nI c + (-1))) :
    ∃ n, wL_law_774 post L xs J170 J423 (nI P) (nI R) (nI (R ^ P)) f_mode f_threshold x8 x9 (nI (K 0)) (nI (K 1)) (nI (K 2)) (nI (K 3)) (nI (cx_cs R K P)) (nI (cx_lv K)) x16 x17 x18 x19 x21 x23 (nI c) kc ks (nI P) f_maxEvents f_messages f_mode f_threshold f_witnessCut f_pathSteps a_counts a_values a_stamps a_senders a_sendSlots a_received a_lows a_highs a_path a_avoidable n (cx_i (c = cx_cs R K P)) 0 := by
  obtain ⟨b1, b2, b3, b4, b5, b6⟩ := cx_PR_b hb
  have hK6 : ∀ p, p < 4 → K p ≤ 6 := fun p _ => by have := hK p; omega
  have Ri := cx_R_iff hG b2 hK6 (cx_dR P R c)
  have fi := cx_Fin hb hc hK hz
  have F := cx_fold (fun n i s => wL_law_774 post L xs J170 J423 (nI P) (nI R) (nI (R ^ P)) f_mode f_threshold x8 x9 (nI (K 0)) (nI (K 1)) (nI (K 2)) (nI (K 3)) (nI (cx_cs R K P)) (nI (cx_lv K)) x16 x17 x18 x19 x21 x23 (nI c) kc ks (nI P) f_maxEvents f_messages f_mode f_threshold f_witnessCut f_pathSteps a_counts a_values a_stamps a_senders a_sendSlots a_received a_lows a_highs a_path a_avoidable n s (nI i)) P (fun i => cx_i (c = cx_cs R K P ∨ ∃ p, p < i ∧ cx_dR P R c p < K p ∧ cx_R G K P (cx_up (cx_dR P R c) p)))
    (fun n => br_t (nI_le (Nat.le_refl P) (by omega)) ?_) (fun n i hi k => br_f (nI_ge hi (by omega)) ?_)
  · obtain ⟨n, hn⟩ := F
    have hn' : wL_law_774 post L xs J170 J423 (nI P) (nI R) (nI (R ^ P)) f_mode f_threshold x8 x9 (nI (K 0)) (nI (K 1)) (nI (K 2)) (nI (K 3)) (nI (cx_cs R K P)) (nI (cx_lv K)) x16 x17 x18 x19 x21 x23 (nI c) kc ks (nI P) f_maxEvents f_messages f_mode f_threshold f_witnessCut f_pathSteps a_counts a_values a_stamps a_senders a_sendSlots a_received a_lows a_highs a_path a_avoidable n (cx_i (c = cx_cs R K P ∨ ∃ p, p < 0 ∧ cx_dR P R c p < K p ∧ cx_R G K P (cx_up (cx_dR P R c) p))) 0 := hn
    have e : cx_i (c = cx_cs R K P ∨ ∃ p, p < 0 ∧ cx_dR P R c p < K p ∧ cx_R G K P (cx_up (cx_dR P R c) p)) = cx_i (c = cx_cs R K P) := cx_i_c ⟨fun z => z.elim id (fun w => by obtain ⟨p, hp, _⟩ := w; omega), Or.inl⟩
    rw [e] at hn'
    exact ⟨n, hn'⟩
  · have Rc : (c = cx_cs R K P ∨ ∃ p, p < P ∧ cx_dR P R c p < K p ∧ cx_R G K P (cx_up (cx_dR P R c) p)) ↔ cx_R G K P (cx_dR P R c) := by
      rw [Ri, fi]
      exact ⟨fun z => ⟨g, z⟩, fun z => z.2⟩
    by_cases r : cx_R G K P (cx_dR P R c)
    · have e : cx_i (c = cx_cs R K P ∨ ∃ p, p < P ∧ cx_dR P R c p < K p ∧ cx_R G K P (cx_up (cx_dR P R c) p)) = 1 := cx_i_t (Rc.mpr r)
      rw [e]
      refine br_f xw_10 (pk_le 64 c (fun le => nm_e (nm_e (k1 r _ _ (cx_set_hi x21 x23 le (by omega))))) (fun lt => nm_e (nm_e (k1 r _ _ (cx_set_lo x21 x23 lt)))))
    · have e : cx_i (c = cx_cs R K P ∨ ∃ p, p < P ∧ cx_dR P R c p < K p ∧ cx_R G K P (cx_up (cx_dR P R c) p)) = 0 := cx_i_f (fun z => r (Rc.mp z))
      rw [e]
      exact br_t rfl (nm_e (k0 r))
  · by_cases o : c = cx_cs R K P ∨ ∃ p, p < i ∧ cx_dR P R c p < K p ∧ cx_R G K P (cx_up (cx_dR P R c) p)
    · have e : cx_i (c = cx_cs R K P ∨ ∃ p, p < i ∧ cx_dR P R c p < K p ∧ cx_R G K P (cx_up (cx_dR P R c) p)) = 1 := cx_i_t o
      have e' : cx_i (c = cx_cs R K P ∨ ∃ p, p < i + 1 ∧ cx_dR P R c p < K p ∧ cx_R G K P (cx_up (cx_dR P R c) p)) = 1 := cx_i_t (o.elim Or.inl (fun w => by obtain ⟨p, hp, s⟩ := w; exact Or.inr ⟨p, by omega, s⟩))
      have k' : wL_law_774 post L xs J170 J423 (nI P) (nI R) (nI (R ^ P)) f_mode f_threshold x8 x9 (nI (K 0)) (nI (K 1)) (nI (K 2)) (nI (K 3)) (nI (cx_cs R K P)) (nI (cx_lv K)) x16 x17 x18 x19 x21 x23 (nI c) kc ks (nI P) f_maxEvents f_messages f_mode f_threshold f_witnessCut f_pathSteps a_counts a_values a_stamps a_senders a_sendSlots a_received a_lows a_highs a_path a_avoidable n (cx_i (c = cx_cs R K P ∨ ∃ p, p < i + 1 ∧ cx_dR P R c p < K p ∧ cx_R G K P (cx_up (cx_dR P R c) p))) (nI (i + 1)) := k
      rw [e'] at k'
      rw [e]
      exact br_f xw_10 (nm_r (nI_1 i) k')
    · have e : cx_i (c = cx_cs R K P ∨ ∃ p, p < i ∧ cx_dR P R c p < K p ∧ cx_R G K P (cx_up (cx_dR P R c) p)) = 0 := cx_i_f o
      have k' : wL_law_774 post L xs J170 J423 (nI P) (nI R) (nI (R ^ P)) f_mode f_threshold x8 x9 (nI (K 0)) (nI (K 1)) (nI (K 2)) (nI (K 3)) (nI (cx_cs R K P)) (nI (cx_lv K)) x16 x17 x18 x19 x21 x23 (nI c) kc ks (nI P) f_maxEvents f_messages f_mode f_threshold f_witnessCut f_pathSteps a_counts a_values a_stamps a_senders a_sendSlots a_received a_lows a_highs a_path a_avoidable n (cx_i (c = cx_cs R K P ∨ ∃ p, p < i + 1 ∧ cx_dR P R c p < K p ∧ cx_R G K P (cx_up (cx_dR P R c) p))) (nI (i + 1)) := k
      have kn : ¬ (cx_dR P R c i < K i ∧ cx_R G K P (cx_up (cx_dR P R c) i)) → wL_law_774 post L xs J170 J423 (nI P) (nI R) (nI (R ^ P)) f_mode f_threshold x8 x9 (nI (K 0)) (nI (K 1)) (nI (K 2)) (nI (K 3)) (nI (cx_cs R K P)) (nI (cx_lv K)) x16 x17 x18 x19 x21 x23 (nI c) kc ks (nI P) f_maxEvents f_messages f_mode f_threshold f_witnessCut f_pathSteps a_counts a_values a_stamps a_senders a_sendSlots a_received a_lows a_highs a_path a_avoidable n 0 (nI (i + 1)) := by
        intro z
        have e' : cx_i (c = cx_cs R K P ∨ ∃ p, p < i + 1 ∧ cx_dR P R c p < K p ∧ cx_R G K P (cx_up (cx_dR P R c) p)) = 0 := cx_i_f (fun w => by
          rcases w with w | ⟨p, hp, s⟩
          · exact o (Or.inl w)
          · by_cases ep : p = i
            · subst ep
              exact z s
            · exact o (Or.inr ⟨p, by omega, s⟩))
        rw [e'] at k'
        exact k'
      rw [e]
      have dl := (cx_dR_Dg (P := P) (R := R) (c := c) (by omega)).1 i hi
      have kl := hK i
      refine br_t rfl (la_compD hb hc (by omega) (la_pick (by omega) ?_))
      refine cx_le (by omega) (by omega) (fun le => nm_r (nI_1 i) (kn (fun s => by have := s.1; omega))) (fun nle => la_pw (by omega) ?_)
      obtain ⟨s1, s2⟩ := cx_dR_step hb hc hi (by omega)
      have w1 := (cx_pw_b (R := R) (p := i) b3 b4 (by omega)).1
      have hb' := hbit (c + R ^ i) (by omega) s2
      rw [s1] at hb'
      rw [nI_add]
      refine la_bit (by omega) (fun t => br_f xw_10 (nm_r (nI_1 i) ?_)) (fun f => br_t rfl (nm_r (nI_1 i) (kn (fun s => ?_))))
      · have e' : cx_i (c = cx_cs R K P ∨ ∃ p, p < i + 1 ∧ cx_dR P R c p < K p ∧ cx_R G K P (cx_up (cx_dR P R c) p)) = 1 := cx_i_t (Or.inr ⟨i, by omega, by omega, hb'.mp t⟩)
        rw [e'] at k'
        exact k'
      · have t := hb'.mpr s.2
        rw [f] at t
        exact Bool.noConfusion t
end
end
section
/-! one cut: its state, its count, its bit -/
section
variable {post : Int32 → Prop} {L P R c kc ks : Nat} {K : Nat → Nat} {xs : Nat → Int32} {J170 : Int32 → Int32 → Int32 → Int32 → Int32 → Int32 → Int32 → Int32 → (Nat → Int32) → (Nat → Int32) → (Nat → Int32) → (Nat → Int32) → (Nat → Int32) → (Nat → Int32) → (Nat → Int32) → (Nat → Int32) → (Nat → Int32) → (Nat → Int32) → Prop} {J423 : Int32 → Int32 → Int32 → Int64 → Int64 → Int64 → Int32 → Prop} {x8 x9 x16 x17 x18 : Int32} {x19 x21 x23 : Int64} {f_procs f_maxEvents f_messages f_mode f_threshold f_witnessCut f_pathSteps : Int32} {a_counts a_values a_stamps a_senders a_sendSlots a_received a_lows a_highs a_path a_avoidable : Nat → Int32}
theorem la_608 {x27 x28 z0 : Int32} (E : cx_Env L xs P R K a_counts a_values a_stamps a_lows a_highs) (hc : c < R ^ P)
    (h0 : ¬ cx_Va K (cx_dR P R c) → z0 = 0) (h1 : cx_Va K (cx_dR P R c) → ¬ cx_Co P a_stamps (cx_dR P R c) → z0 = 1)
    (h2 : cx_V P K a_stamps (cx_dR P R c) → ¬ cx_Sa P f_mode f_threshold a_values a_lows a_highs (cx_dR P R c) → z0 = 2) (h3 : cx_V P K a_stamps (cx_dR P R c) → cx_Sa P f_mode f_threshold a_values a_lows a_highs (cx_dR P R c) → z0 = 3)
    (hk : ((x27 = 0 → (∀ y : Int32, y = nI c + (-1) → (J423 x16 x17 x18 x19 x21 x23 y))) ∧ (¬ x27 = 0 → (∀ y16 : Int32, y16 = x16 + 1 → (((x28 = 0 → (((nI c = nI (cx_cs R K P) → (∃ fu774 : Nat, wL_law_774 post L xs J170 J423 (nI P) (nI R) (nI (R ^ P)) f_mode f_threshold x8 x9 (nI (K 0)) (nI (K 1)) (nI (K 2)) (nI (K 3)) (nI (cx_cs R K P)) (nI (cx_lv K)) y16 x17 x18 x19 x21 x23 (nI c) kc ks (nI P) f_maxEvents f_messages f_mode f_threshold f_witnessCut f_pathSteps a_counts a_values a_stamps a_senders a_sendSlots a_received a_lows a_highs a_path a_avoidable fu774 1 0)) ∧ (¬ nI c = nI (cx_cs R K P) → (∃ fu774 : Nat, wL_law_774 post L xs J170 J423 (nI P) (nI R) (nI (R ^ P)) f_mode f_threshold x8 x9 (nI (K 0)) (nI (K 1)) (nI (K 2)) (nI (K 3)) (nI (cx_cs R K P)) (nI (cx_lv K)) y16 x17 x18 x19 x21 x23 (nI c) kc ks (nI P) f_maxEvents f_messages f_mode f_threshold f_witnessCut f_pathSteps a_counts a_values a_stamps a_senders a_sendSlots a_received a_lows a_highs a_path a_avoidable fu774 0 0))))) ∧ (¬ x28 = 0 → (∀ y17 : Int32, y17 = x17 + 1 → (∃ fu675 : Nat, wL_law_675 post L xs J170 J423 (nI P) (nI R) (nI (R ^ P)) f_mode f_threshold x8 x9 (nI (K 0)) (nI (K 1)) (nI (K 2)) (nI (K 3)) (nI (cx_cs R K P)) (nI (cx_lv K)) y16 y17 x18 x19 x21 x23 (nI c) kc ks (nI P) f_maxEvents f_messages f_mode f_threshold f_witnessCut f_pathSteps a_counts a_values a_stamps a_senders a_sendSlots a_received a_lows a_highs a_path a_avoidable fu675 0 0 0))))))))) :
    wL_law_608 post L xs J170 J423 (nI P) (nI R) (nI (R ^ P)) f_mode f_threshold x8 x9 (nI (K 0)) (nI (K 1)) (nI (K 2)) (nI (K 3)) (nI (cx_cs R K P)) (nI (cx_lv K)) x16 x17 x18 x19 x21 x23 (nI c) x27 x28 z0 kc ks (nI P) f_maxEvents f_messages f_mode f_threshold f_witnessCut f_pathSteps a_counts a_values a_stamps a_senders a_sendSlots a_received a_lows a_highs a_path a_avoidable := by
  obtain ⟨hL, hb, hcn, hKR, hz, hva, hlh, hst⟩ := id E
  obtain ⟨b1, b2, b3, b4, b5, b6⟩ := cx_PR_b hb
  have g := cx_dR_Dg (P := P) (R := R) (c := c) (by omega)
  have h8 : ∀ p, p < 4 → cx_dR P R c p < 8 := fun p _ => by
    by_cases e : p < P
    · have := g.1 p e
      omega
    · rw [g.2 p (by omega)]
      omega
  unfold wL_law_608
  refine la_compD (p := 0) hb hc (by omega) (la_compD (p := 1) hb hc (by omega) (la_compD (p := 2) hb hc (by omega) (la_compD (p := 3) hb hc (by omega) ?_)))
  exact xw_cut b2 hcn (cx_Env_6 E) h8 (fun p hp => g.2 p (by omega)) (fun a => br_t (h0 a).symm hk) (fun a b => br_t (h1 a b).symm hk) (fun a b => br_t (h2 a b).symm hk) (fun a b => br_t (h3 a b).symm hk)
theorem la_553 (E : cx_Env L xs P R K a_counts a_values a_stamps a_lows a_highs) (hc : c < R ^ P)
    (hbit : ∀ j, c < j → j < R ^ P → (cx_bt x21 x23 j = true ↔ cx_R (cx_G P K a_stamps f_mode f_threshold a_values a_lows a_highs) K P (cx_dR P R j)))
    (kI : ¬ cx_V P K a_stamps (cx_dR P R c) → J423 x16 x17 x18 x19 x21 x23 (nI c + (-1)))
    (kS1 : cx_V P K a_stamps (cx_dR P R c) → cx_Sa P f_mode f_threshold a_values a_lows a_highs (cx_dR P R c) → x19 ≤ lN (cx_ky P R (cx_dR P R c)) → J423 (x16 + 1) (x17 + 1) x18 x19 x21 x23 (nI c + (-1)))
    (kS2 : cx_V P K a_stamps (cx_dR P R c) → cx_Sa P f_mode f_threshold a_values a_lows a_highs (cx_dR P R c) → ¬ x19 ≤ lN (cx_ky P R (cx_dR P R c)) → J423 (x16 + 1) (x17 + 1) (nI c) (lN (cx_ky P R (cx_dR P R c))) x21 x23 (nI c + (-1)))
    (k1 : cx_G P K a_stamps f_mode f_threshold a_values a_lows a_highs (cx_dR P R c) → cx_R (cx_G P K a_stamps f_mode f_threshold a_values a_lows a_highs) K P (cx_dR P R c) → ∀ a b : Int64, (∀ j, j < 128 → cx_bt a b j = (cx_bt x21 x23 j || decide (j = c))) → J423 (x16 + 1) x17 x18 x19 a b (nI c + (-1)))
    (k0 : cx_G P K a_stamps f_mode f_threshold a_values a_lows a_highs (cx_dR P R c) → ¬ cx_R (cx_G P K a_stamps f_mode f_threshold a_values a_lows a_highs) K P (cx_dR P R c) → J423 (x16 + 1) x17 x18 x19 x21 x23 (nI c + (-1))) :
    (¬ cx_Va K (cx_dR P R c) → wL_law_553 post L xs J170 J423 (nI P) (nI R) (nI (R ^ P)) f_mode f_threshold x8 x9 (nI (K 0)) (nI (K 1)) (nI (K 2)) (nI (K 3)) (nI (cx_cs R K P)) (nI (cx_lv K)) x16 x17 x18 x19 x21 x23 (nI c) 0 0 kc ks (nI P) f_maxEvents f_messages f_mode f_threshold f_witnessCut f_pathSteps a_counts a_values a_stamps a_senders a_sendSlots a_received a_lows a_highs a_path a_avoidable) ∧ (cx_Va K (cx_dR P R c) → ¬ cx_Co P a_stamps (cx_dR P R c) → wL_law_553 post L xs J170 J423 (nI P) (nI R) (nI (R ^ P)) f_mode f_threshold x8 x9 (nI (K 0)) (nI (K 1)) (nI (K 2)) (nI (K 3)) (nI (cx_cs R K P)) (nI (cx_lv K)) x16 x17 x18 x19 x21 x23 (nI c) 1 0 kc ks (nI P) f_maxEvents f_messages f_mode f_threshold f_witnessCut f_pathSteps a_counts a_values a_stamps a_senders a_sendSlots a_received a_lows a_highs a_path a_avoidable) ∧
    (cx_V P K a_stamps (cx_dR P R c) → wL_law_553 post L xs J170 J423 (nI P) (nI R) (nI (R ^ P)) f_mode f_threshold x8 x9 (nI (K 0)) (nI (K 1)) (nI (K 2)) (nI (K 3)) (nI (cx_cs R K P)) (nI (cx_lv K)) x16 x17 x18 x19 x21 x23 (nI c) 1 1 kc ks (nI P) f_maxEvents f_messages f_mode f_threshold f_witnessCut f_pathSteps a_counts a_values a_stamps a_senders a_sendSlots a_received a_lows a_highs a_path a_avoidable) := by
  obtain ⟨hL, hb, hcn, hKR, hz, hva, hlh, hst⟩ := id E
  obtain ⟨b1, b2, b3, b4, b5, b6⟩ := cx_PR_b hb
  refine ⟨fun nv => ?_, fun v nc => ?_, fun v => ?_⟩
  · unfold wL_law_553 wL_law_577 wL_law_578
    exact br_t rfl (br_t rfl (la_608 E hc (fun _ => rfl) (fun v => absurd v nv) (fun v => absurd v.1 nv) (fun v => absurd v.1 nv) (br_t rfl (nm_e (kI (fun v => nv v.1))))))
  · unfold wL_law_553 wL_law_577 wL_law_578
    exact br_t rfl (br_f xw_10 (br_t rfl (la_608 E hc (fun n => absurd v n) (fun _ _ => rfl) (fun w => absurd w.2 nc) (fun w => absurd w.2 nc) (br_t rfl (nm_e (kI (fun v => nc v.2)))))))
  · unfold wL_law_553
    refine br_f xw_10 (la_sat hL hb hc (va := a_values) (lo := a_lows) (hi := a_highs) (fun p hp => hva p hp _ (v.1 p (by omega))) (fun p hp => (hlh p hp).1) (fun p hp => (hlh p hp).2) (fun s => br_f xw_10 ?_) (fun s => br_t rfl ?_))
    · unfold wL_law_578
      refine br_f xw_10 (br_f xw_10 (br_f xw_10 (la_608 E hc (fun n => absurd v.1 n) (fun _ n => absurd v.2 n) (fun _ n => absurd s n) (fun _ _ => rfl) ?_)))
      exact br_f xw_10 (nm_e (br_f xw_10 (nm_e (la_675 hb hc (kS1 v s) (kS2 v s)))))
    · unfold wL_law_577 wL_law_578
      refine br_f xw_10 (br_f xw_10 (br_t rfl (la_608 E hc (fun n => absurd v.1 n) (fun _ n => absurd v.2 n) (fun _ _ => rfl) (fun _ z => absurd z s) ?_)))
      have H := la_774 (kc := kc) (ks := ks) (post := post) (L := L) (xs := xs) (J170 := J170) (J423 := J423) (x8 := x8) (x9 := x9) (x16 := x16 + 1) (x17 := x17) (x18 := x18) (x19 := x19) (x21 := x21) (x23 := x23) (f_maxEvents := f_maxEvents) (f_messages := f_messages) (f_mode := f_mode) (f_threshold := f_threshold) (f_witnessCut := f_witnessCut) (f_pathSteps := f_pathSteps) (a_counts := a_counts) (a_values := a_values) (a_stamps := a_stamps) (a_senders := a_senders) (a_sendSlots := a_sendSlots) (a_received := a_received) (a_lows := a_lows) (a_highs := a_highs) (a_path := a_path) (a_avoidable := a_avoidable)
        (G := cx_G P K a_stamps f_mode f_threshold a_values a_lows a_highs) hb hc hKR hz cx_G_K ⟨v, s⟩ hbit (k1 ⟨v, s⟩) (k0 ⟨v, s⟩)
      have cl := (cx_dR_of hb (d := K) ⟨fun p _ => hKR p, hz⟩).2
      refine br_f xw_10 (nm_e (br_t rfl (cx_eq (by omega) (by omega) (fun e => ?_) (fun ne => ?_))))
      · rw [cx_i_t e] at H
        exact H
      · rw [cx_i_f ne] at H
        exact H
theorem la_434 (E : cx_Env L xs P R K a_counts a_values a_stamps a_lows a_highs) (hc : c < R ^ P)
    (H : (¬ cx_Va K (cx_dR P R c) → wL_law_553 post L xs J170 J423 (nI P) (nI R) (nI (R ^ P)) f_mode f_threshold x8 x9 (nI (K 0)) (nI (K 1)) (nI (K 2)) (nI (K 3)) (nI (cx_cs R K P)) (nI (cx_lv K)) x16 x17 x18 x19 x21 x23 (nI c) 0 0 kc ks (nI P) f_maxEvents f_messages f_mode f_threshold f_witnessCut f_pathSteps a_counts a_values a_stamps a_senders a_sendSlots a_received a_lows a_highs a_path a_avoidable) ∧ (cx_Va K (cx_dR P R c) → ¬ cx_Co P a_stamps (cx_dR P R c) → wL_law_553 post L xs J170 J423 (nI P) (nI R) (nI (R ^ P)) f_mode f_threshold x8 x9 (nI (K 0)) (nI (K 1)) (nI (K 2)) (nI (K 3)) (nI (cx_cs R K P)) (nI (cx_lv K)) x16 x17 x18 x19 x21 x23 (nI c) 1 0 kc ks (nI P) f_maxEvents f_messages f_mode f_threshold f_witnessCut f_pathSteps a_counts a_values a_stamps a_senders a_sendSlots a_received a_lows a_highs a_path a_avoidable) ∧
      (cx_V P K a_stamps (cx_dR P R c) → wL_law_553 post L xs J170 J423 (nI P) (nI R) (nI (R ^ P)) f_mode f_threshold x8 x9 (nI (K 0)) (nI (K 1)) (nI (K 2)) (nI (K 3)) (nI (cx_cs R K P)) (nI (cx_lv K)) x16 x17 x18 x19 x21 x23 (nI c) 1 1 kc ks (nI P) f_maxEvents f_messages f_mode f_threshold f_witnessCut f_pathSteps a_counts a_values a_stamps a_senders a_sendSlots a_received a_lows a_highs a_path a_avoidable)) :
    ∃ n, wL_law_434 post L xs J170 J423 (nI P) (nI R) (nI (R ^ P)) f_mode f_threshold x8 x9 (nI (K 0)) (nI (K 1)) (nI (K 2)) (nI (K 3)) (nI (cx_cs R K P)) (nI (cx_lv K)) x16 x17 x18 x19 x21 x23 (nI c) kc ks (nI P) f_maxEvents f_messages f_mode f_threshold f_witnessCut f_pathSteps a_counts a_values a_stamps a_senders a_sendSlots a_received a_lows a_highs a_path a_avoidable n 1 0 := by
  obtain ⟨hL, hb, hcn, hKR, hz, hva, hlh, hst⟩ := id E
  obtain ⟨b1, b2, b3, b4, b5, b6⟩ := cx_PR_b hb
  obtain ⟨H1, H2, H3⟩ := H
  have g := cx_dR_Dg (P := P) (R := R) (c := c) (by omega)
  have hK6 := cx_Env_6 E
  have F := cx_fold (fun n i s => wL_law_434 post L xs J170 J423 (nI P) (nI R) (nI (R ^ P)) f_mode f_threshold x8 x9 (nI (K 0)) (nI (K 1)) (nI (K 2)) (nI (K 3)) (nI (cx_cs R K P)) (nI (cx_lv K)) x16 x17 x18 x19 x21 x23 (nI c) kc ks (nI P) f_maxEvents f_messages f_mode f_threshold f_witnessCut f_pathSteps a_counts a_values a_stamps a_senders a_sendSlots a_received a_lows a_highs a_path a_avoidable n s (nI i)) P (fun i => cx_i (∀ p, p < i → cx_dR P R c p ≤ K p))
    (fun n => br_t (nI_le (Nat.le_refl P) (by omega)) ?_) (fun n i hi k => br_f (nI_ge hi (by omega)) (la_compD hb hc (by omega) (la_pick (by omega) ?_)))
  · obtain ⟨n, hn⟩ := F
    have hn' : wL_law_434 post L xs J170 J423 (nI P) (nI R) (nI (R ^ P)) f_mode f_threshold x8 x9 (nI (K 0)) (nI (K 1)) (nI (K 2)) (nI (K 3)) (nI (cx_cs R K P)) (nI (cx_lv K)) x16 x17 x18 x19 x21 x23 (nI c) kc ks (nI P) f_maxEvents f_messages f_mode f_threshold f_witnessCut f_pathSteps a_counts a_values a_stamps a_senders a_sendSlots a_received a_lows a_highs a_path a_avoidable n (cx_i (∀ p, p < 0 → cx_dR P R c p ≤ K p)) 0 := hn
    rw [cx_i_t (fun p hp => absurd hp (Nat.not_lt_zero p))] at hn'
    exact ⟨n, hn'⟩
  · by_cases v : cx_Va K (cx_dR P R c)
    · have e : cx_i (∀ p, p < P → cx_dR P R c p ≤ K p) = 1 := cx_i_t (fun p hp => v p (by omega))
      rw [e]
      refine br_f xw_10 ?_
      have F2 := cx_fold (fun n i s => wL_law_485 post L xs J170 J423 (nI P) (nI R) (nI (R ^ P)) f_mode f_threshold x8 x9 (nI (K 0)) (nI (K 1)) (nI (K 2)) (nI (K 3)) (nI (cx_cs R K P)) (nI (cx_lv K)) x16 x17 x18 x19 x21 x23 (nI c) 1 kc ks (nI P) f_maxEvents f_messages f_mode f_threshold f_witnessCut f_pathSteps a_counts a_values a_stamps a_senders a_sendSlots a_received a_lows a_highs a_path a_avoidable n s (nI i)) P (fun i => cx_i (∀ p, p < i → ∀ q, q < P → a_stamps ((p * 7 + cx_dR P R c p) * 4 + q) ≤ nI (cx_dR P R c q)))
        (fun n => br_t (nI_le (Nat.le_refl P) (by omega)) ?_) (fun n i hi k => br_f (nI_ge hi (by omega)) (la_compD hb hc (by omega) ?_))
      · obtain ⟨n, hn⟩ := F2
        have hn' : wL_law_485 post L xs J170 J423 (nI P) (nI R) (nI (R ^ P)) f_mode f_threshold x8 x9 (nI (K 0)) (nI (K 1)) (nI (K 2)) (nI (K 3)) (nI (cx_cs R K P)) (nI (cx_lv K)) x16 x17 x18 x19 x21 x23 (nI c) 1 kc ks (nI P) f_maxEvents f_messages f_mode f_threshold f_witnessCut f_pathSteps a_counts a_values a_stamps a_senders a_sendSlots a_received a_lows a_highs a_path a_avoidable n (cx_i (∀ p, p < 0 → ∀ q, q < P → a_stamps ((p * 7 + cx_dR P R c p) * 4 + q) ≤ nI (cx_dR P R c q))) 0 := hn
        rw [cx_i_t (fun p hp => absurd hp (Nat.not_lt_zero p))] at hn'
        exact ⟨n, hn'⟩
      · by_cases co : cx_Co P a_stamps (cx_dR P R c)
        · have e : cx_i (∀ p, p < P → ∀ q, q < P → a_stamps ((p * 7 + cx_dR P R c p) * 4 + q) ≤ nI (cx_dR P R c q)) = 1 := cx_i_t co
          rw [e]
          exact H3 ⟨v, co⟩
        · have e : cx_i (∀ p, p < P → ∀ q, q < P → a_stamps ((p * 7 + cx_dR P R c p) * 4 + q) ≤ nI (cx_dR P R c q)) = 0 := cx_i_f co
          rw [e]
          exact H2 v co
      · have gi := g.1 i hi
        have vi := v i (by omega)
        refine pk_lt (cx_dR P R c i) 1 (fun h => nm_r (nI_1 i) ?_) (fun h => ?_)
        · have e0 : cx_dR P R c i = 0 := by omega
          have e := cx_i_s (B := fun p => ∀ q, q < P → a_stamps ((p * 7 + cx_dR P R c p) * 4 + q) ≤ nI (cx_dR P R c q)) (i := i) (fun q hq => by
            rw [e0, hst i hi q hq]
            have := g.1 q hq
            exact nI_pos' (by omega))
          show wL_law_485 post L xs J170 J423 (nI P) (nI R) (nI (R ^ P)) f_mode f_threshold x8 x9 (nI (K 0)) (nI (K 1)) (nI (K 2)) (nI (K 3)) (nI (cx_cs R K P)) (nI (cx_lv K)) x16 x17 x18 x19 x21 x23 (nI c) 1 kc ks (nI P) f_maxEvents f_messages f_mode f_threshold f_witnessCut f_pathSteps a_counts a_values a_stamps a_senders a_sendSlots a_received a_lows a_highs a_path a_avoidable n (cx_i (∀ p, p < i → ∀ q, q < P → a_stamps ((p * 7 + cx_dR P R c p) * 4 + q) ≤ nI (cx_dR P R c q))) (nI (i + 1))
          rw [e]
          exact k
        · obtain ⟨kk, hkk⟩ : ∃ kk, cx_dR P R c i = kk + 1 := ⟨cx_dR P R c i - 1, by omega⟩
          have F3 := cx_fold (fun m j s => wL_law_510 post L xs J170 J423 (wL_law_485 post L xs J170 J423 (nI P) (nI R) (nI (R ^ P)) f_mode f_threshold x8 x9 (nI (K 0)) (nI (K 1)) (nI (K 2)) (nI (K 3)) (nI (cx_cs R K P)) (nI (cx_lv K)) x16 x17 x18 x19 x21 x23 (nI c) 1 kc ks (nI P) f_maxEvents f_messages f_mode f_threshold f_witnessCut f_pathSteps a_counts a_values a_stamps a_senders a_sendSlots a_received a_lows a_highs a_path a_avoidable n) (nI P) (nI R) (nI (R ^ P)) f_mode f_threshold x8 x9 (nI (K 0)) (nI (K 1)) (nI (K 2)) (nI (K 3)) (nI (cx_cs R K P)) (nI (cx_lv K)) x16 x17 x18 x19 x21 x23 (nI c) 1 (nI i) (nI (cx_dR P R c i)) kc ks (nI P) f_maxEvents f_messages f_mode f_threshold f_witnessCut f_pathSteps a_counts a_values a_stamps a_senders a_sendSlots a_received a_lows a_highs a_path a_avoidable m s (nI j)) P
            (fun j => cx_i ((∀ p, p < i → ∀ q, q < P → a_stamps ((p * 7 + cx_dR P R c p) * 4 + q) ≤ nI (cx_dR P R c q)) ∧ ∀ q, q < j → a_stamps ((i * 7 + cx_dR P R c i) * 4 + q) ≤ nI (cx_dR P R c q)))
            (fun m => br_t (nI_le (Nat.le_refl P) (by omega)) (nm_r (nI_1 i) ?_)) (fun m j hj k' => br_f (nI_ge hj (by omega)) ?_)
          · obtain ⟨m, hm⟩ := F3
            have hm' : wL_law_510 post L xs J170 J423 (wL_law_485 post L xs J170 J423 (nI P) (nI R) (nI (R ^ P)) f_mode f_threshold x8 x9 (nI (K 0)) (nI (K 1)) (nI (K 2)) (nI (K 3)) (nI (cx_cs R K P)) (nI (cx_lv K)) x16 x17 x18 x19 x21 x23 (nI c) 1 kc ks (nI P) f_maxEvents f_messages f_mode f_threshold f_witnessCut f_pathSteps a_counts a_values a_stamps a_senders a_sendSlots a_received a_lows a_highs a_path a_avoidable n) (nI P) (nI R) (nI (R ^ P)) f_mode f_threshold x8 x9 (nI (K 0)) (nI (K 1)) (nI (K 2)) (nI (K 3)) (nI (cx_cs R K P)) (nI (cx_lv K)) x16 x17 x18 x19 x21 x23 (nI c) 1 (nI i) (nI (cx_dR P R c i)) kc ks (nI P) f_maxEvents f_messages f_mode f_threshold f_witnessCut f_pathSteps a_counts a_values a_stamps a_senders a_sendSlots a_received a_lows a_highs a_path a_avoidable m (cx_i ((∀ p, p < i → ∀ q, q < P → a_stamps ((p * 7 + cx_dR P R c p) * 4 + q) ≤ nI (cx_dR P R c q)) ∧ ∀ q, q < 0 → a_stamps ((i * 7 + cx_dR P R c i) * 4 + q) ≤ nI (cx_dR P R c q))) 0 := hm
            have e : cx_i ((∀ p, p < i → ∀ q, q < P → a_stamps ((p * 7 + cx_dR P R c p) * 4 + q) ≤ nI (cx_dR P R c q)) ∧ ∀ q, q < 0 → a_stamps ((i * 7 + cx_dR P R c i) * 4 + q) ≤ nI (cx_dR P R c q)) = cx_i (∀ p, p < i → ∀ q, q < P → a_stamps ((p * 7 + cx_dR P R c p) * 4 + q) ≤ nI (cx_dR P R c q)) := cx_i_c ⟨fun z => z.1, fun z => ⟨z, fun q hq => absurd hq (Nat.not_lt_zero q)⟩⟩
            rw [e] at hm'
            exact ⟨m, hm'⟩
          · have e : cx_i ((∀ p, p < i → ∀ q, q < P → a_stamps ((p * 7 + cx_dR P R c p) * 4 + q) ≤ nI (cx_dR P R c q)) ∧ ∀ q, q < P → a_stamps ((i * 7 + cx_dR P R c i) * 4 + q) ≤ nI (cx_dR P R c q)) = cx_i (∀ p, p < i + 1 → ∀ q, q < P → a_stamps ((p * 7 + cx_dR P R c p) * 4 + q) ≤ nI (cx_dR P R c q)) := cx_i_c ⟨fun z => lt_s z.1 z.2, fun z => ⟨fun p hp => z p (by omega), z i (by omega)⟩⟩
            rw [e]
            exact k
          · have gj := g.1 j hj
            have st := xo_stamp (post := fun r => wpL_comp (fun r_284 => (((r ≤ r_284 → (∀ x30 : Int32, x30 = nI j + 1 → (wL_law_510 post L xs J170 J423 (wL_law_485 post L xs J170 J423 (nI P) (nI R) (nI (R ^ P)) f_mode f_threshold x8 x9 (nI (K 0)) (nI (K 1)) (nI (K 2)) (nI (K 3)) (nI (cx_cs R K P)) (nI (cx_lv K)) x16 x17 x18 x19 x21 x23 (nI c) 1 kc ks (nI P) f_maxEvents f_messages f_mode f_threshold f_witnessCut f_pathSteps a_counts a_values a_stamps a_senders a_sendSlots a_received a_lows a_highs a_path a_avoidable n) (nI P) (nI R) (nI (R ^ P)) f_mode f_threshold x8 x9 (nI (K 0)) (nI (K 1)) (nI (K 2)) (nI (K 3)) (nI (cx_cs R K P)) (nI (cx_lv K)) x16 x17 x18 x19 x21 x23 (nI c) 1 (nI i) (nI (cx_dR P R c i)) kc ks (nI P) f_maxEvents f_messages f_mode f_threshold f_witnessCut f_pathSteps a_counts a_values a_stamps a_senders a_sendSlots a_received a_lows a_highs a_path a_avoidable m (cx_i ((∀ p, p < i → ∀ q, q < P → a_stamps ((p * 7 + cx_dR P R c p) * 4 + q) ≤ nI (cx_dR P R c q)) ∧ ∀ q, q < j → a_stamps ((i * 7 + cx_dR P R c i) * 4 + q) ≤ nI (cx_dR P R c q))) x30))) ∧ (¬ r ≤ r_284 → (∀ x30 : Int32, x30 = nI j + 1 → (wL_law_510 post L xs J170 J423 (wL_law_485 post L xs J170 J423 (nI P) (nI R) (nI (R ^ P)) f_mode f_threshold x8 x9 (nI (K 0)) (nI (K 1)) (nI (K 2)) (nI (K 3)) (nI (cx_cs R K P)) (nI (cx_lv K)) x16 x17 x18 x19 x21 x23 (nI c) 1 kc ks (nI P) f_maxEvents f_messages f_mode f_threshold f_witnessCut f_pathSteps a_counts a_values a_stamps a_senders a_sendSlots a_received a_lows a_highs a_path a_avoidable n) (nI P) (nI R) (nI (R ^ P)) f_mode f_threshold x8 x9 (nI (K 0)) (nI (K 1)) (nI (K 2)) (nI (K 3)) (nI (cx_cs R K P)) (nI (cx_lv K)) x16 x17 x18 x19 x21 x23 (nI c) 1 (nI i) (nI (cx_dR P R c i)) kc ks (nI P) f_maxEvents f_messages f_mode f_threshold f_witnessCut f_pathSteps a_counts a_values a_stamps a_senders a_sendSlots a_received a_lows a_highs a_path a_avoidable m 0 x30)))))) () (nI c) (nI j) (nI R))
              (f_maxEvents := f_maxEvents) (f_messages := f_messages) (f_mode := f_mode) (f_threshold := f_threshold) (f_witnessCut := f_witnessCut) (f_pathSteps := f_pathSteps) (a_counts := a_counts) (a_values := a_values) (a_stamps := a_stamps) (a_senders := a_senders) (a_sendSlots := a_sendSlots) (a_received := a_received) (a_lows := a_lows) (a_highs := a_highs) (a_path := a_path) (a_avoidable := a_avoidable)
              (K := K) (k := kk) hi b2 hj hcn (by omega) (hK6 i (by omega)) (la_compD hb hc (by omega) ?_)
            · rw [← hkk] at st
              exact st
            · rw [← hkk]
              refine br_c (fun le => nm_r (nI_1 j) ?_) (fun nle => nm_r (nI_1 j) ?_)
              · have e : cx_i ((∀ p, p < i → ∀ q, q < P → a_stamps ((p * 7 + cx_dR P R c p) * 4 + q) ≤ nI (cx_dR P R c q)) ∧ ∀ q, q < j → a_stamps ((i * 7 + cx_dR P R c i) * 4 + q) ≤ nI (cx_dR P R c q)) = cx_i ((∀ p, p < i → ∀ q, q < P → a_stamps ((p * 7 + cx_dR P R c p) * 4 + q) ≤ nI (cx_dR P R c q)) ∧ ∀ q, q < j + 1 → a_stamps ((i * 7 + cx_dR P R c i) * 4 + q) ≤ nI (cx_dR P R c q)) := cx_i_c ⟨fun z => ⟨z.1, lt_s z.2 le⟩, fun z => ⟨z.1, fun q hq => z.2 q (by omega)⟩⟩
                rw [e]
                exact k'
              · have e : (0 : Int32) = cx_i ((∀ p, p < i → ∀ q, q < P → a_stamps ((p * 7 + cx_dR P R c p) * 4 + q) ≤ nI (cx_dR P R c q)) ∧ ∀ q, q < j + 1 → a_stamps ((i * 7 + cx_dR P R c i) * 4 + q) ≤ nI (cx_dR P R c q)) := (cx_i_f (fun z => nle (z.2 j (by omega)))).symm
                rw [e]
                exact k'
    · have e : cx_i (∀ p, p < P → cx_dR P R c p ≤ K p) = 0 := cx_i_f (fun z => v (fun p hp => by
        by_cases ep : p < P
        · exact z p ep
        · rw [g.2 p (by omega)]
          exact Nat.zero_le _))
      rw [e]
      exact br_t rfl (H1 v)
  · have gi := g.1 i hi
    have ki := hKR i
    refine cx_le (by omega) (by omega) (fun le => nm_r (nI_1 i) ?_) (fun nle => nm_r (nI_1 i) ?_)
    · have e := cx_i_s (B := fun p => cx_dR P R c p ≤ K p) (i := i) le
      show wL_law_434 post L xs J170 J423 (nI P) (nI R) (nI (R ^ P)) f_mode f_threshold x8 x9 (nI (K 0)) (nI (K 1)) (nI (K 2)) (nI (K 3)) (nI (cx_cs R K P)) (nI (cx_lv K)) x16 x17 x18 x19 x21 x23 (nI c) kc ks (nI P) f_maxEvents f_messages f_mode f_threshold f_witnessCut f_pathSteps a_counts a_values a_stamps a_senders a_sendSlots a_received a_lows a_highs a_path a_avoidable n (cx_i (∀ p, p < i → cx_dR P R c p ≤ K p)) (nI (i + 1))
      rw [e]
      exact k
    · have e := cx_i_n (B := fun p => cx_dR P R c p ≤ K p) (i := i) nle
      rw [e]
      exact k
end
end
section
/-! behind the walk over all cuts: path and witness -/
theorem cx_dR_0 (P R : Nat) : cx_dR P R 0 = fun _ => 0 := by
  funext p
  unfold cx_dR
  by_cases e : p < P
  · rw [if_pos e, Nat.zero_div, Nat.zero_mod]
  · rw [if_neg e]
section
variable {post : Int32 → Prop} {L P R kc ks : Nat} {K : Nat → Nat} {xs : Nat → Int32} {J170 : Int32 → Int32 → Int32 → Int32 → Int32 → Int32 → Int32 → Int32 → (Nat → Int32) → (Nat → Int32) → (Nat → Int32) → (Nat → Int32) → (Nat → Int32) → (Nat → Int32) → (Nat → Int32) → (Nat → Int32) → (Nat → Int32) → (Nat → Int32) → Prop} {x8 x9 : Int32} {x21 x23 : Int64} {G : (Nat → Nat) → Prop} {f_procs f_maxEvents f_messages f_mode f_threshold f_witnessCut f_pathSteps : Int32} {a_counts a_values a_stamps a_senders a_sendSlots a_received a_lows a_highs a_path a_avoidable : Nat → Int32}
theorem la_1021 (hb : cx_PR P R) (hKR : ∀ p, K p < R) (hz : ∀ p, P ≤ p → K p = 0) (hG : ∀ d, G d → ∀ p, p < 4 → d p ≤ K p)
    (hbit : ∀ j, j < R ^ P → (cx_bt x21 x23 j = true ↔ cx_R G K P (cx_dR P R j))) (h0 : cx_R G K P (fun _ => 0)) (hpa : ∀ j, j < cx_lv K → a_path j = nI (cx_ls (cx_S G K P (cx_D G K P j))))
    (hJ : J170 (x9 + 1) (nI P) f_maxEvents f_messages f_mode f_threshold f_witnessCut (nI (cx_lv K)) a_counts a_values a_stamps a_senders a_sendSlots a_received a_lows a_highs a_path a_avoidable) :
    ∃ n, wL_law_1021 post L xs J170 (nI P) (nI R) (nI (R ^ P)) f_mode f_threshold x8 x9 (nI (K 0)) (nI (K 1)) (nI (K 2)) (nI (K 3)) (nI (cx_lv K)) x21 x23 kc ks (nI P) f_maxEvents f_messages f_mode f_threshold f_witnessCut (nI (cx_lv K)) a_counts a_values a_stamps a_senders a_sendSlots a_received a_lows a_highs a_path a_avoidable n 0 0 := by
  obtain ⟨b1, b2, b3, b4, b5, b6⟩ := cx_PR_b hb
  have hK6 : ∀ p, p < 4 → K p ≤ 6 := fun p _ => by have := hKR p; omega
  have T24 := cx_lv_6 hK6
  have main : ∀ m i c, i + m = cx_lv K → c < R ^ P → cx_dR P R c = cx_D G K P i →
      wL_law_1021 post L xs J170 (nI P) (nI R) (nI (R ^ P)) f_mode f_threshold x8 x9 (nI (K 0)) (nI (K 1)) (nI (K 2)) (nI (K 3)) (nI (cx_lv K)) x21 x23 kc ks (nI P) f_maxEvents f_messages f_mode f_threshold f_witnessCut (nI (cx_lv K)) a_counts a_values a_stamps a_senders a_sendSlots a_received a_lows a_highs a_path a_avoidable (m + 1) (nI c) (nI i) := by
    intro m
    induction m with
    | zero =>
      intro i c hi hc hd
      have e : i = cx_lv K := by omega
      subst e
      exact br_t (nI_le (Nat.le_refl _) (by omega)) (xo_pathStepE T24 (br_t rfl (nm_e hJ)))
    | succ m ih =>
      intro i c hi hc hd
      have hl : i < cx_lv K := by omega
      have s := cx_D_st hG b2 hK6 h0 hl
      have es := cx_D_s G K P i
      have pi := hpa i hl
      rw [← hd] at s es pi
      generalize cx_ls (cx_S G K P (cx_dR P R c)) = l at s es pi
      have sl := s.1.1
      have kl := hKR l
      obtain ⟨st1, st2⟩ := cx_dR_step hb hc sl (by have := s.1.2.1; omega)
      refine br_f (nI_ge hl (by omega)) ?_
      have F := cx_fold (fun q p x => wL_law_1034 post L xs J170 (wL_law_1021 post L xs J170 (nI P) (nI R) (nI (R ^ P)) f_mode f_threshold x8 x9 (nI (K 0)) (nI (K 1)) (nI (K 2)) (nI (K 3)) (nI (cx_lv K)) x21 x23 kc ks (nI P) f_maxEvents f_messages f_mode f_threshold f_witnessCut (nI (cx_lv K)) a_counts a_values a_stamps a_senders a_sendSlots a_received a_lows a_highs a_path a_avoidable (m + 1)) (nI P) (nI R) (nI (R ^ P)) f_mode f_threshold x8 x9 (nI (K 0)) (nI (K 1)) (nI (K 2)) (nI (K 3)) (nI (cx_lv K)) x21 x23 (nI c) (nI i) kc ks (nI P) f_maxEvents f_messages f_mode f_threshold f_witnessCut (nI (cx_lv K)) a_counts a_values a_stamps a_senders a_sendSlots a_received a_lows a_highs a_path a_avoidable q x (nI p)) P (fun p => if l < p then nI l else -1)
        (fun q => br_t (nI_le (Nat.le_refl P) (by omega)) ?_) (fun q p hp k => br_f (nI_ge hp (by omega)) ?_)
      · exact F
      · rw [if_pos sl]
        refine br_f (nI_pos (by omega)) (xo_pathStep T24 hl (br_t pi (la_pw (by omega) ?_)))
        exact nm_r (nI_add _ _) (nm_r (nI_1 i) (ih (i + 1) (c + R ^ l) (by omega) st2 (by rw [st1, es])))
      · have k' : wL_law_1034 post L xs J170 (wL_law_1021 post L xs J170 (nI P) (nI R) (nI (R ^ P)) f_mode f_threshold x8 x9 (nI (K 0)) (nI (K 1)) (nI (K 2)) (nI (K 3)) (nI (cx_lv K)) x21 x23 kc ks (nI P) f_maxEvents f_messages f_mode f_threshold f_witnessCut (nI (cx_lv K)) a_counts a_values a_stamps a_senders a_sendSlots a_received a_lows a_highs a_path a_avoidable (m + 1)) (nI P) (nI R) (nI (R ^ P)) f_mode f_threshold x8 x9 (nI (K 0)) (nI (K 1)) (nI (K 2)) (nI (K 3)) (nI (cx_lv K)) x21 x23 (nI c) (nI i) kc ks (nI P) f_maxEvents f_messages f_mode f_threshold f_witnessCut (nI (cx_lv K)) a_counts a_values a_stamps a_senders a_sendSlots a_received a_lows a_highs a_path a_avoidable q (if l < p + 1 then nI l else -1) (nI (p + 1)) := k
        by_cases lp : l < p
        · rw [if_pos (by omega)] at k'
          rw [if_pos lp]
          exact br_t (nI_pos' (by omega)) (nm_r (nI_1 p) k')
        · rw [if_neg lp]
          have kn : ¬ (cx_S G K P (cx_dR P R c) p) → wL_law_1034 post L xs J170 (wL_law_1021 post L xs J170 (nI P) (nI R) (nI (R ^ P)) f_mode f_threshold x8 x9 (nI (K 0)) (nI (K 1)) (nI (K 2)) (nI (K 3)) (nI (cx_lv K)) x21 x23 kc ks (nI P) f_maxEvents f_messages f_mode f_threshold f_witnessCut (nI (cx_lv K)) a_counts a_values a_stamps a_senders a_sendSlots a_received a_lows a_highs a_path a_avoidable (m + 1)) (nI P) (nI R) (nI (R ^ P)) f_mode f_threshold x8 x9 (nI (K 0)) (nI (K 1)) (nI (K 2)) (nI (K 3)) (nI (cx_lv K)) x21 x23 (nI c) (nI i) kc ks (nI P) f_maxEvents f_messages f_mode f_threshold f_witnessCut (nI (cx_lv K)) a_counts a_values a_stamps a_senders a_sendSlots a_received a_lows a_highs a_path a_avoidable q (-1) (nI (p + 1)) := by
            intro z
            have ne : l ≠ p := fun e => z (by rw [← e]; exact s.1)
            rw [if_neg (by omega)] at k'
            exact k'
          have dl := (cx_dR_Dg (P := P) (R := R) (c := c) (by omega)).1 p hp
          have kp := hKR p
          refine br_f (by decide) (la_compD hb hc (by omega) (la_pick (by omega) ?_))
          refine cx_le (by omega) (by omega) (fun le => nm_r (nI_1 p) (kn (fun z => by have := z.2.1; omega))) (fun nle => la_pw (by omega) ?_)
          obtain ⟨s1, s2⟩ := cx_dR_step hb hc hp (by omega)
          have hb' := hbit (c + R ^ p) s2
          rw [s1] at hb'
          rw [nI_add]
          refine la_bit (by omega) (fun t => br_f xw_10 (nm_r (nI_1 p) ?_)) (fun f => br_t rfl (nm_r (nI_1 p) (kn (fun z => ?_))))
          · have sp : cx_S G K P (cx_dR P R c) p := ⟨hp, by omega, hb'.mp t⟩
            have e : l = p := by
              have : ¬ p < l := fun z => s.2 p z sp
              omega
            rw [if_pos (by omega), e] at k'
            exact k'
          · have t := hb'.mpr z.2.2
            rw [f] at t
            exact Bool.noConfusion t
  exact ⟨_, main (cx_lv K) 0 0 (by omega) (by omega) (cx_dR_0 P R)⟩
end
section
variable {post : Int32 → Prop} {L P R kc ks : Nat} {K : Nat → Nat} {xs : Nat → Int32} {J170 : Int32 → Int32 → Int32 → Int32 → Int32 → Int32 → Int32 → Int32 → (Nat → Int32) → (Nat → Int32) → (Nat → Int32) → (Nat → Int32) → (Nat → Int32) → (Nat → Int32) → (Nat → Int32) → (Nat → Int32) → (Nat → Int32) → (Nat → Int32) → Prop} {x8 x9 x17 x18 : Int32} {x21 x23 : Int64} {f_procs f_maxEvents f_messages f_mode f_threshold f_witnessCut f_pathSteps : Int32} {a_counts a_values a_stamps a_senders a_sendSlots a_received a_lows a_highs a_path a_avoidable : Nat → Int32}
theorem la_976 (E : cx_Env L xs P R K a_counts a_values a_stamps a_lows a_highs)
    (hbit : ∀ j, j < R ^ P → (cx_bt x21 x23 j = true ↔ cx_R (cx_G P K a_stamps f_mode f_threshold a_values a_lows a_highs) K P (cx_dR P R j)))
    (hJ : ∀ (wc ps : Int32) (pa av : Nat → Int32), J170 (x9 + 1) (nI P) f_maxEvents f_messages f_mode f_threshold wc ps a_counts a_values a_stamps a_senders a_sendSlots a_received a_lows a_highs pa av) :
    wL_law_976 post L xs J170 (nI P) (nI R) (nI (R ^ P)) f_mode f_threshold x8 x9 (nI (K 0)) (nI (K 1)) (nI (K 2)) (nI (K 3)) (nI (cx_lv K)) x21 x23 kc ks (nI P) f_maxEvents f_messages f_mode f_threshold f_witnessCut f_pathSteps a_counts a_values a_stamps a_senders a_sendSlots a_received a_lows a_highs a_path a_avoidable := by
  obtain ⟨hL, hb, hcn, hKR, hz, hva, hlh, hst⟩ := id E
  obtain ⟨b1, b2, b3, b4, b5, b6⟩ := cx_PR_b hb
  have hb0 := hbit 0 b6
  rw [cx_dR_0] at hb0
  unfold wL_law_976
  refine la_bit (i := 0) (by omega) (fun t => ?_) (fun f => ?_)
  · refine xw_definitely b2 hcn (cx_Env_6 E) hz (fun nr => absurd (hb0.mp t) nr) (fun r av pa hpa => ?_)
    refine br_f (by decide) (br_f xw_10 (br_t rfl ?_))
    exact la_1021 hb hKR hz cx_G_K hbit r hpa (hJ _ _ _ _)
  · refine xw_definitely b2 hcn (cx_Env_6 E) hz (fun nr av => ?_) (fun r => ?_)
    · exact br_f (by decide) (br_t rfl (br_t rfl (nm_e (hJ _ _ _ _))))
    · have t := hb0.mpr r
      rw [f] at t
      exact Bool.noConfusion t
theorem la_929 {b c8 : Nat} (hb : cx_PR P R) (hbT : b < R ^ P) (h8 : c8 < 4096) (e : cx_d8 c8 = cx_dR P R b) (h : wL_law_976 post L xs J170 (nI P) (nI R) (nI (R ^ P)) f_mode f_threshold x8 x9 (nI (K 0)) (nI (K 1)) (nI (K 2)) (nI (K 3)) (nI (cx_lv K)) x21 x23 kc ks (nI P) f_maxEvents f_messages f_mode f_threshold (nI c8) f_pathSteps a_counts a_values a_stamps a_senders a_sendSlots a_received a_lows a_highs a_path a_avoidable) :
    ∃ n, wL_law_929 post L xs J170 (nI P) (nI R) (nI (R ^ P)) f_mode f_threshold x8 x9 (nI (K 0)) (nI (K 1)) (nI (K 2)) (nI (K 3)) (nI (cx_lv K)) (nI b) x21 x23 kc ks (nI P) f_maxEvents f_messages f_mode f_threshold (nI c8) f_pathSteps a_counts a_values a_stamps a_senders a_sendSlots a_received a_lows a_highs a_path a_avoidable n 0 := by
  obtain ⟨b1, b2, b3, b4, b5, b6⟩ := cx_PR_b hb
  have F := cx_fold (σ := Unit) (fun n i _ => wL_law_929 post L xs J170 (nI P) (nI R) (nI (R ^ P)) f_mode f_threshold x8 x9 (nI (K 0)) (nI (K 1)) (nI (K 2)) (nI (K 3)) (nI (cx_lv K)) (nI b) x21 x23 kc ks (nI P) f_maxEvents f_messages f_mode f_threshold (nI c8) f_pathSteps a_counts a_values a_stamps a_senders a_sendSlots a_received a_lows a_highs a_path a_avoidable n (nI i)) P (fun _ => ()) (fun n => br_t (nI_le (Nat.le_refl P) (by omega)) h)
    (fun n i hi k => br_f (nI_ge hi (by omega)) (xo_witness h8 hi b2 (la_compD hb hbT (by omega) (br_t (by rw [e]) (nm_r (nI_1 i) k)))))
  exact F
end
end
section
/-! the walk over all cuts, downwards -/
def cx_LB (P R : Nat) (Q : (Nat → Nat) → Prop) (m : Nat) (best : Int32) (bk : Int64) : Prop :=
  (best = -1 ∧ bk = 9223372036854775807 ∧ ∀ c, m ≤ c → c < R ^ P → ¬ Q (cx_dR P R c)) ∨
  ∃ b : Nat, m ≤ b ∧ b < R ^ P ∧ best = nI b ∧ bk = lN (cx_ky P R (cx_dR P R b)) ∧ Q (cx_dR P R b) ∧ ∀ c, m ≤ c → c < R ^ P → Q (cx_dR P R c) → cx_ky P R (cx_dR P R b) ≤ cx_ky P R (cx_dR P R c)
theorem cx_ky_b {P R : Nat} {d : Nat → Nat} (h : cx_PR P R) (g : cx_Dg P R d) : cx_ky P R d < 10000 := by
  obtain ⟨b1, b2, b3, b4, b5, b6⟩ := cx_PR_b h
  have l := (cx_dB_of h g).2
  have v : cx_lv d ≤ 24 := cx_lv_6 (fun p _ => by
    by_cases e : p < P
    · have := g.1 p e
      omega
    · rw [g.2 p (by omega)]
      omega)
  unfold cx_ky
  have m : cx_lv d * R ^ P ≤ 24 * 125 := Nat.mul_le_mul v b5
  omega
theorem cx_LB_0 (P R : Nat) (Q : (Nat → Nat) → Prop) : cx_LB P R Q (R ^ P) (-1) 9223372036854775807 := Or.inl ⟨rfl, rfl, fun c a b => absurd a (by omega)⟩
theorem cx_LB_not {P R m : Nat} {Q : (Nat → Nat) → Prop} {best : Int32} {bk : Int64} (h : cx_LB P R Q (m + 1) best bk) (nq : ¬ Q (cx_dR P R m)) : cx_LB P R Q m best bk := by
  rcases h with ⟨e1, e2, h⟩ | ⟨b, h1, h2, e1, e2, q, h⟩
  · refine Or.inl ⟨e1, e2, fun c a l z => ?_⟩
    by_cases e : c = m
    · subst e
      exact nq z
    · exact h c (by omega) l z
  · refine Or.inr ⟨b, by omega, h2, e1, e2, q, fun c a l z => ?_⟩
    by_cases e : c = m
    · subst e
      exact absurd z nq
    · exact h c (by omega) l z
theorem cx_LB_le {P R m : Nat} {Q : (Nat → Nat) → Prop} {best : Int32} {bk : Int64} (hb : cx_PR P R) (h : cx_LB P R Q (m + 1) best bk) (le : bk ≤ lN (cx_ky P R (cx_dR P R m))) : cx_LB P R Q m best bk := by
  obtain ⟨b1, b2, b3, b4, b5, b6⟩ := cx_PR_b hb
  have km := cx_ky_b (d := cx_dR P R m) hb (cx_dR_Dg (by omega))
  rcases h with ⟨e1, e2, h⟩ | ⟨b, h1, h2, e1, e2, q, h⟩
  · subst e2
    have le' : lN 9223372036854775807 ≤ lN (cx_ky P R (cx_dR P R m)) := le
    rw [pk_lLE (by omega) (by omega)] at le'
    omega
  · subst e2
    have kb := cx_ky_b (d := cx_dR P R b) hb (cx_dR_Dg (by omega))
    rw [pk_lLE (by omega) (by omega)] at le
    refine Or.inr ⟨b, by omega, h2, e1, rfl, q, fun c a l z => ?_⟩
    by_cases e : c = m
    · subst e
      exact le
    · exact h c (by omega) l z
theorem cx_LB_new {P R m : Nat} {Q : (Nat → Nat) → Prop} {best : Int32} {bk : Int64} (hb : cx_PR P R) (h : cx_LB P R Q (m + 1) best bk) (hm : m < R ^ P) (q : Q (cx_dR P R m)) (nle : ¬ bk ≤ lN (cx_ky P R (cx_dR P R m))) : cx_LB P R Q m (nI m) (lN (cx_ky P R (cx_dR P R m))) := by
  obtain ⟨b1, b2, b3, b4, b5, b6⟩ := cx_PR_b hb
  have km := cx_ky_b (d := cx_dR P R m) hb (cx_dR_Dg (by omega))
  refine Or.inr ⟨m, Nat.le_refl m, hm, rfl, rfl, q, fun c a l z => ?_⟩
  by_cases e : c = m
  · subst e
    exact Nat.le_refl _
  · rcases h with ⟨e1, e2, h⟩ | ⟨b, h1, h2, e1, e2, _, h⟩
    · exact absurd z (h c (by omega) l)
    · subst e2
      have kb := cx_ky_b (d := cx_dR P R b) hb (cx_dR_Dg (by omega))
      rw [pk_lLE (by omega) (by omega)] at nle
      have := h c (by omega) l z
      omega
theorem cx_Bst_R {P R b e8 : Nat} {Q : (Nat → Nat) → Prop} (hb : cx_PR P R) (hQ : ∀ d, Q d → (∀ p, 4 ≤ p → d p = 0) → cx_Dg P R d) (h8 : cx_Bst Q cx_d8 4096 e8) (q : Q (cx_dR P R b)) (hm : ∀ c, c < R ^ P → Q (cx_dR P R c) → cx_ky P R (cx_dR P R b) ≤ cx_ky P R (cx_dR P R c)) :
    cx_d8 e8 = cx_dR P R b := by
  obtain ⟨b1, b2, b3, b4, b5, b6⟩ := cx_PR_b hb
  have g' := cx_dR_Dg (P := P) (R := R) (c := b) (by omega)
  have g := hQ _ h8.2.1 (fun _ hp => cx_8_4 hp)
  obtain ⟨e1, l1⟩ := cx_Dg_8 hb g'
  obtain ⟨e2, l2⟩ := cx_dR_of hb g
  have o := h8.2.2 (cx_c8 (cx_dR P R b)) l1 (by rw [e1]; exact q)
  rw [e1] at o
  have k := hm (cx_cs R (cx_d8 e8) P) l2 (by rw [e2]; exact h8.2.1)
  rw [e2] at k
  exact cx_ky_eq hb g g' (by rw [cx_8_c h8.1]; exact o) k
theorem cx_no_R {P R : Nat} {Q : (Nat → Nat) → Prop} (hb : cx_PR P R) (hQ : ∀ d, Q d → (∀ p, 4 ≤ p → d p = 0) → cx_Dg P R d) : (∀ c, c < 4096 → ¬ Q (cx_d8 c)) ↔ (∀ c, c < R ^ P → ¬ Q (cx_dR P R c)) := by
  obtain ⟨b1, b2, b3, b4, b5, b6⟩ := cx_PR_b hb
  constructor
  · intro z c hc q
    obtain ⟨e1, l1⟩ := cx_Dg_8 hb (cx_dR_Dg (P := P) (R := R) (c := c) (by omega))
    exact z _ l1 (by rw [e1]; exact q)
  · intro z c hc q
    obtain ⟨e2, l2⟩ := cx_dR_of hb (hQ _ q (fun _ hp => cx_8_4 hp))
    exact z _ l2 (by rw [e2]; exact q)
theorem cx_cnt_t {Q : Nat → Prop} {T i : Nat} (q : Q i) (h : i < T) : nI (cx_n Q T - cx_n Q (i + 1)) + 1 = nI (cx_n Q T - cx_n Q i) := by
  have m := cx_n_mono Q (i + 1) T h
  rw [cx_n_t q] at m ⊢
  rw [nI_1]
  exact congrArg nI (by omega)
theorem cx_cnt_f {Q : Nat → Prop} {T i : Nat} (q : ¬ Q i) : nI (cx_n Q T - cx_n Q (i + 1)) = nI (cx_n Q T - cx_n Q i) := by rw [cx_n_f q]
theorem cx_n_pos {Q : Nat → Prop} {T c : Nat} (hc : c < T) (q : Q c) : 0 < cx_n Q T := by
  have m := cx_n_mono Q (c + 1) T hc
  rw [cx_n_t q] at m
  omega
theorem cx_n_zero {Q : Nat → Prop} : ∀ T, (∀ c, c < T → ¬ Q c) → cx_n Q T = 0 := by
  intro T
  induction T with
  | zero => exact fun _ => rfl
  | succ T ih =>
    intro h
    rw [cx_n_f (h T (by omega))]
    exact ih (fun c hc => h c (by omega))
section
variable {post : Int32 → Prop} {L P R kc ks : Nat} {K : Nat → Nat} {xs : Nat → Int32} {J170 : Int32 → Int32 → Int32 → Int32 → Int32 → Int32 → Int32 → Int32 → (Nat → Int32) → (Nat → Int32) → (Nat → Int32) → (Nat → Int32) → (Nat → Int32) → (Nat → Int32) → (Nat → Int32) → (Nat → Int32) → (Nat → Int32) → (Nat → Int32) → Prop} {x8 x9 : Int32} {f_procs f_maxEvents f_messages f_mode f_threshold f_witnessCut f_pathSteps : Int32} {a_counts a_values a_stamps a_senders a_sendSlots a_received a_lows a_highs a_path a_avoidable : Nat → Int32}
theorem la_post {x16 x17 x18 : Int32} {x19 x21 x23 : Int64} {n : Nat} (E : cx_Env L xs P R K a_counts a_values a_stamps a_lows a_highs)
    (hcc : x16 = nI (cx_n (fun c => cx_V P K a_stamps (cx_dR P R c)) (R ^ P))) (hsc : x17 = nI (cx_n (fun c => cx_Q P K a_stamps f_mode f_threshold a_values a_lows a_highs (cx_dR P R c)) (R ^ P)))
    (hLB : cx_LB P R (cx_Q P K a_stamps f_mode f_threshold a_values a_lows a_highs) 0 x18 x19)
    (hbit : ∀ j, j < R ^ P → (cx_bt x21 x23 j = true ↔ cx_R (cx_G P K a_stamps f_mode f_threshold a_values a_lows a_highs) K P (cx_dR P R j)))
    (hJ : ∀ (wc ps : Int32) (pa av : Nat → Int32), J170 (x9 + 1) (nI P) f_maxEvents f_messages f_mode f_threshold wc ps a_counts a_values a_stamps a_senders a_sendSlots a_received a_lows a_highs pa av) :
    wL_law_423 post L xs J170 (nI P) (nI R) (nI (R ^ P)) f_mode f_threshold x8 x9 (nI (K 0)) (nI (K 1)) (nI (K 2)) (nI (K 3)) (nI (cx_cs R K P)) (nI (cx_lv K)) kc ks (nI P) f_maxEvents f_messages f_mode f_threshold f_witnessCut f_pathSteps a_counts a_values a_stamps a_senders a_sendSlots a_received a_lows a_highs a_path a_avoidable (n + 1) x16 x17 x18 x19 x21 x23 (-1) := by
  obtain ⟨hL, hb, hcn, hKR, hz, hva, hlh, hst⟩ := id E
  obtain ⟨b1, b2, b3, b4, b5, b6⟩ := cx_PR_b hb
  have hK6 := cx_Env_6 E
  have hVD : ∀ d, cx_V P K a_stamps d → (∀ p, 4 ≤ p → d p = 0) → cx_Dg P R d := fun d v h4 => cx_V_Dg hKR hz v.1 h4 b2
  have hQD : ∀ d, cx_Q P K a_stamps f_mode f_threshold a_values a_lows a_highs d → (∀ p, 4 ≤ p → d p = 0) → cx_Dg P R d := fun d q h4 => hVD d q.1 h4
  have nle := cx_n_le (fun c => cx_Q P K a_stamps f_mode f_threshold a_values a_lows a_highs (cx_dR P R c)) (R ^ P)
  refine br_t (by decide) (xw_cc b2 hcn hK6 (br_t ?_ (xw_cs b2 hcn hK6 (br_t ?_ (xw_possibly b2 hcn hK6 (fun none => ?_) (fun e8 h8 => ?_))))))
  · rw [hcc]
    exact congrArg nI (cx_n_R hb _ hVD)
  · rw [hsc]
    exact congrArg nI (cx_n_R hb _ hQD)
  · have noneR := (cx_no_R hb hQD).mp none
    have e0 : x17 = 0 := by
      rw [hsc, cx_n_zero (R ^ P) noneR]
      rfl
    have l0 : x17 ≤ 0 := by rw [e0]; decide
    refine br_t l0 ?_
    unfold wL_law_916
    exact br_t rfl (br_t l0 (xo_witness0 (br_t rfl (la_976 E hbit hJ))))
  · rcases hLB with ⟨_, _, z⟩ | ⟨b, _, hbT, e1, _, q, hm⟩
    · exact absurd h8.2.1 ((cx_no_R hb hQD).mpr (fun c hc => z c (Nat.zero_le c) hc) e8 h8.1)
    · have n0 := cx_n_pos (Q := fun c => cx_Q P K a_stamps f_mode f_threshold a_values a_lows a_highs (cx_dR P R c)) hbT q
      have l0 : ¬ x17 ≤ 0 := by
        rw [hsc]
        exact nI_nle n0 (by omega)
      have ed := cx_Bst_R hb hQD h8 q (fun c hc qc => hm c (Nat.zero_le c) hc qc)
      subst e1
      refine br_f l0 ?_
      unfold wL_law_916
      exact br_t rfl (br_f l0 (la_929 hb hbT h8.1 ed (la_976 E hbit hJ)))
theorem la_423 (E : cx_Env L xs P R K a_counts a_values a_stamps a_lows a_highs) (hJ : ∀ (wc ps : Int32) (pa av : Nat → Int32), J170 (x9 + 1) (nI P) f_maxEvents f_messages f_mode f_threshold wc ps a_counts a_values a_stamps a_senders a_sendSlots a_received a_lows a_highs pa av) :
    ∃ n, wL_law_423 post L xs J170 (nI P) (nI R) (nI (R ^ P)) f_mode f_threshold x8 x9 (nI (K 0)) (nI (K 1)) (nI (K 2)) (nI (K 3)) (nI (cx_cs R K P)) (nI (cx_lv K)) kc ks (nI P) f_maxEvents f_messages f_mode f_threshold f_witnessCut f_pathSteps a_counts a_values a_stamps a_senders a_sendSlots a_received a_lows a_highs a_path a_avoidable n 0 0 (-1) 9223372036854775807 0 0 (nI (R ^ P - 1)) := by
  obtain ⟨hL, hb, hcn, hKR, hz, hva, hlh, hst⟩ := id E
  obtain ⟨b1, b2, b3, b4, b5, b6⟩ := cx_PR_b hb
  have hG := cx_G_K (P := P) (K := K) (st := a_stamps) (md := f_mode) (th := f_threshold) (va := a_values) (lo := a_lows) (hi := a_highs)
  have hK6 := cx_Env_6 E
  refine cx_down (σ := Int32 × Int32 × Int32 × Int64 × Int64 × Int64) (fun n x s => wL_law_423 post L xs J170 (nI P) (nI R) (nI (R ^ P)) f_mode f_threshold x8 x9 (nI (K 0)) (nI (K 1)) (nI (K 2)) (nI (K 3)) (nI (cx_cs R K P)) (nI (cx_lv K)) kc ks (nI P) f_maxEvents f_messages f_mode f_threshold f_witnessCut f_pathSteps a_counts a_values a_stamps a_senders a_sendSlots a_received a_lows a_highs a_path a_avoidable n s.1 s.2.1 s.2.2.1 s.2.2.2.1 s.2.2.2.2.1 s.2.2.2.2.2 x)
    (fun m s => m ≤ R ^ P ∧ s.1 = nI (cx_n (fun c => cx_V P K a_stamps (cx_dR P R c)) (R ^ P) - cx_n (fun c => cx_V P K a_stamps (cx_dR P R c)) m) ∧
      s.2.1 = nI (cx_n (fun c => cx_Q P K a_stamps f_mode f_threshold a_values a_lows a_highs (cx_dR P R c)) (R ^ P) - cx_n (fun c => cx_Q P K a_stamps f_mode f_threshold a_values a_lows a_highs (cx_dR P R c)) m) ∧
      cx_LB P R (cx_Q P K a_stamps f_mode f_threshold a_values a_lows a_highs) m s.2.2.1 s.2.2.2.1 ∧
      (∀ j, j < 128 → (cx_bt s.2.2.2.2.1 s.2.2.2.2.2 j = true ↔ (m ≤ j ∧ j < R ^ P ∧ cx_R (cx_G P K a_stamps f_mode f_threshold a_values a_lows a_highs) K P (cx_dR P R j)))))
    (fun n s I => ?_) (fun n i s I k => ?_) (R ^ P - 1) (0, 0, -1, 9223372036854775807, 0, 0) ?_
  · obtain ⟨x16, x17, x18, x19, x21, x23⟩ := s
    obtain ⟨_, i1, i2, i3, i4⟩ := I
    exact la_post E i1 i2 i3 (fun j hj => (i4 j (by omega)).trans ⟨fun z => z.2.2, fun z => ⟨Nat.zero_le j, hj, z⟩⟩) hJ
  · obtain ⟨x16, x17, x18, x19, x21, x23⟩ := s
    obtain ⟨i0, i1, i2, i3, i4⟩ := I
    have hi : i < R ^ P := by omega
    have i1' : x16 = nI (cx_n (fun c => cx_V P K a_stamps (cx_dR P R c)) (R ^ P) - cx_n (fun c => cx_V P K a_stamps (cx_dR P R c)) (i + 1)) := i1
    have i2' : x17 = nI (cx_n (fun c => cx_Q P K a_stamps f_mode f_threshold a_values a_lows a_highs (cx_dR P R c)) (R ^ P) - cx_n (fun c => cx_Q P K a_stamps f_mode f_threshold a_values a_lows a_highs (cx_dR P R c)) (i + 1)) := i2
    have i4' : ∀ j, j < 128 → (cx_bt x21 x23 j = true ↔ (i + 1 ≤ j ∧ j < R ^ P ∧ cx_R (cx_G P K a_stamps f_mode f_threshold a_values a_lows a_highs) K P (cx_dR P R j))) := i4
    have nb : ¬ cx_R (cx_G P K a_stamps f_mode f_threshold a_values a_lows a_highs) K P (cx_dR P R i) → ∀ j, j < 128 → (cx_bt x21 x23 j = true ↔ (i ≤ j ∧ j < R ^ P ∧ cx_R (cx_G P K a_stamps f_mode f_threshold a_values a_lows a_highs) K P (cx_dR P R j))) := by
      intro nr j hj
      rw [i4' j hj]
      constructor
      · exact fun z => ⟨by omega, z.2⟩
      · intro z
        refine ⟨?_, z.2⟩
        by_cases e : j = i
        · subst e
          exact absurd z.2.2 nr
        · omega
    have Ri := cx_R_iff hG b2 hK6 (cx_dR P R i)
    refine br_f (nI_pos (by omega)) (la_434 E hi (la_553 E hi ?_ ?_ ?_ ?_ ?_ ?_))
    · intro j hj hjT
      exact (i4' j (by omega)).trans ⟨fun z => z.2.2, fun z => ⟨by omega, hjT, z⟩⟩
    · intro nv
      refine k (x16, x17, x18, x19, x21, x23) ⟨by omega, ?_, ?_, cx_LB_not i3 (fun q => nv q.1), nb (fun r => nv (Ri.mp r).1.1)⟩
      · exact i1'.trans (cx_cnt_f (Q := fun c => cx_V P K a_stamps (cx_dR P R c)) nv)
      · exact i2'.trans (cx_cnt_f (Q := fun c => cx_Q P K a_stamps f_mode f_threshold a_values a_lows a_highs (cx_dR P R c)) (fun q => nv q.1))
    · intro v sa le
      refine k (x16 + 1, x17 + 1, x18, x19, x21, x23) ⟨by omega, ?_, ?_, cx_LB_le hb i3 le, nb (fun r => (Ri.mp r).1.2 sa)⟩
      · show x16 + 1 = _
        rw [i1']
        exact cx_cnt_t (Q := fun c => cx_V P K a_stamps (cx_dR P R c)) v hi
      · show x17 + 1 = _
        rw [i2']
        exact cx_cnt_t (Q := fun c => cx_Q P K a_stamps f_mode f_threshold a_values a_lows a_highs (cx_dR P R c)) ⟨v, sa⟩ hi
    · intro v sa nle
      refine k (x16 + 1, x17 + 1, nI i, lN (cx_ky P R (cx_dR P R i)), x21, x23) ⟨by omega, ?_, ?_, cx_LB_new hb i3 hi ⟨v, sa⟩ nle, nb (fun r => (Ri.mp r).1.2 sa)⟩
      · show x16 + 1 = _
        rw [i1']
        exact cx_cnt_t (Q := fun c => cx_V P K a_stamps (cx_dR P R c)) v hi
      · show x17 + 1 = _
        rw [i2']
        exact cx_cnt_t (Q := fun c => cx_Q P K a_stamps f_mode f_threshold a_values a_lows a_highs (cx_dR P R c)) ⟨v, sa⟩ hi
    · intro g r a b hab
      refine k (x16 + 1, x17, x18, x19, a, b) ⟨by omega, ?_, ?_, cx_LB_not i3 (fun q => g.2 q.2), fun j hj => ?_⟩
      · show x16 + 1 = _
        rw [i1']
        exact cx_cnt_t (Q := fun c => cx_V P K a_stamps (cx_dR P R c)) g.1 hi
      · exact i2'.trans (cx_cnt_f (Q := fun c => cx_Q P K a_stamps f_mode f_threshold a_values a_lows a_highs (cx_dR P R c)) (fun q => g.2 q.2))
      · show cx_bt a b j = true ↔ _
        rw [hab j hj, Bool.or_eq_true, decide_eq_true_iff, i4' j hj]
        constructor
        · intro z
          rcases z with z | z
          · exact ⟨by omega, z.2⟩
          · subst z
            exact ⟨Nat.le_refl _, hi, r⟩
        · intro z
          by_cases e : j = i
          · exact Or.inr e
          · exact Or.inl ⟨by omega, z.2⟩
    · intro g nr
      refine k (x16 + 1, x17, x18, x19, x21, x23) ⟨by omega, ?_, ?_, cx_LB_not i3 (fun q => g.2 q.2), nb nr⟩
      · show x16 + 1 = _
        rw [i1']
        exact cx_cnt_t (Q := fun c => cx_V P K a_stamps (cx_dR P R c)) g.1 hi
      · exact i2'.trans (cx_cnt_f (Q := fun c => cx_Q P K a_stamps f_mode f_threshold a_values a_lows a_highs (cx_dR P R c)) (fun q => g.2 q.2))
  · have e : R ^ P - 1 + 1 = R ^ P := by omega
    rw [e]
    refine ⟨Nat.le_refl _, ?_, ?_, cx_LB_0 P R _, fun j hj => ?_⟩
    · rw [Nat.sub_self]
      rfl
    · rw [Nat.sub_self]
      rfl
    · show cx_bt 0 0 j = true ↔ _
      have z : cx_bt 0 0 j = false := by
        unfold cx_bt
        by_cases l : j < 64
        · rw [if_pos l]
          exact BitVec.getLsbD_zero
        · rw [if_neg l]
          exact BitVec.getLsbD_zero
      rw [z]
      exact ⟨fun h => Bool.noConfusion h, fun h => absurd h.1 (by omega)⟩
theorem la_281 (E : cx_Env L xs P R K a_counts a_values a_stamps a_lows a_highs) (hJ : ∀ (wc ps : Int32) (pa av : Nat → Int32), J170 (x9 + 1) (nI P) f_maxEvents f_messages f_mode f_threshold wc ps a_counts a_values a_stamps a_senders a_sendSlots a_received a_lows a_highs pa av) :
    wL_law_281 post L xs J170 (nI P) (nI R) (nI (R ^ P)) f_mode f_threshold x8 x9 kc ks (nI P) f_maxEvents f_messages f_mode f_threshold f_witnessCut f_pathSteps a_counts a_values a_stamps a_senders a_sendSlots a_received a_lows a_highs a_path a_avoidable := by
  obtain ⟨hL, hb, hcn, hKR, hz, hva, hlh, hst⟩ := id E
  obtain ⟨b1, b2, b3, b4, b5, b6⟩ := cx_PR_b hb
  have H349 : ∃ n, wL_law_349 post L xs J170 (nI P) (nI R) (nI (R ^ P)) f_mode f_threshold x8 x9 (nI (K 0)) (nI (K 1)) (nI (K 2)) (nI (K 3)) kc ks (nI P) f_maxEvents f_messages f_mode f_threshold f_witnessCut f_pathSteps a_counts a_values a_stamps a_senders a_sendSlots a_received a_lows a_highs a_path a_avoidable n 0 0 0 := by
    refine cx_fold (σ := Int32 × Int32) (fun n i s => wL_law_349 post L xs J170 (nI P) (nI R) (nI (R ^ P)) f_mode f_threshold x8 x9 (nI (K 0)) (nI (K 1)) (nI (K 2)) (nI (K 3)) kc ks (nI P) f_maxEvents f_messages f_mode f_threshold f_witnessCut f_pathSteps a_counts a_values a_stamps a_senders a_sendSlots a_received a_lows a_highs a_path a_avoidable n s.1 s.2 (nI i)) P (fun i => (nI (cx_cs R K i), nI (cx_pl K i)))
      (fun n => br_t (nI_le (Nat.le_refl P) (by omega)) ?_) (fun n i hi k => br_f (nI_ge hi (by omega)) (la_pick (by omega) (la_pw (by omega) ?_)))
    · have e : nI (R ^ P) - 1 = nI (R ^ P - 1) := pk_sub (b := 1) b6
      refine nm_r e ?_
      show ∃ n, wL_law_423 post L xs J170 (nI P) (nI R) (nI (R ^ P)) f_mode f_threshold x8 x9 (nI (K 0)) (nI (K 1)) (nI (K 2)) (nI (K 3)) (nI (cx_cs R K P)) (nI (cx_pl K P)) kc ks (nI P) f_maxEvents f_messages f_mode f_threshold f_witnessCut f_pathSteps a_counts a_values a_stamps a_senders a_sendSlots a_received a_lows a_highs a_path a_avoidable n 0 0 (-1) 9223372036854775807 0 0 (nI (R ^ P - 1))
      rw [cx_pl_P hb (d := K) ⟨fun p _ => hKR p, hz⟩]
      exact la_423 E hJ
    · refine nm_r (e' := nI (cx_cs R K (i + 1))) ?_ (nm_r (nI_add _ _) (nm_r (nI_1 i) k))
      rw [pk_mul, nI_add]
      rfl
  have H321 : wL_law_321 post L xs J170 (nI P) (nI R) (nI (R ^ P)) f_mode f_threshold x8 x9 (nI (K 0)) (nI (K 1)) (nI (K 2)) kc ks (nI P) f_maxEvents f_messages f_mode f_threshold f_witnessCut f_pathSteps a_counts a_values a_stamps a_senders a_sendSlots a_received a_lows a_highs a_path a_avoidable := by
    unfold wL_law_321
    refine pk_le P 3 (fun le => ?_) (fun lt => xo_count (j := 3) lt b2 hcn H349)
    rw [hz 3 le] at H349
    exact H349
  have H304 : wL_law_304 post L xs J170 (nI P) (nI R) (nI (R ^ P)) f_mode f_threshold x8 x9 (nI (K 0)) (nI (K 1)) kc ks (nI P) f_maxEvents f_messages f_mode f_threshold f_witnessCut f_pathSteps a_counts a_values a_stamps a_senders a_sendSlots a_received a_lows a_highs a_path a_avoidable := by
    unfold wL_law_304
    refine pk_le P 2 (fun le => ?_) (fun lt => xo_count (j := 2) lt b2 hcn H321)
    rw [hz 2 le] at H321
    exact H321
  unfold wL_law_281
  refine xo_count (j := 0) (by omega) b2 hcn (pk_le P 1 (fun le => ?_) (fun lt => xo_count (j := 1) lt b2 hcn H304))
  rw [hz 1 le] at H304
  exact H304
end
end
section
/-! the law's turns -/
def cx_Ms (P M : Nat) (K : Nat → Nat) (ss : Nat → Int32) : Prop := ∀ m, m < M → ∃ p k : Nat, p < P ∧ k < K p ∧ ss m = nI (p * 7 + (k + 1))
theorem cx_Ms_up {P M : Nat} {K : Nat → Nat} {ss : Nat → Int32} (q : Nat) (h : cx_Ms P M K ss) : cx_Ms P M (cx_up K q) ss := fun m hm => by
  obtain ⟨p, k, a, b, c⟩ := h m hm
  exact ⟨p, k, a, Nat.lt_of_lt_of_le b (cx_up_le K q p), c⟩
theorem cx_Ms_send {P M q : Nat} {K : Nat → Nat} {ss : Nat → Int32} (hq : q < P) (h : cx_Ms P M K ss) : cx_Ms P (M + 1) (cx_up K q) (upd ss M (nI (q * 7 + (K q + 1)))) := fun m hm => by
  by_cases e : m = M
  · subst e
    exact ⟨q, K q, hq, by rw [cx_up_s]; omega, pk_us⟩
  · obtain ⟨p, k, a, b, c⟩ := h m (by omega)
    exact ⟨p, k, a, Nat.lt_of_lt_of_le b (cx_up_le K q p), by rw [pk_un e]; exact c⟩
theorem cx_Env_ev {L P R q : Nat} {xs : Nat → Int32} {K : Nat → Nat} {cn va st lo hi st' : Nat → Int32} (E : cx_Env L xs P R K cn va st lo hi) (hq : q < P) (hk : K q + 1 < R)
    (a : ∀ s q', s ≠ q * 7 + (K q + 1) → q' < 4 → st' (s * 4 + q') = st (s * 4 + q')) :
    cx_Env L xs P R (cx_up K q) (upd cn q (nI (K q + 1))) (upd va (q * 7 + (K q + 1)) (cx_vl L xs q (K q + 1))) st' lo hi := by
  obtain ⟨hL, hb, hcn, hKR, hz, hva, hlh, hst⟩ := id E
  obtain ⟨b1, b2, b3, b4, b5, b6⟩ := cx_PR_b hb
  refine ⟨hL, hb, cx_cn_up hcn q, fun p => ?_, fun p hp => ?_, fun p hp k hk' => ?_, hlh, fun p hp q' hq' => ?_⟩
  · by_cases e : p = q
    · rw [e, cx_up_s]; exact hk
    · rw [cx_up_n e]; exact hKR p
  · rw [cx_up_n (by omega)]
    exact hz p hp
  · have kp := hKR p
    by_cases e : p = q
    · subst e
      rw [cx_up_s] at hk'
      by_cases e2 : k = K p + 1
      · subst e2
        exact pk_us
      · rw [pk_un (by omega)]
        exact hva p hp k (by omega)
    · rw [cx_up_n e] at hk'
      rw [pk_un (by omega)]
      exact hva p hp k hk'
  · rw [a (p * 7 + 0) q' (by omega) (by omega)]
    exact hst p hp q' hq'
section
variable {L P R O kc ks : Nat} {xs lo hi : Nat → Int32} {md th : Int32}
theorem la_170 (hb : cx_PR P R) (hO : O ≤ 300) : ∀ (m i M : Nat) (K : Nat → Nat) (wc ps : Int32) (cn va st sp ss rc pa av : Nat → Int32), i + m = O + 1 → M ≤ 16 → cx_Env L xs P R K cn va st lo hi → cx_Ms P M K ss →
    wL_law_170 (fun r => r = 1) L xs (nI P) (nI R) (nI (R ^ P)) md th (nI O) kc ks (m + 1) (nI i + (-1)) (nI P) (nI (R - 1)) (nI M) md th wc ps cn va st sp ss rc lo hi pa av := by
  obtain ⟨b1, b2, b3, b4, b5, b6⟩ := cx_PR_b hb
  intro m
  induction m with
  | zero =>
    intro i M K wc ps cn va st sp ss rc pa av hi' hM E hms
    have e : i = O + 1 := by omega
    subst e
    rw [pk_m1]
    exact br_t (nI_le (Nat.le_refl O) (by omega)) rfl
  | succ m ih =>
    intro i M K wc ps cn va st sp ss rc pa av hi' hM E hms
    cases i with
    | zero =>
      have e0 : nI 0 + (-1) = (-1 : Int32) := by decide
      rw [e0]
      have nO : ¬ nI O ≤ (-1 : Int32) := fun z => by
        have a : (0 : Int32) ≤ -1 := Int32.le_trans (nI_pos' (n := O) (by omega)) z
        exact absurd a (by decide)
      refine br_f nO (br_t (by decide) (la_281 E (fun wc' ps' pa' av' => ?_)))
      have h := ih 1 M K wc' ps' cn va st sp ss rc pa' av' (by omega) hM E hms
      have e1 : nI 1 + (-1) = (-1 : Int32) + 1 := by decide
      rw [e1] at h
      exact h
    | succ j =>
      rw [pk_m1]
      have jO : j < O := by omega
      have e48 : 48 + nI j = nI (48 + j) := nI_add 48 j
      have hL := E.1
      have hcn := E.2.2.1
      have hKR := E.2.2.2.1
      have hKE : ∀ p, K p ≤ R - 1 := fun p => by have := hKR p; omega
      refine br_f (nI_ge jO (by omega)) (br_f (nI_pos (by omega)) ?_)
      rw [e48]
      refine la_cell hL (by omega) ⟨nI_ne0 (by omega) (by omega), ?_⟩
      generalize cx_cl L xs (48 + j) = op
      obtain ⟨b, hb4, eb⟩ := pk_andE ((op.toUInt32 >>> ((2 : Int32).toUInt32 &&& Int32.toUInt32 31)).toInt32) (m := 3) 2 (by decide)
      rw [eb, pk_rem (by omega) (by omega) (by omega)]
      have hq : b % P < P := Nat.mod_lt _ (by omega)
      generalize b % P = q at hq
      have kq := hKR q
      have J : ∀ (M' : Nat) (K' : Nat → Nat) (wc' ps' : Int32) (cn' va' st' sp' ss' rc' pa' av' : Nat → Int32), M' ≤ 16 → cx_Env L xs P R K' cn' va' st' lo hi → cx_Ms P M' K' ss' →
          wL_law_281 (fun r => r = 1) L xs (wL_law_170 (fun r => r = 1) L xs (nI P) (nI R) (nI (R ^ P)) md th (nI O) kc ks (m + 1)) (nI P) (nI R) (nI (R ^ P)) md th (nI O) (nI j) kc ks (nI P) (nI (R - 1)) (nI M') md th wc' ps' cn' va' st' sp' ss' rc' lo hi pa' av' := by
        intro M' K' wc' ps' cn' va' st' sp' ss' rc' pa' av' hM' E' hms'
        refine la_281 E' (fun wc2 ps2 pa2 av2 => ?_)
        have h := ih (j + 1 + 1) M' K' wc2 ps2 cn' va' st' sp' ss' rc' pa2 av2 (by omega) hM' E' hms'
        rw [pk_m1, ← nI_1] at h
        exact h
      refine nm_e (xo_count hq b2 hcn ?_)
      rw [nI_1]
      refine la_val hL (by omega) (by omega) (nm_e (br_c (fun _ => ?_) (fun _ => br_c (fun _ => ?_) (fun _ => ?_))))
      · exact xo_send hq b2 (by omega) hM hcn hKE (fun r => J M K _ _ _ _ _ _ _ _ _ _ hM E hms)
          (fun hl hl2 r st' a => J (M + 1) (cx_up K q) _ _ _ _ _ _ _ _ _ _ (by omega) (cx_Env_ev E hq (by omega) a) (cx_Ms_send hq hms))
      · exact xo_receive hq b2 (by omega) hM hcn hKE hms (fun r => J M K _ _ _ _ _ _ _ _ _ _ hM E hms)
          (fun hl m' r st' a => J M (cx_up K q) _ _ _ _ _ _ _ _ _ _ hM (cx_Env_ev E hq (by omega) a) (cx_Ms_up q hms))
      · exact xo_local hq b2 (by omega) hcn hKE (fun r => J M K _ _ _ _ _ _ _ _ _ _ hM E hms)
          (fun hl r st' a => J M (cx_up K q) _ _ _ _ _ _ _ _ _ _ hM (cx_Env_ev E hq (by omega) a) (cx_Ms_up q hms))
end
section
variable {L P R kc ks : Nat} {xs : Nat → Int32} {md th : Int32}
theorem la_94 (hL : L ≤ 260) (hb : cx_PR P R) (lo0 hi0 : Nat → Int32) :
    ∃ n, wL_law_94 (fun r => r = 1) L xs (nI P) (nI R) (nI (R ^ P)) md th kc ks n 0 (nI P) (nI (R - 1)) 0 md th (-1) (-1) (fun _ => 0) (fun _ => 0) (fun _ => 0) (fun _ => 0) (fun _ => 0) (fun _ => 0) lo0 hi0 (fun _ => 0) (fun _ => 0) := by
  obtain ⟨b1, b2, b3, b4, b5, b6⟩ := cx_PR_b hb
  refine cx_inv (σ := (Nat → Int32) × (Nat → Int32) × (Nat → Int32)) (fun n i s => wL_law_94 (fun r => r = 1) L xs (nI P) (nI R) (nI (R ^ P)) md th kc ks n (nI i) (nI P) (nI (R - 1)) 0 md th (-1) (-1) (fun _ => 0) s.1 (fun _ => 0) (fun _ => 0) (fun _ => 0) (fun _ => 0) s.2.1 s.2.2 (fun _ => 0) (fun _ => 0))
    (fun i s => ∀ p, p < i → s.1 (p * 7 + 0) = cx_vl L xs p 0 ∧ s.2.1 p = cx_lo L xs p ∧ s.2.2 p = cx_hi L xs p) P ((fun _ => 0), lo0, hi0) (fun p hp => absurd hp (Nat.not_lt_zero p))
    (fun n s I => br_t (nI_le (Nat.le_refl P) (by omega)) ?_) (fun n i s hi I k => br_f (nI_ge hi (by omega)) ?_)
  · obtain ⟨va, lo, hi⟩ := s
    have E : cx_Env L xs P R (fun _ => 0) (fun _ => 0) va (fun _ => 0) lo hi := ⟨hL, hb, fun _ => rfl, fun _ => (show 0 < R by omega), fun _ _ => rfl, fun p hp k hk => by
      have e : k = 0 := Nat.le_zero.mp hk
      subst e
      exact (I p hp).1, fun p hp => (I p hp).2, fun _ _ _ _ => rfl⟩
    have ms : cx_Ms P 0 (fun _ => 0) (fun _ => 0) := fun m hm => absurd hm (Nat.not_lt_zero m)
    refine pk_le L 48 (fun le => ?_) (fun lt => ?_)
    · have h := la_170 (kc := kc) (ks := ks) (O := 0) (md := md) (th := th) hb (by omega) 1 0 0 (fun _ => 0) (-1) (-1) (fun _ => 0) va (fun _ => 0) (fun _ => 0) (fun _ => 0) (fun _ => 0) (fun _ => 0) (fun _ => 0) (by omega) (by omega) E ms
      exact ⟨_, h⟩
    · have e : nI L - 48 = nI (L - 48) := pk_sub (b := 48) (by omega)
      refine nm_r e ?_
      have h := la_170 (kc := kc) (ks := ks) (O := L - 48) (md := md) (th := th) hb (by omega) (L - 48 + 1) 0 0 (fun _ => 0) (-1) (-1) (fun _ => 0) va (fun _ => 0) (fun _ => 0) (fun _ => 0) (fun _ => 0) (fun _ => 0) (fun _ => 0) (by omega) (by omega) E ms
      exact ⟨_, h⟩
  · obtain ⟨va, lo, hi'⟩ := s
    refine la_val (k := 0) hL (by omega) (by omega) (xo_setInitial (K := fun _ => 0) hi b2 (fun _ => rfl) rfl (br_f xw_10 (la_lo hL (by omega) (la_hi hL (by omega) (xo_setBounds hi b2 (br_f xw_10 (nm_r (nI_1 i) ?_)))))))
    refine k (upd va (i * 7 + 0) (cx_vl L xs i 0), upd lo i (cx_lo L xs i), upd hi' i (cx_hi L xs i)) (fun p hp => ?_)
    by_cases e : p = i
    · subst e
      exact ⟨pk_us, pk_us, pk_us⟩
    · have h := I p (by omega)
      refine ⟨?_, ?_, ?_⟩
      · show upd va (i * 7 + 0) (cx_vl L xs i 0) (p * 7 + 0) = _
        rw [pk_un (by omega)]
        exact h.1
      · show upd lo i (cx_lo L xs i) p = _
        rw [pk_un e]
        exact h.2.1
      · show upd hi' i (cx_hi L xs i) p = _
        rw [pk_un e]
        exact h.2.2
theorem la_30 {E : Nat} (hL : L ≤ 260) (hb : cx_PR P (E + 1)) (hE : 1 ≤ E) : wL_law_30 (fun r => r = 1) L xs (nI P) (nI E) 0 0 := by
  obtain ⟨b1, b2, b3, b4, b5, b6⟩ := cx_PR_b hb
  unfold wL_law_30
  refine nm_r (nI_1 E) (la_pw (by omega) (la_cell (k := 1) hL (by omega) ⟨by decide, ?_⟩))
  obtain ⟨m, hm, em⟩ := pk_andE (cx_cl L xs 1) (m := 3) 2 (by decide)
  have e3 : nI m - nI m / 3 * 3 = nI (m % 3) := pk_rem (d := 3) (by omega) (by omega) (by omega)
  rw [em, e3]
  refine nm_e (la_cell (k := 2) hL (by omega) (nm_e ⟨by omega, by omega, 10, 4320, by omega, by omega, ?_⟩))
  refine xo_init b1 b2 hE (by omega) (by omega) (by omega) (xo_setPredicate ?_ (br_f xw_10 ?_))
  · have l := Nat.mod_lt m (show 0 < 3 by omega)
    generalize m % 3 = z at l
    have o : z = 0 ∨ z = 1 ∨ z = 2 := by omega
    rcases o with rfl | rfl | rfl
    · exact Or.inl rfl
    · exact Or.inr (Or.inl rfl)
    · exact Or.inr (Or.inr rfl)
  · exact la_94 (R := E + 1) hL hb _ _
end
theorem i_vc (xs : Nat → Int32) (L : Nat) (hL : L ≤ 260) : wpL_law (fun r => r = 1) L xs := by
  unfold wpL_law
  refine la_cell (k := 0) hL (by omega) ?_
  obtain ⟨b, hb, eb⟩ := pk_andE (cx_cl L xs 0) (m := 3) 2 (by decide)
  rw [eb]
  refine nm_r (e' := nI (1 + b)) (nI_add 1 b) ?_
  have o : b = 0 ∨ b = 1 ∨ b = 2 ∨ b = 3 := by omega
  rcases o with rfl | rfl | rfl | rfl
  · exact br_f (by decide) (la_30 (P := 1) (E := 6) hL (Or.inl ⟨rfl, rfl⟩) (by omega))
  · exact br_f (by decide) (la_30 (P := 2) (E := 6) hL (Or.inr (Or.inl ⟨rfl, rfl⟩)) (by omega))
  · exact br_t (by decide) (br_t rfl (la_30 (P := 3) (E := 4) hL (Or.inr (Or.inr (Or.inl ⟨rfl, rfl⟩))) (by omega)))
  · exact br_t (by decide) (br_f (by decide) (la_30 (P := 4) (E := 2) hL (Or.inr (Or.inr (Or.inr ⟨rfl, rfl⟩))) (by omega)))
end
