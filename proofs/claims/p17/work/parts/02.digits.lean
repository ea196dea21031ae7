/-! digits of a cut's code: base 8 on the component's side, base 7 on the reference's -/
def cx_d8 (c p : Nat) : Nat := if p = 0 then c / 512 % 8 else if p = 1 then c / 64 % 8 else if p = 2 then c / 8 % 8 else if p = 3 then c % 8 else 0
def cx_d7 (c p : Nat) : Nat := if p = 0 then c / 343 % 7 else if p = 1 then c / 49 % 7 else if p = 2 then c / 7 % 7 else if p = 3 then c % 7 else 0
def cx_w8 (p : Nat) : Nat := if p = 0 then 512 else if p = 1 then 64 else if p = 2 then 8 else 1
def cx_w7 (p : Nat) : Nat := if p = 0 then 343 else if p = 1 then 49 else if p = 2 then 7 else 1
def cx_up (d : Nat → Nat) (p : Nat) : Nat → Nat := fun q => if q = p then d q + 1 else d q
def cx_lv (d : Nat → Nat) : Nat := d 0 + d 1 + d 2 + d 3
def cx_c8 (d : Nat → Nat) : Nat := 512 * d 0 + 64 * d 1 + 8 * d 2 + d 3
def cx_c7 (d : Nat → Nat) : Nat := 343 * d 0 + 49 * d 1 + 7 * d 2 + d 3
theorem cx_up_s (d : Nat → Nat) (p : Nat) : cx_up d p p = d p + 1 := if_pos rfl
theorem cx_up_n {d : Nat → Nat} {p q : Nat} (h : q ≠ p) : cx_up d p q = d q := if_neg h
theorem cx_p4 {p : Nat} (hp : p < 4) : p = 0 ∨ p = 1 ∨ p = 2 ∨ p = 3 := by omega
theorem cx_8_lt (c p : Nat) : cx_d8 c p < 8 := by
  unfold cx_d8
  repeat' split
  all_goals omega
theorem cx_7_lt (c p : Nat) : cx_d7 c p < 7 := by
  unfold cx_d7
  repeat' split
  all_goals omega
theorem cx_8_4 {c p : Nat} (h : 4 ≤ p) : cx_d8 c p = 0 := by
  unfold cx_d8
  repeat' split
  all_goals omega
theorem cx_7_4 {c p : Nat} (h : 4 ≤ p) : cx_d7 c p = 0 := by
  unfold cx_d7
  repeat' split
  all_goals omega
theorem cx_8_z : cx_d8 0 = fun _ => 0 := by
  funext p
  unfold cx_d8
  repeat' split
  all_goals rfl
theorem cx_7_z : cx_d7 0 = fun _ => 0 := by
  funext p
  unfold cx_d7
  repeat' split
  all_goals rfl
theorem cx_8_step {c p : Nat} (hc : c < 4096) (hp : p < 4) (h : cx_d8 c p < 7) : cx_d8 (c + cx_w8 p) = cx_up (cx_d8 c) p ∧ c + cx_w8 p < 4096 := by
  rcases cx_p4 hp with rfl | rfl | rfl | rfl
  · have h0 : c / 512 % 8 < 7 := h
    refine ⟨funext fun q => ?_, ?_⟩
    · show cx_d8 (c + 512) q = if q = 0 then cx_d8 c q + 1 else cx_d8 c q
      unfold cx_d8
      repeat' split
      all_goals omega
    · show c + 512 < 4096
      omega
  · have h0 : c / 64 % 8 < 7 := h
    refine ⟨funext fun q => ?_, ?_⟩
    · show cx_d8 (c + 64) q = if q = 1 then cx_d8 c q + 1 else cx_d8 c q
      unfold cx_d8
      repeat' split
      all_goals omega
    · show c + 64 < 4096
      omega
  · have h0 : c / 8 % 8 < 7 := h
    refine ⟨funext fun q => ?_, ?_⟩
    · show cx_d8 (c + 8) q = if q = 2 then cx_d8 c q + 1 else cx_d8 c q
      unfold cx_d8
      repeat' split
      all_goals omega
    · show c + 8 < 4096
      omega
  · have h0 : c % 8 < 7 := h
    refine ⟨funext fun q => ?_, ?_⟩
    · show cx_d8 (c + 1) q = if q = 3 then cx_d8 c q + 1 else cx_d8 c q
      unfold cx_d8
      repeat' split
      all_goals omega
    · show c + 1 < 4096
      omega
theorem cx_7_step {c p : Nat} (hc : c < 2401) (hp : p < 4) (h : cx_d7 c p < 6) : cx_d7 (c + cx_w7 p) = cx_up (cx_d7 c) p ∧ c + cx_w7 p < 2401 := by
  rcases cx_p4 hp with rfl | rfl | rfl | rfl
  · have h0 : c / 343 % 7 < 6 := h
    refine ⟨funext fun q => ?_, ?_⟩
    · show cx_d7 (c + 343) q = if q = 0 then cx_d7 c q + 1 else cx_d7 c q
      unfold cx_d7
      repeat' split
      all_goals omega
    · show c + 343 < 2401
      omega
  · have h0 : c / 49 % 7 < 6 := h
    refine ⟨funext fun q => ?_, ?_⟩
    · show cx_d7 (c + 49) q = if q = 1 then cx_d7 c q + 1 else cx_d7 c q
      unfold cx_d7
      repeat' split
      all_goals omega
    · show c + 49 < 2401
      omega
  · have h0 : c / 7 % 7 < 6 := h
    refine ⟨funext fun q => ?_, ?_⟩
    · show cx_d7 (c + 7) q = if q = 2 then cx_d7 c q + 1 else cx_d7 c q
      unfold cx_d7
      repeat' split
      all_goals omega
    · show c + 7 < 2401
      omega
  · have h0 : c % 7 < 6 := h
    refine ⟨funext fun q => ?_, ?_⟩
    · show cx_d7 (c + 1) q = if q = 3 then cx_d7 c q + 1 else cx_d7 c q
      unfold cx_d7
      repeat' split
      all_goals omega
    · show c + 1 < 2401
      omega
theorem cx_8_of {d : Nat → Nat} (h : ∀ p, p < 4 → d p < 8) (h4 : ∀ p, 4 ≤ p → d p = 0) : cx_d8 (cx_c8 d) = d := by
  have h0 := h 0 (by omega)
  have h1 := h 1 (by omega)
  have h2 := h 2 (by omega)
  have h3 := h 3 (by omega)
  funext q
  by_cases hq : q < 4
  · rcases cx_p4 hq with rfl | rfl | rfl | rfl
    · show (512 * d 0 + 64 * d 1 + 8 * d 2 + d 3) / 512 % 8 = d 0
      omega
    · show (512 * d 0 + 64 * d 1 + 8 * d 2 + d 3) / 64 % 8 = d 1
      omega
    · show (512 * d 0 + 64 * d 1 + 8 * d 2 + d 3) / 8 % 8 = d 2
      omega
    · show (512 * d 0 + 64 * d 1 + 8 * d 2 + d 3) % 8 = d 3
      omega
  · rw [cx_8_4 (by omega), h4 q (by omega)]
theorem cx_7_of {d : Nat → Nat} (h : ∀ p, p < 4 → d p < 7) (h4 : ∀ p, 4 ≤ p → d p = 0) : cx_d7 (cx_c7 d) = d := by
  have h0 := h 0 (by omega)
  have h1 := h 1 (by omega)
  have h2 := h 2 (by omega)
  have h3 := h 3 (by omega)
  funext q
  by_cases hq : q < 4
  · rcases cx_p4 hq with rfl | rfl | rfl | rfl
    · show (343 * d 0 + 49 * d 1 + 7 * d 2 + d 3) / 343 % 7 = d 0
      omega
    · show (343 * d 0 + 49 * d 1 + 7 * d 2 + d 3) / 49 % 7 = d 1
      omega
    · show (343 * d 0 + 49 * d 1 + 7 * d 2 + d 3) / 7 % 7 = d 2
      omega
    · show (343 * d 0 + 49 * d 1 + 7 * d 2 + d 3) % 7 = d 3
      omega
  · rw [cx_7_4 (by omega), h4 q (by omega)]
theorem cx_8_c {c : Nat} (hc : c < 4096) : cx_c8 (cx_d8 c) = c := by
  show 512 * (c / 512 % 8) + 64 * (c / 64 % 8) + 8 * (c / 8 % 8) + c % 8 = c
  omega
theorem cx_7_c {c : Nat} (hc : c < 2401) : cx_c7 (cx_d7 c) = c := by
  show 343 * (c / 343 % 7) + 49 * (c / 49 % 7) + 7 * (c / 7 % 7) + c % 7 = c
  omega
theorem cx_c8_lt {d : Nat → Nat} (h : ∀ p, p < 4 → d p < 8) : cx_c8 d < 4096 := by
  have h0 := h 0 (by omega)
  have h1 := h 1 (by omega)
  have h2 := h 2 (by omega)
  have h3 := h 3 (by omega)
  unfold cx_c8
  omega
theorem cx_c7_lt {d : Nat → Nat} (h : ∀ p, p < 4 → d p < 7) : cx_c7 d < 2401 := by
  have h0 := h 0 (by omega)
  have h1 := h 1 (by omega)
  have h2 := h 2 (by omega)
  have h3 := h 3 (by omega)
  unfold cx_c7
  omega
/-! the way from base 7 to base 8, and back -/
def cx_f (c : Nat) : Nat := cx_c8 (cx_d7 c)
theorem cx_8_f (c : Nat) : cx_d8 (cx_f c) = cx_d7 c :=
  cx_8_of (fun p _ => Nat.lt_succ_of_lt (cx_7_lt c p)) (fun _ h => cx_7_4 h)
theorem cx_f_lt (c : Nat) : cx_f c < 4096 := cx_c8_lt (fun p _ => Nat.lt_succ_of_lt (cx_7_lt c p))
theorem cx_f_s {c : Nat} (h : c < 2400) : cx_f c < cx_f (c + 1) :=
  co_dec (N := 2400) (P := fun c => cx_f c < cx_f (c + 1)) (by decide +kernel) h
theorem cx_f_m {a : Nat} : ∀ b, a < b → b < 2401 → cx_f a < cx_f b := by
  intro b
  induction b with
  | zero => intro h; omega
  | succ b ih =>
    intro h hb
    have s := cx_f_s (c := b) (by omega)
    by_cases e : a = b
    · rw [e]; exact s
    · exact Nat.lt_trans (ih (by omega) (by omega)) s
theorem cx_g7 {c : Nat} (h : ∀ p, p < 4 → cx_d8 c p < 7) : cx_d7 (cx_c7 (cx_d8 c)) = cx_d8 c := cx_7_of h (fun _ h => cx_8_4 h)
theorem cx_fg {c : Nat} (hc : c < 4096) (h : ∀ p, p < 4 → cx_d8 c p < 7) : cx_f (cx_c7 (cx_d8 c)) = c := by
  unfold cx_f
  rw [cx_g7 h, cx_8_c hc]
def cx_s (c : Nat) : Bool := decide (cx_d8 c 0 < 7) && (decide (cx_d8 c 1 < 7) && (decide (cx_d8 c 2 < 7) && decide (cx_d8 c 3 < 7)))
theorem cx_s_t {c : Nat} (h : ∀ p, p < 4 → cx_d8 c p < 7) : cx_s c = true := by
  unfold cx_s
  rw [decide_eq_true (h 0 (by omega)), decide_eq_true (h 1 (by omega)), decide_eq_true (h 2 (by omega)), decide_eq_true (h 3 (by omega))]
  rfl
theorem cx_list : (List.range 4096).filter cx_s = (List.range 2401).map cx_f := eq_of_beq (by decide +kernel)
/-! how many codes below n have a property -/
noncomputable def cx_b (P : Prop) : Bool := @decide P (Classical.propDecidable P)
theorem cx_b_t {P : Prop} : cx_b P = true ↔ P := @decide_eq_true_iff P (Classical.propDecidable P)
noncomputable def cx_n (Q : Nat → Prop) (n : Nat) : Nat := (List.range n).countP (fun c => cx_b (Q c))
theorem cx_n_0 (Q : Nat → Prop) : cx_n Q 0 = 0 := rfl
theorem cx_n_t {Q : Nat → Prop} {n : Nat} (h : Q n) : cx_n Q (n + 1) = cx_n Q n + 1 := by
  unfold cx_n
  rw [List.range_succ, List.countP_append, List.countP_cons, List.countP_nil, if_pos (cx_b_t.mpr h)]
theorem cx_n_f {Q : Nat → Prop} {n : Nat} (h : ¬ Q n) : cx_n Q (n + 1) = cx_n Q n := by
  unfold cx_n
  rw [List.range_succ, List.countP_append, List.countP_cons, List.countP_nil, if_neg (fun z => h (cx_b_t.mp z))]
  rfl
theorem cx_n_le (Q : Nat → Prop) (n : Nat) : cx_n Q n ≤ n := by
  have h := List.countP_le_length (p := fun c => cx_b (Q c)) (l := List.range n)
  rw [List.length_range] at h
  exact h
theorem cx_n_87 (Q : (Nat → Nat) → Prop) (h : ∀ d, Q d → ∀ p, p < 4 → d p < 7) : cx_n (fun c => Q (cx_d8 c)) 4096 = cx_n (fun c => Q (cx_d7 c)) 2401 := by
  unfold cx_n
  have e1 : (List.range 4096).countP (fun c => cx_b (Q (cx_d8 c))) = ((List.range 4096).filter cx_s).countP (fun c => cx_b (Q (cx_d8 c))) := by
    rw [List.countP_filter]
    apply List.countP_congr
    intro c _
    constructor
    · intro hb
      have hq := cx_b_t.mp hb
      have hs := cx_s_t (h _ hq)
      rw [hb, hs]
      rfl
    · intro hb
      exact (Bool.and_eq_true_iff.mp hb).1
  rw [e1, cx_list, List.countP_map]
  apply List.countP_congr
  intro c _
  show cx_b (Q (cx_d8 (cx_f c))) = true ↔ cx_b (Q (cx_d7 c)) = true
  rw [cx_8_f]
/-! the best cut: least level, then least code -/
def cx_Bst (Q : (Nat → Nat) → Prop) (D : Nat → Nat → Nat) (n b : Nat) : Prop :=
  b < n ∧ Q (D b) ∧ ∀ c, c < n → Q (D c) → cx_lv (D b) < cx_lv (D c) ∨ (cx_lv (D b) = cx_lv (D c) ∧ b ≤ c)
theorem cx_bst_eq {Q : (Nat → Nat) → Prop} (h : ∀ d, Q d → ∀ p, p < 4 → d p < 7) {b b' : Nat} (hb : cx_Bst Q cx_d8 4096 b) (hb' : cx_Bst Q cx_d7 2401 b') : cx_d8 b = cx_d7 b' := by
  obtain ⟨b1, b2, b3⟩ := hb
  obtain ⟨c1, c2, c3⟩ := hb'
  have s := h _ b2
  have g1 := cx_g7 s
  have g2 := cx_fg b1 s
  have gl := cx_c7_lt s
  generalize cx_c7 (cx_d8 b) = b'' at g1 g2 gl
  have f1 := cx_8_f b'
  have x := b3 (cx_f b') (cx_f_lt b') (by rw [f1]; exact c2)
  have y := c3 b'' gl (by rw [g1]; exact b2)
  rw [f1] at x
  rw [g1] at y
  by_cases e : b' = b''
  · rw [e, g1]
  · by_cases l : b' < b''
    · have m := cx_f_m b'' l gl
      omega
    · omega
theorem cx_no_87 {Q : (Nat → Nat) → Prop} (h : ∀ d, Q d → ∀ p, p < 4 → d p < 7) : (∀ c, c < 4096 → ¬ Q (cx_d8 c)) ↔ (∀ c, c < 2401 → ¬ Q (cx_d7 c)) := by
  constructor
  · intro z c _ hq
    exact z (cx_f c) (cx_f_lt c) (by rw [cx_8_f]; exact hq)
  · intro z c _ hq
    have s := h _ hq
    exact z _ (cx_c7_lt s) (by rw [cx_g7 s]; exact hq)
