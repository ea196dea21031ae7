section
theorem pk_us {f : Nat → Int32} {k : Nat} {x : Int32} : upd f k x k = x := if_pos rfl
theorem pk_un {f : Nat → Int32} {k j : Nat} {x : Int32} (h : j ≠ k) : upd f k x j = f j := if_neg h
theorem pk_sub {a b : Nat} (h : b ≤ a) : nI a - nI b = nI (a - b) := by
  obtain ⟨c, rfl⟩ : ∃ c, a = c + b := ⟨a - b, by omega⟩
  rw [← nI_add, Int32.add_sub_cancel, Nat.add_sub_cancel]
theorem pk_m1 (n : Nat) : nI (n + 1) + (-1) = nI n := by
  rw [← nI_1, Int32.add_assoc, show (1 : Int32) + (-1) = 0 from rfl, Int32.add_zero]
theorem pk_mul (a b : Nat) : nI a * nI b = nI (a * b) := (Int32.ofNat_mul a b).symm
theorem pk_div {a d : Nat} (ha : a < 2 ^ 31) (h0 : 0 < d) (hd : d < 2 ^ 31) : nI a / nI d = nI (a / d) := by
  apply Int32.toInt_inj.mp
  rw [lg_idiv_nonneg (by rw [nI_toInt ha]; omega) (by rw [nI_toInt hd]; omega), nI_toInt ha, nI_toInt hd, nI_toInt (Nat.lt_of_le_of_lt (Nat.div_le_self a d) ha)]
  first | rfl | exact (Int.natCast_ediv _ _).symm
theorem pk_rem {a d : Nat} (ha : a < 2 ^ 31) (h0 : 0 < d) (hd : d < 2 ^ 31) : nI a - nI a / nI d * nI d = nI (a % d) := by
  rw [pk_div ha h0 hd, pk_mul, pk_sub (Nat.div_mul_le_self a d)]
  exact congrArg nI (by have := Nat.div_add_mod' a d; omega)
theorem pk_ix (x : Int32) {n : Nat} (hn : n < 2 ^ 31) : x < 0 ∨ nI n ≤ x ∨ ∃ j : Nat, j < n ∧ x = nI j := by
  by_cases h : x < 0
  · exact Or.inl h
  · obtain ⟨j, hj, rfl⟩ := nI_of h
    by_cases h2 : j < n
    · exact Or.inr (Or.inr ⟨j, h2, rfl⟩)
    · exact Or.inr (Or.inl (nI_le (by omega) hj))
theorem pk_le {x y : Int32} {A B : Prop} (a b : Nat) (f : a ≤ b → A) (g : b < a → B) (hx : x = nI a := by rfl) (hy : y = nI b := by rfl) (ha : a < 2 ^ 31 := by omega) (hb : b < 2 ^ 31 := by omega) : (x ≤ y → A) ∧ (¬ x ≤ y → B) := by
  subst hx hy
  rw [nI_leI ha hb]
  exact ⟨f, fun z => g (by omega)⟩
theorem pk_lt {x y : Int32} {A B : Prop} (a b : Nat) (f : a < b → A) (g : b ≤ a → B) (hx : x = nI a := by rfl) (hy : y = nI b := by rfl) (ha : a < 2 ^ 31 := by omega) (hb : b < 2 ^ 31 := by omega) : (x < y → A) ∧ (¬ x < y → B) := by
  subst hx hy
  rw [nI_ltI ha hb]
  exact ⟨f, fun z => g (by omega)⟩
theorem pk_eq {x y : Int32} {A B : Prop} (a b : Nat) (f : a = b → A) (g : a ≠ b → B) (hx : x = nI a := by rfl) (hy : y = nI b := by rfl) (ha : a < 2 ^ 31 := by omega) (hb : b < 2 ^ 31 := by omega) : (x = y → A) ∧ (¬ x = y → B) := by
  subst hx hy
  rw [nI_eq ha hb]
  exact ⟨f, g⟩
theorem pk_in {x : Int32} (n N : Nat) (h : n < N) (hx : x = nI n := by rfl) (hN : N < 2 ^ 31 := by omega) : vp_in x N := by
  subst hx
  exact vp_in_nI h hN
theorem pk_cl {x : Int32} (n : Nat) (hx : x = nI n := by rfl) (h : n < 2 ^ 31 := by omega) : x.toNatClampNeg = n := by
  subst hx
  exact nI_clamp h
theorem pk_tn {n : Nat} (h : n < 2 ^ 32) : (nI n).toBitVec.toNat = n := Nat.mod_eq_of_lt h
theorem pk_and (x : Int32) {m : Int32} (k : Nat) (hm : m.toBitVec.toNat = 2 ^ k - 1) : x &&& m = nI (x.toBitVec.toNat % 2 ^ k) := by
  apply Int32.toBitVec_inj.mp
  apply BitVec.eq_of_toNat_eq
  rw [Int32.toBitVec_and, BitVec.toNat_and, hm, Nat.and_two_pow_sub_one_eq_mod]
  show _ = (BitVec.ofNat 32 _).toNat
  rw [BitVec.toNat_ofNat]
  exact (Nat.mod_eq_of_lt (Nat.lt_of_le_of_lt (Nat.mod_le _ _) x.toBitVec.isLt)).symm
theorem pk_andN {n : Nat} (h : n < 2 ^ 32) {m : Int32} (k : Nat) (hm : m.toBitVec.toNat = 2 ^ k - 1) : nI n &&& m = nI (n % 2 ^ k) := by
  rw [pk_and _ k hm, pk_tn h]
theorem pk_shl (a s : Int32) (k : Nat) (hs : (s.toBitVec.smod 32).toNat = k) : (a <<< s).toBitVec.toNat = a.toBitVec.toNat * 2 ^ k % 2 ^ 32 := by
  show (a.toBitVec <<< (s.toBitVec.smod 32).toNat).toNat = _
  rw [hs, BitVec.toNat_shiftLeft, Nat.shiftLeft_eq]
theorem pk_shlN {n : Nat} (s : Int32) (k : Nat) (hs : (s.toBitVec.smod 32).toNat = k) (h : n * 2 ^ k < 2 ^ 32) : nI n <<< s = nI (n * 2 ^ k) := by
  apply Int32.toBitVec_inj.mp
  apply BitVec.eq_of_toNat_eq
  have hn : n < 2 ^ 32 := Nat.lt_of_le_of_lt (Nat.le_mul_of_pos_right n (Nat.two_pow_pos k)) h
  rw [pk_shl _ _ k hs, pk_tn hn, pk_tn h, Nat.mod_eq_of_lt h]
theorem pk_shr (a s : Int32) (k : Nat) (hs : (s.toBitVec.smod 32).toNat = k) : (a >>> s).toInt = a.toInt >>> k := by
  show (a.toBitVec.sshiftRight (s.toBitVec.smod 32).toNat).toInt = _
  rw [hs, BitVec.toInt_sshiftRight]
  rfl
theorem pk_shrN {n : Nat} (h : n < 2 ^ 31) (s : Int32) (k : Nat) (hs : (s.toBitVec.smod 32).toNat = k) : nI n >>> s = nI (n / 2 ^ k) := by
  apply Int32.toInt_inj.mp
  have h2 : n / 2 ^ k ≤ n := Nat.div_le_self _ _
  rw [pk_shr _ _ k hs, nI_toInt h, nI_toInt (by omega), Int.shiftRight_eq_div_pow]
  rfl
theorem pk_loop {σ : Type} (W : Nat → Nat → σ → Prop) (I : Nat → σ → Prop) (e i0 : Nat) (s : σ) (hi : i0 ≤ e) (h0 : I i0 s) (hx : ∀ n s, I e s → W (n + 1) e s)
    (hs : ∀ n i s, i < e → I i s → (∀ s', I (i + 1) s' → W n (i + 1) s') → W (n + 1) i s) : ∃ n, W n i0 s :=
  ⟨e + 1, loop_i W I e hx hs (e + 1) i0 s hi (by omega) h0⟩
theorem pk_loopD {σ : Type} (W : Nat → Nat → σ → Prop) (I : Nat → σ → Prop) (hx : ∀ n s, I 0 s → W (n + 1) 0 s)
    (hs : ∀ n i s, I (i + 1) s → (∀ s', I i s' → W n i s') → W (n + 1) (i + 1) s) : ∀ (e : Nat) (s : σ), I e s → W (e + 1) e s := by
  intro e
  induction e with
  | zero => exact fun s h => hx 0 s h
  | succ e ih => exact fun s h => hs (e + 1) e s h (fun s' h' => ih s' h')
theorem pk_least (P : Nat → Prop) (h : ∃ k, P k) : ∃ k, P k ∧ ∀ j, j < k → ¬ P j := by
  obtain ⟨k, hk⟩ := h
  induction k using Nat.strongRecOn with
  | ind k ih =>
    by_cases e : ∃ j, j < k ∧ P j
    · obtain ⟨j, hj, pj⟩ := e
      exact ih j hj pj
    · exact ⟨k, hk, fun j hj pj => e ⟨j, hj, pj⟩⟩
theorem ek_if {c d A B : Prop} (e : c ↔ d) (f : d → A) (g : ¬ d → B) : (c → A) ∧ (¬ c → B) :=
  ⟨fun z => f (e.mp z), fun z => g (fun y => z (e.mpr y))⟩
theorem co_4 {P : Nat → Prop} (h0 : P 0) (h1 : P 1) (h2 : P 2) (h3 : P 3) {i : Nat} (hi : i < 4) : P i :=
  match i, hi with
  | 0, _ => h0
  | 1, _ => h1
  | 2, _ => h2
  | 3, _ => h3
theorem co_dec {N : Nat} {P : Nat → Prop} [DecidablePred P] (h : (List.range N).all (fun i => decide (P i)) = true) {i : Nat} (hi : i < N) : P i := by
  have := List.all_eq_true.mp h i (List.mem_range.mpr hi)
  exact of_decide_eq_true this
end
section
/-! digits of a cut's code: base 8 on the component's side, base 7 on the reference's -/
def cx_d8 (c p : Nat) : Nat := if p = 0 then c / 512 % 8 else if p = 1 then c / 64 % 8 else if p = 2 then c / 8 % 8 else if p = 3 then c % 8 else 0
def cx_d7 (c p : Nat) : Nat := if p = 0 then c / 343 % 7 else if p = 1 then c / 49 % 7 else if p = 2 then c / 7 % 7 else if p = 3 then c % 7 else 0
def cx_w8 (p : Nat) : Nat := if p = 0 then 512 else if p = 1 then 64 else if p = 2 then 8 else 1
def cx_w7 (p : Nat) : Nat := if p = 0 then 343 else if p = 1 then 49 else if p = 2 then 7 else 1
def cx_up (d : Nat → Nat) (p : Nat) : Nat → Nat := fun q => if q = p then d q + 1 else d q
def cx_lv (d : Nat → Nat) : Nat := d 0 + d 1 + d 2 + d 3
def cx_c8 (d : Nat → Nat) : Nat := 512 * d 0 + 64 * d 1 + 8 * d 2 + d 3
def cx_c7 (d : Nat → Nat) : Nat := 343 * d 0 + 49 * d 1 + 7 * d 2 + d 3
theorem cx_up_s (d : Nat → Nat) (p : Nat) : cx_up d p p = d p + 1 := if_pos rfl
theorem cx_up_n {d : Nat → Nat} {p q : Nat} (h : q ≠ p) : cx_up d p q = d q := if_neg h
theorem cx_p4 {p : Nat} (hp : p < 4) : p = 0 ∨ p = 1 ∨ p = 2 ∨ p = 3 := by omega
theorem cx_8_lt (c p : Nat) : cx_d8 c p < 8 := by
  unfold cx_d8
  repeat' split
  all_goals omega
theorem cx_7_lt (c p : Nat) : cx_d7 c p < 7 := by
  unfold cx_d7
  repeat' split
  all_goals omega
theorem cx_8_4 {c p : Nat} (h : 4 ≤ p) : cx_d8 c p = 0 := by
  unfold cx_d8
  repeat' split
  all_goals omega
theorem cx_7_4 {c p : Nat} (h : 4 ≤ p) : cx_d7 c p = 0 := by
  unfold cx_d7
  repeat' split
  all_goals omega
theorem cx_8_z : cx_d8 0 = fun _ => 0 := by
  funext p
  unfold cx_d8
  repeat' split
  all_goals rfl
theorem cx_7_z : cx_d7 0 = fun _ => 0 := by
  funext p
  unfold cx_d7
  repeat' split
  all_goals rfl
theorem cx_8_step {c p : Nat} (hc : c < 4096) (hp : p < 4) (h : cx_d8 c p < 7) : cx_d8 (c + cx_w8 p) = cx_up (cx_d8 c) p ∧ c + cx_w8 p < 4096 := by
  rcases cx_p4 hp with rfl | rfl | rfl | rfl
  · have h0 : c / 512 % 8 < 7 := h
    refine ⟨funext fun q => ?_, ?_⟩
    · show cx_d8 (c + 512) q = if q = 0 then cx_d8 c q + 1 else cx_d8 c q
      unfold cx_d8
      repeat' split
      all_goals omega
    · show c + 512 < 4096
      omega
  · have h0 : c / 64 % 8 < 7 := h
    refine ⟨funext fun q => ?_, ?_⟩
    · show cx_d8 (c + 64) q = if q = 1 then cx_d8 c q + 1 else cx_d8 c q
      unfold cx_d8
      repeat' split
      all_goals omega
    · show c + 64 < 4096
      omega
  · have h0 : c / 8 % 8 < 7 := h
    refine ⟨funext fun q => ?_, ?_⟩
    · show cx_d8 (c + 8) q = if q = 2 then cx_d8 c q + 1 else cx_d8 c q
      unfold cx_d8
      repeat' split
      all_goals omega
    · show c + 8 < 4096
      omega
  · have h0 : c % 8 < 7 := h
    refine ⟨funext fun q => ?_, ?_⟩
    · show cx_d8 (c + 1) q = if q = 3 then cx_d8 c q + 1 else cx_d8 c q
      unfold cx_d8
      repeat' split
      all_goals omega
    · show c + 1 < 4096
      omega
theorem cx_7_step {c p : Nat} (hc : c < 2401) (hp : p < 4) (h : cx_d7 c p < 6) : cx_d7 (c + cx_w7 p) = cx_up (cx_d7 c) p ∧ c + cx_w7 p < 2401 := by
  rcases cx_p4 hp with rfl | rfl | rfl | rfl
  · have h0 : c / 343 % 7 < 6 := h
    refine ⟨funext fun q => ?_, ?_⟩
    · show cx_d7 (c + 343) q = if q = 0 then cx_d7 c q + 1 else cx_d7 c q
      unfold cx_d7
      repeat' split
      all_goals omega
    · show c + 343 < 2401
      omega
  · have h0 : c / 49 % 7 < 6 := h
    refine ⟨funext fun q => ?_, ?_⟩
    · show cx_d7 (c + 49) q = if q = 1 then cx_d7 c q + 1 else cx_d7 c q
      unfold cx_d7
      repeat' split
      all_goals omega
    · show c + 49 < 2401
      omega
  · have h0 : c / 7 % 7 < 6 := h
    refine ⟨funext fun q => ?_, ?_⟩
    · show cx_d7 (c + 7) q = if q = 2 then cx_d7 c q + 1 else cx_d7 c q
      unfold cx_d7
      repeat' split
      all_goals omega
    · show c + 7 < 2401
      omega
  · have h0 : c % 7 < 6 := h
    refine ⟨funext fun q => ?_, ?_⟩
    · show cx_d7 (c + 1) q = if q = 3 then cx_d7 c q + 1 else cx_d7 c q
      unfold cx_d7
      repeat' split
      all_goals omega
    · show c + 1 < 2401
      omega
theorem cx_8_of {d : Nat → Nat} (h : ∀ p, p < 4 → d p < 8) (h4 : ∀ p, 4 ≤ p → d p = 0) : cx_d8 (cx_c8 d) = d := by
  have h0 := h 0 (by omega)
  have h1 := h 1 (by omega)
  have h2 := h 2 (by omega)
  have h3 := h 3 (by omega)
  funext q
  by_cases hq : q < 4
  · rcases cx_p4 hq with rfl | rfl | rfl | rfl
    · show (512 * d 0 + 64 * d 1 + 8 * d 2 + d 3) / 512 % 8 = d 0
      omega
    · show (512 * d 0 + 64 * d 1 + 8 * d 2 + d 3) / 64 % 8 = d 1
      omega
    · show (512 * d 0 + 64 * d 1 + 8 * d 2 + d 3) / 8 % 8 = d 2
      omega
    · show (512 * d 0 + 64 * d 1 + 8 * d 2 + d 3) % 8 = d 3
      omega
  · rw [cx_8_4 (by omega), h4 q (by omega)]
theorem cx_7_of {d : Nat → Nat} (h : ∀ p, p < 4 → d p < 7) (h4 : ∀ p, 4 ≤ p → d p = 0) : cx_d7 (cx_c7 d) = d := by
  have h0 := h 0 (by omega)
  have h1 := h 1 (by omega)
  have h2 := h 2 (by omega)
  have h3 := h 3 (by omega)
  funext q
  by_cases hq : q < 4
  · rcases cx_p4 hq with rfl | rfl | rfl | rfl
    · show (343 * d 0 + 49 * d 1 + 7 * d 2 + d 3) / 343 % 7 = d 0
      omega
    · show (343 * d 0 + 49 * d 1 + 7 * d 2 + d 3) / 49 % 7 = d 1
      omega
    · show (343 * d 0 + 49 * d 1 + 7 * d 2 + d 3) / 7 % 7 = d 2
      omega
    · show (343 * d 0 + 49 * d 1 + 7 * d 2 + d 3) % 7 = d 3
      omega
  · rw [cx_7_4 (by omega), h4 q (by omega)]
theorem cx_8_c {c : Nat} (hc : c < 4096) : cx_c8 (cx_d8 c) = c := by
  show 512 * (c / 512 % 8) + 64 * (c / 64 % 8) + 8 * (c / 8 % 8) + c % 8 = c
  omega
theorem cx_7_c {c : Nat} (hc : c < 2401) : cx_c7 (cx_d7 c) = c := by
  show 343 * (c / 343 % 7) + 49 * (c / 49 % 7) + 7 * (c / 7 % 7) + c % 7 = c
  omega
theorem cx_c8_lt {d : Nat → Nat} (h : ∀ p, p < 4 → d p < 8) : cx_c8 d < 4096 := by
  have h0 := h 0 (by omega)
  have h1 := h 1 (by omega)
  have h2 := h 2 (by omega)
  have h3 := h 3 (by omega)
  unfold cx_c8
  omega
theorem cx_c7_lt {d : Nat → Nat} (h : ∀ p, p < 4 → d p < 7) : cx_c7 d < 2401 := by
  have h0 := h 0 (by omega)
  have h1 := h 1 (by omega)
  have h2 := h 2 (by omega)
  have h3 := h 3 (by omega)
  unfold cx_c7
  omega
/-! the way from base 7 to base 8, and back -/
def cx_f (c : Nat) : Nat := cx_c8 (cx_d7 c)
theorem cx_8_f (c : Nat) : cx_d8 (cx_f c) = cx_d7 c :=
  cx_8_of (fun p _ => Nat.lt_succ_of_lt (cx_7_lt c p)) (fun _ h => cx_7_4 h)
theorem cx_f_lt (c : Nat) : cx_f c < 4096 := cx_c8_lt (fun p _ => Nat.lt_succ_of_lt (cx_7_lt c p))
theorem cx_f_s {c : Nat} (h : c < 2400) : cx_f c < cx_f (c + 1) :=
  co_dec (N := 2400) (P := fun c => cx_f c < cx_f (c + 1)) (by decide +kernel) h
theorem cx_f_m {a : Nat} : ∀ b, a < b → b < 2401 → cx_f a < cx_f b := by
  intro b
  induction b with
  | zero => intro h; omega
  | succ b ih =>
    intro h hb
    have s := cx_f_s (c := b) (by omega)
    by_cases e : a = b
    · rw [e]; exact s
    · exact Nat.lt_trans (ih (by omega) (by omega)) s
theorem cx_g7 {c : Nat} (h : ∀ p, p < 4 → cx_d8 c p < 7) : cx_d7 (cx_c7 (cx_d8 c)) = cx_d8 c := cx_7_of h (fun _ h => cx_8_4 h)
theorem cx_fg {c : Nat} (hc : c < 4096) (h : ∀ p, p < 4 → cx_d8 c p < 7) : cx_f (cx_c7 (cx_d8 c)) = c := by
  unfold cx_f
  rw [cx_g7 h, cx_8_c hc]
def cx_s (c : Nat) : Bool := decide (cx_d8 c 0 < 7) && (decide (cx_d8 c 1 < 7) && (decide (cx_d8 c 2 < 7) && decide (cx_d8 c 3 < 7)))
theorem cx_s_t {c : Nat} (h : ∀ p, p < 4 → cx_d8 c p < 7) : cx_s c = true := by
  unfold cx_s
  rw [decide_eq_true (h 0 (by omega)), decide_eq_true (h 1 (by omega)), decide_eq_true (h 2 (by omega)), decide_eq_true (h 3 (by omega))]
  rfl
theorem cx_list : (List.range 4096).filter cx_s = (List.range 2401).map cx_f := eq_of_beq (by decide +kernel)
/-! how many codes below n have a property -/
noncomputable def cx_b (P : Prop) : Bool := @decide P (Classical.propDecidable P)
theorem cx_b_t {P : Prop} : cx_b P = true ↔ P := @decide_eq_true_iff P (Classical.propDecidable P)
noncomputable def cx_n (Q : Nat → Prop) (n : Nat) : Nat := (List.range n).countP (fun c => cx_b (Q c))
theorem cx_n_0 (Q : Nat → Prop) : cx_n Q 0 = 0 := rfl
theorem cx_n_t {Q : Nat → Prop} {n : Nat} (h : Q n) : cx_n Q (n + 1) = cx_n Q n + 1 := by
  unfold cx_n
  rw [List.range_succ, List.countP_append, List.countP_cons, List.countP_nil, if_pos (cx_b_t.mpr h)]
theorem cx_n_f {Q : Nat → Prop} {n : Nat} (h : ¬ Q n) : cx_n Q (n + 1) = cx_n Q n := by
  unfold cx_n
  rw [List.range_succ, List.countP_append, List.countP_cons, List.countP_nil, if_neg (fun z => h (cx_b_t.mp z))]
  rfl
theorem cx_n_le (Q : Nat → Prop) (n : Nat) : cx_n Q n ≤ n := by
  have h := List.countP_le_length (p := fun c => cx_b (Q c)) (l := List.range n)
  rw [List.length_range] at h
  exact h
theorem cx_n_87 (Q : (Nat → Nat) → Prop) (h : ∀ d, Q d → ∀ p, p < 4 → d p < 7) : cx_n (fun c => Q (cx_d8 c)) 4096 = cx_n (fun c => Q (cx_d7 c)) 2401 := by
  unfold cx_n
  have e1 : (List.range 4096).countP (fun c => cx_b (Q (cx_d8 c))) = ((List.range 4096).filter cx_s).countP (fun c => cx_b (Q (cx_d8 c))) := by
    rw [List.countP_filter]
    apply List.countP_congr
    intro c _
    constructor
    · intro hb
      have hq := cx_b_t.mp hb
      have hs := cx_s_t (h _ hq)
      rw [hb, hs]
      rfl
    · intro hb
      exact (Bool.and_eq_true_iff.mp hb).1
  rw [e1, cx_list, List.countP_map]
  apply List.countP_congr
  intro c _
  show cx_b (Q (cx_d8 (cx_f c))) = true ↔ cx_b (Q (cx_d7 c)) = true
  rw [cx_8_f]
/-! the best cut: least level, then least code -/
def cx_Bst (Q : (Nat → Nat) → Prop) (D : Nat → Nat → Nat) (n b : Nat) : Prop :=
  b < n ∧ Q (D b) ∧ ∀ c, c < n → Q (D c) → cx_lv (D b) < cx_lv (D c) ∨ (cx_lv (D b) = cx_lv (D c) ∧ b ≤ c)
theorem cx_bst_eq {Q : (Nat → Nat) → Prop} (h : ∀ d, Q d → ∀ p, p < 4 → d p < 7) {b b' : Nat} (hb : cx_Bst Q cx_d8 4096 b) (hb' : cx_Bst Q cx_d7 2401 b') : cx_d8 b = cx_d7 b' := by
  obtain ⟨b1, b2, b3⟩ := hb
  obtain ⟨c1, c2, c3⟩ := hb'
  have s := h _ b2
  have g1 := cx_g7 s
  have g2 := cx_fg b1 s
  have gl := cx_c7_lt s
  generalize cx_c7 (cx_d8 b) = b'' at g1 g2 gl
  have f1 := cx_8_f b'
  have x := b3 (cx_f b') (cx_f_lt b') (by rw [f1]; exact c2)
  have y := c3 b'' gl (by rw [g1]; exact b2)
  rw [f1] at x
  rw [g1] at y
  by_cases e : b' = b''
  · rw [e, g1]
  · by_cases l : b' < b''
    · have m := cx_f_m b'' l gl
      omega
    · omega
theorem cx_no_87 {Q : (Nat → Nat) → Prop} (h : ∀ d, Q d → ∀ p, p < 4 → d p < 7) : (∀ c, c < 4096 → ¬ Q (cx_d8 c)) ↔ (∀ c, c < 2401 → ¬ Q (cx_d7 c)) := by
  constructor
  · intro z c _ hq
    exact z (cx_f c) (cx_f_lt c) (by rw [cx_8_f]; exact hq)
  · intro z c _ hq
    have s := h _ hq
    exact z _ (cx_c7_lt s) (by rw [cx_g7 s]; exact hq)
end
section
/-! cuts from which the final cut can be reached through good cuts alone -/
def cx_A (G : (Nat → Nat) → Prop) (K : Nat → Nat) (P : Nat) : Nat → (Nat → Nat) → Prop
  | 0 => fun _ => False
  | n + 1 => fun d => G d ∧ ((∀ p, p < 4 → d p = K p) ∨ ∃ p, p < P ∧ d p < K p ∧ cx_A G K P n (cx_up d p))
theorem cx_A_s (G : (Nat → Nat) → Prop) (K : Nat → Nat) (P n : Nat) (d : Nat → Nat) : cx_A G K P (n + 1) d ↔ (G d ∧ ((∀ p, p < 4 → d p = K p) ∨ ∃ p, p < P ∧ d p < K p ∧ cx_A G K P n (cx_up d p))) := Iff.rfl
def cx_R (G : (Nat → Nat) → Prop) (K : Nat → Nat) (P : Nat) (d : Nat → Nat) : Prop := cx_A G K P 26 d
theorem cx_lv_up {d : Nat → Nat} {p : Nat} (hp : p < 4) : cx_lv (cx_up d p) = cx_lv d + 1 := by
  unfold cx_lv cx_up
  rcases cx_p4 hp with rfl | rfl | rfl | rfl
  · show d 0 + 1 + d 1 + d 2 + d 3 = d 0 + d 1 + d 2 + d 3 + 1
    omega
  · show d 0 + (d 1 + 1) + d 2 + d 3 = d 0 + d 1 + d 2 + d 3 + 1
    omega
  · show d 0 + d 1 + (d 2 + 1) + d 3 = d 0 + d 1 + d 2 + d 3 + 1
    omega
  · show d 0 + d 1 + d 2 + (d 3 + 1) = d 0 + d 1 + d 2 + d 3 + 1
    omega
theorem cx_lv_le {d K : Nat → Nat} (h : ∀ p, p < 4 → d p ≤ K p) : cx_lv d ≤ cx_lv K := by
  have h0 := h 0 (by omega)
  have h1 := h 1 (by omega)
  have h2 := h 2 (by omega)
  have h3 := h 3 (by omega)
  unfold cx_lv
  omega
theorem cx_lv_eq {d K : Nat → Nat} (h : ∀ p, p < 4 → d p = K p) : cx_lv d = cx_lv K := by
  have h0 := h 0 (by omega)
  have h1 := h 1 (by omega)
  have h2 := h 2 (by omega)
  have h3 := h 3 (by omega)
  unfold cx_lv
  omega
theorem cx_lv_all {d K : Nat → Nat} (h : ∀ p, p < 4 → d p ≤ K p) (e : cx_lv d = cx_lv K) {p : Nat} (hp : p < 4) : d p = K p := by
  have h0 := h 0 (by omega)
  have h1 := h 1 (by omega)
  have h2 := h 2 (by omega)
  have h3 := h 3 (by omega)
  unfold cx_lv at e
  rcases cx_p4 hp with rfl | rfl | rfl | rfl <;> omega
theorem cx_lv_6 {K : Nat → Nat} (h : ∀ p, p < 4 → K p ≤ 6) : cx_lv K ≤ 24 := by
  have h0 := h 0 (by omega)
  have h1 := h 1 (by omega)
  have h2 := h 2 (by omega)
  have h3 := h 3 (by omega)
  unfold cx_lv
  omega
theorem cx_A_st {G : (Nat → Nat) → Prop} {K : Nat → Nat} {P : Nat} (hG : ∀ d, G d → ∀ p, p < 4 → d p ≤ K p) (hP : P ≤ 4) : ∀ n d, cx_lv K < cx_lv d + n → (cx_A G K P n d ↔ cx_A G K P (n + 1) d) := by
  intro n
  induction n with
  | zero =>
    intro d h
    constructor
    · exact fun z => z.elim
    · intro z
      have g := cx_lv_le (hG d ((cx_A_s G K P 0 d).mp z).1)
      omega
  | succ n ih =>
    intro d h
    have e : ∀ p, p < P → (cx_A G K P n (cx_up d p) ↔ cx_A G K P (n + 1) (cx_up d p)) := fun p hp => ih (cx_up d p) (by rw [cx_lv_up (by omega)]; omega)
    rw [cx_A_s G K P n d, cx_A_s G K P (n + 1) d]
    constructor
    · intro z
      obtain ⟨g, r⟩ := z
      refine ⟨g, ?_⟩
      rcases r with f | ⟨p, hp, hk, ha⟩
      · exact Or.inl f
      · exact Or.inr ⟨p, hp, hk, (e p hp).mp ha⟩
    · intro z
      obtain ⟨g, r⟩ := z
      refine ⟨g, ?_⟩
      rcases r with f | ⟨p, hp, hk, ha⟩
      · exact Or.inl f
      · exact Or.inr ⟨p, hp, hk, (e p hp).mpr ha⟩
theorem cx_R_iff {G : (Nat → Nat) → Prop} {K : Nat → Nat} {P : Nat} (hG : ∀ d, G d → ∀ p, p < 4 → d p ≤ K p) (hP : P ≤ 4) (hK : ∀ p, p < 4 → K p ≤ 6) (d : Nat → Nat) :
    cx_R G K P d ↔ (G d ∧ ((∀ p, p < 4 → d p = K p) ∨ ∃ p, p < P ∧ d p < K p ∧ cx_R G K P (cx_up d p))) :=
  (cx_A_st hG hP 26 d (by have := cx_lv_6 hK; omega)).trans (cx_A_s G K P 26 d)
/-! the least avoiding path -/
noncomputable def cx_ls (S : Nat → Prop) : Nat := @dite Nat (∃ k, S k ∧ ∀ j, j < k → ¬ S j) (Classical.propDecidable _) (fun h => h.choose) (fun _ => 0)
theorem cx_ls_s {S : Nat → Prop} (h : ∃ k, S k) : S (cx_ls S) ∧ ∀ j, j < cx_ls S → ¬ S j := by
  have h' := pk_least S h
  unfold cx_ls
  rw [dif_pos h']
  exact h'.choose_spec
theorem cx_ls_u {S : Nat → Prop} {k : Nat} (h : S k) (hk : ∀ j, j < k → ¬ S j) : cx_ls S = k := by
  have z := cx_ls_s ⟨k, h⟩
  have a : ¬ cx_ls S < k := fun l => hk _ l z.1
  have b : ¬ k < cx_ls S := fun l => z.2 _ l h
  omega
def cx_S (G : (Nat → Nat) → Prop) (K : Nat → Nat) (P : Nat) (d : Nat → Nat) (p : Nat) : Prop := p < P ∧ d p < K p ∧ cx_R G K P (cx_up d p)
noncomputable def cx_D (G : (Nat → Nat) → Prop) (K : Nat → Nat) (P : Nat) : Nat → Nat → Nat
  | 0 => fun _ => 0
  | n + 1 => cx_up (cx_D G K P n) (cx_ls (cx_S G K P (cx_D G K P n)))
theorem cx_D_s (G : (Nat → Nat) → Prop) (K : Nat → Nat) (P n : Nat) : cx_D G K P (n + 1) = cx_up (cx_D G K P n) (cx_ls (cx_S G K P (cx_D G K P n))) := rfl
theorem cx_D_ex {G : (Nat → Nat) → Prop} {K : Nat → Nat} {P : Nat} (hG : ∀ d, G d → ∀ p, p < 4 → d p ≤ K p) (hP : P ≤ 4) (hK : ∀ p, p < 4 → K p ≤ 6) {d : Nat → Nat} (h : cx_R G K P d) (hl : cx_lv d < cx_lv K) : ∃ p, cx_S G K P d p := by
  rcases ((cx_R_iff hG hP hK d).mp h).2 with f | ⟨p, hp, hk, ha⟩
  · have := cx_lv_eq f
    omega
  · exact ⟨p, hp, hk, ha⟩
theorem cx_D_ok {G : (Nat → Nat) → Prop} {K : Nat → Nat} {P : Nat} (hG : ∀ d, G d → ∀ p, p < 4 → d p ≤ K p) (hP : P ≤ 4) (hK : ∀ p, p < 4 → K p ≤ 6) (h0 : cx_R G K P (fun _ => 0)) : ∀ i, i ≤ cx_lv K → cx_R G K P (cx_D G K P i) ∧ cx_lv (cx_D G K P i) = i := by
  intro i
  induction i with
  | zero => exact fun _ => ⟨h0, rfl⟩
  | succ i ih =>
    intro hi
    obtain ⟨r, l⟩ := ih (by omega)
    have s := (cx_ls_s (cx_D_ex hG hP hK r (by omega))).1
    rw [cx_D_s]
    refine ⟨s.2.2, ?_⟩
    rw [cx_lv_up (Nat.lt_of_lt_of_le s.1 hP), l]
theorem cx_D_st {G : (Nat → Nat) → Prop} {K : Nat → Nat} {P : Nat} (hG : ∀ d, G d → ∀ p, p < 4 → d p ≤ K p) (hP : P ≤ 4) (hK : ∀ p, p < 4 → K p ≤ 6) (h0 : cx_R G K P (fun _ => 0)) {i : Nat} (hi : i < cx_lv K) :
    cx_S G K P (cx_D G K P i) (cx_ls (cx_S G K P (cx_D G K P i))) ∧ ∀ j, j < cx_ls (cx_S G K P (cx_D G K P i)) → ¬ cx_S G K P (cx_D G K P i) j := by
  obtain ⟨r, l⟩ := cx_D_ok hG hP hK h0 i (by omega)
  exact cx_ls_s (cx_D_ex hG hP hK r (by omega))
theorem cx_D_end {G : (Nat → Nat) → Prop} {K : Nat → Nat} {P : Nat} (hG : ∀ d, G d → ∀ p, p < 4 → d p ≤ K p) (hP : P ≤ 4) (hK : ∀ p, p < 4 → K p ≤ 6) (h0 : cx_R G K P (fun _ => 0)) (p : Nat) : ¬ cx_S G K P (cx_D G K P (cx_lv K)) p := by
  intro s
  obtain ⟨r, l⟩ := cx_D_ok hG hP hK h0 (cx_lv K) (Nat.le_refl _)
  have e := cx_lv_all (hG _ ((cx_R_iff hG hP hK _).mp r).1) l (p := p) (Nat.lt_of_lt_of_le s.1 hP)
  have := s.2.1
  omega
end
section
/-! the printed arithmetic of codes, slots and weights -/
theorem cx_ix {c p : Nat} (hc : c < 4096) (hp : p < 4) : (nI c >>> ((9 - nI p * 3) &&& 31)) &&& 7 = nI (cx_d8 c p) := by
  rcases cx_p4 hp with rfl | rfl | rfl | rfl
  · rw [pk_shrN (by omega) _ 9 (by decide), pk_andN (by omega) 3 (by decide)]
    rfl
  · rw [pk_shrN (by omega) _ 6 (by decide), pk_andN (by omega) 3 (by decide)]
    rfl
  · rw [pk_shrN (by omega) _ 3 (by decide), pk_andN (by omega) 3 (by decide)]
    rfl
  · rw [pk_shrN (by omega) _ 0 (by decide), pk_andN (by omega) 3 (by decide)]
    show nI (c / 1 % 8) = nI (c % 8)
    rw [Nat.div_one]
theorem cx_sh {p : Nat} (hp : p < 4) : (1 : Int32) <<< ((9 - nI p * 3) &&& 31) = nI (cx_w8 p) := by
  rcases cx_p4 hp with rfl | rfl | rfl | rfl <;> decide
theorem cx_sf {c p : Nat} (hp : p < 4) : nI c + ((1 : Int32) <<< ((9 - nI p * 3) &&& 31)) = nI (c + cx_w8 p) := by
  rw [cx_sh hp, nI_add]
theorem cx_sl (p k : Nat) : nI p * 7 + nI k = nI (p * 7 + k) := by
  have h : nI p * 7 = nI (p * 7) := pk_mul p 7
  rw [h, nI_add]
theorem cx_st (s q : Nat) : nI s * 4 + nI q = nI (s * 4 + q) := by
  have h : nI s * 4 = nI (s * 4) := pk_mul s 4
  rw [h, nI_add]
theorem cx_y6 (p k : Nat) : nI p * 6 + nI (k + 1) - 1 = nI (p * 6 + k) := by
  have h : nI p * 6 = nI (p * 6) := pk_mul p 6
  rw [h, nI_add]
  exact nI_pred (p * 6 + k)
theorem cx_yi (p k q : Nat) : (nI p * 6 + nI (k + 1) - 1) * 4 + nI q = nI ((p * 6 + k) * 4 + q) := by
  rw [cx_y6, cx_st]
theorem cx_dg {c p : Nat} (hc : c < 2401) (hp : p < 4) : nI c / nI (cx_w7 p) - nI c / nI (cx_w7 p) / 7 * 7 = nI (cx_d7 c p) := by
  rcases cx_p4 hp with rfl | rfl | rfl | rfl
  · have e : nI c / nI (cx_w7 0) = nI (c / 343) := pk_div (d := 343) (by omega) (by omega) (by omega)
    rw [e]
    exact pk_rem (d := 7) (by omega) (by omega) (by omega)
  · have e : nI c / nI (cx_w7 1) = nI (c / 49) := pk_div (d := 49) (by omega) (by omega) (by omega)
    rw [e]
    exact pk_rem (d := 7) (by omega) (by omega) (by omega)
  · have e : nI c / nI (cx_w7 2) = nI (c / 7) := pk_div (d := 7) (by omega) (by omega) (by omega)
    rw [e]
    exact pk_rem (d := 7) (by omega) (by omega) (by omega)
  · have e : nI c / nI (cx_w7 3) = nI (c / 1) := pk_div (d := 1) (by omega) (by omega) (by omega)
    rw [e, Nat.div_one]
    exact pk_rem (d := 7) (by omega) (by omega) (by omega)
theorem cx_w7_pos (p : Nat) : 0 < cx_w7 p ∧ cx_w7 p < 2 ^ 31 := by
  unfold cx_w7
  repeat' split
  all_goals omega
/-! stores -/
theorem cx_upd_id {f : Nat → Int32} {k : Nat} {x : Int32} (h : f k = x) : upd f k x = f := by
  funext j
  by_cases e : j = k
  · rw [e, pk_us, h]
  · rw [pk_un e]
theorem cx_slot_inj {p k p' k' : Nat} (hk : k < 7) (hk' : k' < 7) (h : p * 7 + k = p' * 7 + k') : p = p' ∧ k = k' := by omega
theorem cx_slot6_inj {p k p' k' : Nat} (hk : k < 6) (hk' : k' < 6) (h : p * 6 + k = p' * 6 + k') : p = p' ∧ k = k' := by omega
theorem cx_cell_inj {s q s' q' : Nat} (hq : q < 4) (hq' : q' < 4) (h : s * 4 + q = s' * 4 + q') : s = s' ∧ q = q' := by omega
/-! the pure picture of a cut's state -/
def cx_Va (K d : Nat → Nat) : Prop := ∀ p, p < 4 → d p ≤ K p
def cx_Co (P : Nat) (st : Nat → Int32) (d : Nat → Nat) : Prop := ∀ p, p < P → ∀ q, q < P → st ((p * 7 + d p) * 4 + q) ≤ nI (d q)
def cx_Wb (P : Nat) (va lo hi : Nat → Int32) (d : Nat → Nat) : Prop := ∀ p, p < P → ¬ va (p * 7 + d p) < lo p ∧ va (p * 7 + d p) ≤ hi p
def cx_Sm (va : Nat → Int32) (d : Nat → Nat) : Nat → Int64
  | 0 => 0
  | n + 1 => cx_Sm va d n + (va (n * 7 + d n)).toInt64
def cx_Sa (P : Nat) (md th : Int32) (va lo hi : Nat → Int32) (d : Nat → Nat) : Prop :=
  (md = 0 → cx_Wb P va lo hi d) ∧ (¬ md = 0 → (md = 1 → ¬ cx_Sm va d P < th.toInt64) ∧ (¬ md = 1 → ¬ th.toInt64 < cx_Sm va d P))
def cx_V (P : Nat) (K : Nat → Nat) (st : Nat → Int32) (d : Nat → Nat) : Prop := cx_Va K d ∧ cx_Co P st d
def cx_Q (P : Nat) (K : Nat → Nat) (st : Nat → Int32) (md th : Int32) (va lo hi : Nat → Int32) (d : Nat → Nat) : Prop := cx_V P K st d ∧ cx_Sa P md th va lo hi d
def cx_G (P : Nat) (K : Nat → Nat) (st : Nat → Int32) (md th : Int32) (va lo hi : Nat → Int32) (d : Nat → Nat) : Prop := cx_V P K st d ∧ ¬ cx_Sa P md th va lo hi d
theorem cx_V_7 {P : Nat} {K : Nat → Nat} {st : Nat → Int32} (hK : ∀ p, p < 4 → K p ≤ 6) : ∀ d, cx_V P K st d → ∀ p, p < 4 → d p < 7 :=
  fun _ h p hp => by have a := h.1 p hp; have b := hK p hp; omega
theorem cx_Q_7 {P : Nat} {K : Nat → Nat} {st : Nat → Int32} {md th : Int32} {va lo hi : Nat → Int32} (hK : ∀ p, p < 4 → K p ≤ 6) : ∀ d, cx_Q P K st md th va lo hi d → ∀ p, p < 4 → d p < 7 :=
  fun d h => cx_V_7 hK d h.1
theorem cx_G_K {P : Nat} {K : Nat → Nat} {st : Nat → Int32} {md th : Int32} {va lo hi : Nat → Int32} : ∀ d, cx_G P K st md th va lo hi d → ∀ p, p < 4 → d p ≤ K p :=
  fun _ h => h.1.1
end
section
/-! loops by shape: all of, the first of, a fold; W n i is the printed loop at fuel n and counter i -/
theorem cx_all {T F : Prop} (W : Nat → Nat → Prop) (e : Nat) (B : Nat → Prop) (hT : (∀ p, p < e → B p) → T) (hF : ¬ (∀ p, p < e → B p) → F)
    (hx : ∀ n, T → W (n + 1) e) (hs : ∀ n i, i < e → (B i → W n (i + 1)) → (¬ B i → F) → W (n + 1) i) : ∃ n, W n 0 := by
  have h : ∀ m i, i + m = e → (∀ p, p < i → B p) → W (m + 1) i := by
    intro m
    induction m with
    | zero =>
      intro i hi hb
      have : i = e := by omega
      subst this
      exact hx 0 (hT hb)
    | succ m ih =>
      intro i hi hb
      exact hs (m + 1) i (by omega) (fun b => ih (i + 1) (by omega) (lt_s hb b)) (fun nb => hF (fun a => nb (a i (by omega))))
  exact ⟨e + 1, h e 0 (by omega) lt_0⟩
theorem cx_fst {N : Prop} {F : Nat → Prop} (W : Nat → Nat → Prop) (e : Nat) (B : Nat → Prop) (hF : ∀ i, i < e → B i → (∀ j, j < i → ¬ B j) → F i) (hN : (∀ i, i < e → ¬ B i) → N)
    (hx : ∀ n, N → W (n + 1) e) (hs : ∀ n i, i < e → (¬ B i → W n (i + 1)) → (B i → F i) → W (n + 1) i) : ∃ n, W n 0 := by
  have h : ∀ m i, i + m = e → (∀ p, p < i → ¬ B p) → W (m + 1) i := by
    intro m
    induction m with
    | zero =>
      intro i hi hb
      have : i = e := by omega
      subst this
      exact hx 0 (hN hb)
    | succ m ih =>
      intro i hi hb
      exact hs (m + 1) i (by omega) (fun b => ih (i + 1) (by omega) (lt_s (p := fun j => ¬ B j) hb b)) (fun b => hF i (by omega) b hb)
  exact ⟨e + 1, h e 0 (by omega) (lt_0 (p := fun j => ¬ B j))⟩
theorem cx_fold {σ : Type} (W : Nat → Nat → σ → Prop) (e : Nat) (g : Nat → σ) (hx : ∀ n, W (n + 1) e (g e)) (hs : ∀ n i, i < e → W n (i + 1) (g (i + 1)) → W (n + 1) i (g i)) : ∃ n, W n 0 (g 0) := by
  have h : ∀ m i, i + m = e → W (m + 1) i (g i) := by
    intro m
    induction m with
    | zero =>
      intro i hi
      have : i = e := by omega
      subst this
      exact hx 0
    | succ m ih =>
      intro i hi
      exact hs (m + 1) i (by omega) (ih (i + 1) (by omega))
  exact ⟨e + 1, h e 0 (by omega)⟩
/-! a loop with an invariant, its state general -/
theorem cx_inv {σ : Type} (W : Nat → Nat → σ → Prop) (I : Nat → σ → Prop) (e : Nat) (s : σ) (h0 : I 0 s) (hx : ∀ n s, I e s → W (n + 1) e s)
    (hs : ∀ n i s, i < e → I i s → (∀ s', I (i + 1) s' → W n (i + 1) s') → W (n + 1) i s) : ∃ n, W n 0 s := pk_loop W I e 0 s (Nat.zero_le e) h0 hx hs
/-! comparisons of numbers -/
theorem cx_le {a b : Nat} {A B : Prop} (ha : a < 2 ^ 31) (hb : b < 2 ^ 31) (f : a ≤ b → A) (g : ¬ a ≤ b → B) : (nI a ≤ nI b → A) ∧ (¬ nI a ≤ nI b → B) := ek_if (nI_leI ha hb) f g
theorem cx_lt {a b : Nat} {A B : Prop} (ha : a < 2 ^ 31) (hb : b < 2 ^ 31) (f : a < b → A) (g : ¬ a < b → B) : (nI a < nI b → A) ∧ (¬ nI a < nI b → B) := ek_if (nI_ltI ha hb) f g
theorem cx_eq {a b : Nat} {A B : Prop} (ha : a < 2 ^ 31) (hb : b < 2 ^ 31) (f : a = b → A) (g : ¬ a = b → B) : (nI a = nI b → A) ∧ (¬ nI a = nI b → B) := ek_if (nI_eq ha hb) f g
theorem cx_ite_n {P : Prop} : ∀ {r : Int32}, (P → r = 1) → (¬ P → r = 0) → narrow .boolean (.int r) = .int r := by
  intro r h1 h0
  by_cases h : P
  · rw [h1 h]; rfl
  · rw [h0 h]; rfl
theorem cx_down {σ : Type} (W : Nat → Int32 → σ → Prop) (I : Nat → σ → Prop) (hx : ∀ n s, I 0 s → W (n + 1) (-1) s)
    (hs : ∀ n i s, I (i + 1) s → (∀ s', I i s' → W n (nI i + (-1)) s') → W (n + 1) (nI i) s) (e : Nat) (s : σ) (h : I (e + 1) s) : ∃ n, W n (nI e) s := by
  have g : ∀ m s, I m s → W (m + 1) (nI m + (-1)) s := by
    intro m
    induction m with
    | zero =>
      intro s h
      have e0 : nI 0 + (-1) = (-1 : Int32) := by decide
      rw [e0]
      exact hx 0 s h
    | succ m ih =>
      intro s h
      rw [pk_m1]
      exact hs (m + 1) m s h ih
  have z := g (e + 1) s h
  rw [pk_m1] at z
  exact ⟨_, z⟩
/-! 0 or 1 -/
noncomputable def cx_i (P : Prop) : Int32 := @ite Int32 P (Classical.propDecidable P) 1 0
theorem cx_i_t {P : Prop} (h : P) : cx_i P = 1 := if_pos h
theorem cx_i_f {P : Prop} (h : ¬ P) : cx_i P = 0 := if_neg h
theorem cx_i_0 {P : Prop} : cx_i P = 0 ↔ ¬ P := by
  constructor
  · intro h p
    rw [cx_i_t p] at h
    exact absurd h (by decide)
  · exact cx_i_f
theorem cx_i_c {P Q : Prop} (h : P ↔ Q) : cx_i P = cx_i Q := by rw [propext h]
/-! the search for the best cut, going up the codes -/
def cx_PI (Q : (Nat → Nat) → Prop) (cut : Nat) (best bl : Int32) : Prop :=
  ∃ B : Nat, bl = nI B ∧ B ≤ 25 ∧ ((best = -1 ∧ B = 25 ∧ ∀ c, c < cut → ¬ Q (cx_d8 c)) ∨ ∃ b : Nat, best = nI b ∧ B = cx_lv (cx_d8 b) ∧ cx_Bst Q cx_d8 cut b)
theorem cx_PI_0 (Q : (Nat → Nat) → Prop) : cx_PI Q 0 (-1) 25 :=
  ⟨25, rfl, Nat.le_refl _, Or.inl ⟨rfl, rfl, fun _ h => absurd h (Nat.not_lt_zero _)⟩⟩
theorem cx_PI_new {Q : (Nat → Nat) → Prop} {cut : Nat} {best bl : Int32} (h : cx_PI Q cut best bl) (hq : Q (cx_d8 cut)) (h24 : cx_lv (cx_d8 cut) ≤ 28) (hl : nI (cx_lv (cx_d8 cut)) < bl) :
    cx_PI Q (cut + 1) (nI cut) (nI (cx_lv (cx_d8 cut))) := by
  obtain ⟨B, rfl, hB, h⟩ := h
  rw [nI_ltI (by omega) (by omega)] at hl
  refine ⟨_, rfl, by omega, Or.inr ⟨cut, rfl, rfl, by omega, hq, fun c hc qc => ?_⟩⟩
  by_cases e : c = cut
  · subst e
    exact Or.inr ⟨rfl, Nat.le_refl _⟩
  · rcases h with ⟨_, _, h⟩ | ⟨b, _, hb, h⟩
    · exact absurd qc (h c (by omega))
    · have := h.2.2 c (by omega) qc
      omega
theorem cx_PI_keep {Q : (Nat → Nat) → Prop} {cut : Nat} {best bl : Int32} (h : cx_PI Q cut best bl) (h24 : Q (cx_d8 cut) → cx_lv (cx_d8 cut) ≤ 24) (hl : Q (cx_d8 cut) → ¬ nI (cx_lv (cx_d8 cut)) < bl) :
    cx_PI Q (cut + 1) best bl := by
  obtain ⟨B, rfl, hB, h⟩ := h
  have g : Q (cx_d8 cut) → B ≤ cx_lv (cx_d8 cut) := by
    intro q
    have a := h24 q
    have b := hl q
    rw [nI_ltI (by omega) (by omega)] at b
    omega
  refine ⟨B, rfl, hB, ?_⟩
  rcases h with ⟨h1, h2, h⟩ | ⟨b, h1, hb, h⟩
  · refine Or.inl ⟨h1, h2, fun c hc qc => ?_⟩
    by_cases e : c = cut
    · subst e
      have a := g qc
      have b := h24 qc
      omega
    · exact h c (by omega) qc
  · refine Or.inr ⟨b, h1, hb, by have := h.1; omega, h.2.1, fun c hc qc => ?_⟩
    by_cases e : c = cut
    · subst e
      have a := g qc
      have b := h.1
      omega
    · exact h.2.2 c (by omega) qc
theorem cx_lv_28 (c : Nat) : cx_lv (cx_d8 c) ≤ 28 := by
  have h0 := cx_8_lt c 0
  have h1 := cx_8_lt c 1
  have h2 := cx_8_lt c 2
  have h3 := cx_8_lt c 3
  unfold cx_lv
  omega
theorem cx_lv_24 {d K : Nat → Nat} (h : ∀ p, p < 4 → d p ≤ K p) (hK : ∀ p, p < 4 → K p ≤ 6) : cx_lv d ≤ 24 :=
  Nat.le_trans (cx_lv_le h) (cx_lv_6 hK)
end
section
/-! what ties the two sides' values and stamps: P processes, K p events of process p -/
def cx_B (P : Nat) (K : Nat → Nat) (va st ni vl s6 : Nat → Int32) : Prop := ∀ p, p < P →
  ni p = va (p * 7 + 0) ∧ (∀ k, k < K p → vl (p * 6 + k) = va (p * 7 + (k + 1))) ∧
  (∀ q, q < P → st ((p * 7 + 0) * 4 + q) = 0 ∧ (∀ k, k < K p → s6 ((p * 6 + k) * 4 + q) = st ((p * 7 + (k + 1)) * 4 + q)) ∧ (∀ k, k ≤ K p → ¬ st ((p * 7 + k) * 4 + q) < 0))
theorem cx_B_ev {P p0 : Nat} {K : Nat → Nat} {va st ni vl s6 st' s6' w : Nat → Int32} {v : Int32} (hP : P ≤ 4) (hK : ∀ p, p < P → K p ≤ 6) (hp0 : p0 < P) (hk0 : K p0 < 6) (h : cx_B P K va st ni vl s6)
    (h1 : ∀ s q, s ≠ p0 * 7 + (K p0 + 1) → q < 4 → st' (s * 4 + q) = st (s * 4 + q)) (h2 : ∀ q, q < P → st' ((p0 * 7 + (K p0 + 1)) * 4 + q) = w q)
    (h3 : ∀ s q, s ≠ p0 * 6 + K p0 → q < 4 → s6' (s * 4 + q) = s6 (s * 4 + q)) (h4 : ∀ q, q < P → s6' ((p0 * 6 + K p0) * 4 + q) = w q) (hw : ∀ q, q < P → ¬ w q < 0) :
    cx_B P (cx_up K p0) (upd va (p0 * 7 + (K p0 + 1)) v) st' ni (upd vl (p0 * 6 + K p0) v) s6' := by
  intro p hp
  obtain ⟨b1, b2, b3⟩ := h p hp
  have hKp := hK p hp
  refine ⟨?_, ?_, ?_⟩
  · rw [pk_un (by omega)]
    exact b1
  · intro k hk
    by_cases e : p = p0
    · subst e
      rw [cx_up_s] at hk
      by_cases e2 : k = K p
      · subst e2
        rw [pk_us, pk_us]
      · rw [pk_un (by omega), pk_un (by omega)]
        exact b2 k (by omega)
    · rw [cx_up_n e] at hk
      rw [pk_un (by omega), pk_un (by omega)]
      exact b2 k hk
  · intro q hq
    obtain ⟨c1, c2, c3⟩ := b3 q hq
    refine ⟨?_, ?_, ?_⟩
    · rw [h1 _ _ (by omega) (by omega)]
      exact c1
    · intro k hk
      by_cases e : p = p0
      · subst e
        rw [cx_up_s] at hk
        by_cases e2 : k = K p
        · subst e2
          rw [h2 q hq, h4 q hq]
        · rw [h1 _ _ (by omega) (by omega), h3 _ _ (by omega) (by omega)]
          exact c2 k (by omega)
      · rw [cx_up_n e] at hk
        rw [h1 _ _ (by omega) (by omega), h3 _ _ (by omega) (by omega)]
        exact c2 k hk
    · intro k hk
      by_cases e : p = p0
      · subst e
        rw [cx_up_s] at hk
        by_cases e2 : k = K p + 1
        · subst e2
          rw [h2 q hq]
          exact hw q hq
        · rw [h1 _ _ (by omega) (by omega)]
          exact c3 k (by omega)
      · rw [cx_up_n e] at hk
        rw [h1 _ _ (by omega) (by omega)]
        exact c3 k hk
def cx_mx (b c : Int32) : Int32 := if c ≤ b then b else c
theorem cx_mx_t {b c : Int32} (h : c ≤ b) : cx_mx b c = b := if_pos h
theorem cx_mx_f {b c : Int32} (h : ¬ c ≤ b) : cx_mx b c = c := if_neg h
theorem cx_mx_nn {b c : Int32} (h : ¬ b < 0) : ¬ cx_mx b c < 0 := by
  by_cases l : c ≤ b
  · rw [cx_mx_t l]
    exact h
  · rw [cx_mx_f l]
    intro z
    exact h (Int32.lt_trans (Int32.not_le.mp l) z)
theorem cx_mx_0 {b : Int32} (h : ¬ b < 0) : cx_mx b 0 = b := cx_mx_t (Int32.not_lt.mp h)
/-! messages -/
def cx_C (P M : Nat) (K : Nat → Nat) (sp ss mk rc : Nat → Int32) : Prop :=
  (∀ m, m < M → ∃ p k : Nat, p < P ∧ k < K p ∧ sp m = nI p ∧ ss m = nI (p * 7 + (k + 1)) ∧ mk m = nI (k + 1)) ∧ (∀ m, M ≤ m → rc m = 0)
theorem cx_up_le (K : Nat → Nat) (p0 p : Nat) : K p ≤ cx_up K p0 p := by
  by_cases e : p = p0
  · rw [e, cx_up_s]; omega
  · rw [cx_up_n e]; omega
theorem cx_C_up {P M : Nat} {K : Nat → Nat} {sp ss mk rc : Nat → Int32} (p0 : Nat) (h : cx_C P M K sp ss mk rc) : cx_C P M (cx_up K p0) sp ss mk rc :=
  ⟨fun m hm => by
    obtain ⟨p, k, a, b, c⟩ := h.1 m hm
    exact ⟨p, k, a, Nat.lt_of_lt_of_le b (cx_up_le K p0 p), c⟩, h.2⟩
theorem cx_C_send {P M p0 : Nat} {K : Nat → Nat} {sp ss mk rc : Nat → Int32} (hp0 : p0 < P) (h : cx_C P M K sp ss mk rc) :
    cx_C P (M + 1) (cx_up K p0) (upd sp M (nI p0)) (upd ss M (nI (p0 * 7 + (K p0 + 1)))) (upd mk M (nI (K p0 + 1))) rc := by
  refine ⟨fun m hm => ?_, fun m hm => h.2 m (by omega)⟩
  by_cases e : m = M
  · subst e
    exact ⟨p0, K p0, hp0, by rw [cx_up_s]; omega, pk_us, pk_us, pk_us⟩
  · obtain ⟨p, k, a, b, c⟩ := h.1 m (by omega)
    refine ⟨p, k, a, Nat.lt_of_lt_of_le b (cx_up_le K p0 p), ?_⟩
    rw [pk_un e, pk_un e, pk_un e]
    exact c
theorem cx_C_rec {P M m : Nat} {K : Nat → Nat} {sp ss mk rc : Nat → Int32} {x : Int32} (hm : m < M) (h : cx_C P M K sp ss mk rc) : cx_C P M K sp ss mk (upd rc m x) :=
  ⟨h.1, fun j hj => by rw [pk_un (by omega)]; exact h.2 j hj⟩
theorem cx_K_up (K : Nat → Nat) (p : Nat) : upd (fun i => nI (K i)) p (nI (K p + 1)) = fun i => nI (cx_up K p i) := by
  funext i
  by_cases e : i = p
  · rw [e, pk_us, cx_up_s]
  · rw [pk_un e, cx_up_n e]
/-! sizes -/
def cx_N (P E M : Nat) (K : Nat → Nat) : Prop := 1 ≤ P ∧ P ≤ 4 ∧ E ≤ 6 ∧ M ≤ 16 ∧ (∀ p, K p ≤ E) ∧ (∀ p, P ≤ p → K p = 0)
theorem cx_N_6 {P E M : Nat} {K : Nat → Nat} (h : cx_N P E M K) (p : Nat) : K p ≤ 6 := Nat.le_trans (h.2.2.2.2.1 p) h.2.2.1
theorem cx_N_up {P E M p0 : Nat} {K : Nat → Nat} (h : cx_N P E M K) (hp : p0 < P) (hk : K p0 < E) : cx_N P E M (cx_up K p0) := by
  obtain ⟨h1, h2, h3, h4, h5, h6⟩ := h
  refine ⟨h1, h2, h3, h4, fun p => ?_, fun p hp' => ?_⟩
  · by_cases e : p = p0
    · rw [e, cx_up_s]; omega
    · rw [cx_up_n e]; exact h5 p
  · rw [cx_up_n (by omega)]
    exact h6 p hp'
/-! results that are kept: witness and path -/
def cx_Wt (wc hw : Int32) (wt : Nat → Int32) : Prop := (wc = -1 ∧ hw = 0) ∨ ∃ c : Nat, c < 4096 ∧ wc = nI c ∧ hw = 1 ∧ ∀ p, p < 4 → wt p = nI (cx_d8 c p)
def cx_Pt (ps hp pl : Int32) (pa py : Nat → Int32) : Prop := (ps = -1 ∧ hp = 0) ∨ ∃ L : Nat, L ≤ 24 ∧ ps = nI L ∧ hp = 1 ∧ pl = nI L ∧ ∀ j, j < L → pa j = py j
theorem cx_Wt_0 (wt : Nat → Int32) : cx_Wt (-1) 0 wt := Or.inl ⟨rfl, rfl⟩
theorem cx_Pt_0 (pl : Int32) (pa py : Nat → Int32) : cx_Pt (-1) 0 pl pa py := Or.inl ⟨rfl, rfl⟩
/-! the reference's reading of the same picture -/
theorem cx_Co_0 {P : Nat} {K : Nat → Nat} {va st ni vl s6 : Nat → Int32} (h : cx_B P K va st ni vl s6) {p q x : Nat} (hp : p < P) (hq : q < P) (hx : x < 2 ^ 31) : st ((p * 7 + 0) * 4 + q) ≤ nI x := by
  rw [((h p hp).2.2 q hq).1]
  exact nI_pos' hx
end
section
/-! the component's reading methods, each with a general post -/
theorem xw_index {post : Int32 → Prop} {c p : Nat} (hc : c < 4096) (hp : p < 4) (h : post (nI (cx_d8 c p))) : wpX_indexIn post (nI c) (nI p) := by
  show post ((nI c >>> ((9 - nI p * 3) &&& 31)) &&& 7)
  rw [cx_ix hc hp]
  exact h
theorem xw_slot {post : Int32 → Prop} {p k : Nat} (h : post (nI (p * 7 + k))) : wpX_slotOf post (nI p) (nI k) := by
  show post (nI p * 7 + nI k)
  rw [cx_sl]
  exact h
theorem xw_step {post : Int32 → Prop} {c p : Nat} (hp : p < 4) (h : post (nI (c + cx_w8 p))) : wpX_stepFrom post (nI c) (nI p) := by
  show post (nI c + ((1 : Int32) <<< ((9 - nI p * 3) &&& 31)))
  rw [cx_sf hp]
  exact h
theorem xw_10 : ¬ (1 : Int32) = 0 := by decide
section
variable {P : Nat} {K : Nat → Nat} {f_procs f_maxEvents f_messages f_mode f_threshold f_witnessCut f_pathSteps : Int32} {a_counts a_values a_stamps a_senders a_sendSlots a_received a_lows a_highs a_path a_avoidable : Nat → Int32}
theorem xw_within {post : Int32 → Prop} {c : Nat} (hc : c < 4096) (hcn : ∀ i, a_counts i = nI (K i)) (hK : ∀ p, p < 4 → K p ≤ 6) (hT : cx_Va K (cx_d8 c) → post 1) (hF : ¬ cx_Va K (cx_d8 c) → post 0) :
    wpX_isWithinCounts post (f_procs, f_maxEvents, f_messages, f_mode, f_threshold, f_witnessCut, f_pathSteps, a_counts, a_values, a_stamps, a_senders, a_sendSlots, a_received, a_lows, a_highs, a_path, a_avoidable) (nI c) :=
  cx_all (fun n i => wX_isWithinCounts_2 post (nI c) f_procs f_maxEvents f_messages f_mode f_threshold f_witnessCut f_pathSteps a_counts a_values a_stamps a_senders a_sendSlots a_received a_lows a_highs a_path a_avoidable n (nI i)) 4 (fun p => cx_d8 c p ≤ K p) hT hF
    (fun n t => br_t (nI_le (a := 4) (b := 4) (Nat.le_refl _) (by omega)) t)
    (fun n i hi t f => br_f (nI_ge (b := 4) hi (by omega)) (xw_index hc hi ⟨vp_in_nI hi (by omega), by
      rw [nI_clamp (n := i) (by omega), hcn]
      have := hK i hi
      have := cx_8_lt c i
      exact cx_le (by omega) (by omega) (fun h => nm_r (nI_1 i) (t h)) f⟩))
theorem xw_cons {post : Int32 → Prop} {c : Nat} (hc : c < 4096) (hP : P ≤ 4) (h6 : ∀ p, p < 4 → cx_d8 c p < 7) (hT : cx_Co P a_stamps (cx_d8 c) → post 1) (hF : ¬ cx_Co P a_stamps (cx_d8 c) → post 0) :
    wpX_isConsistent post (nI P, f_maxEvents, f_messages, f_mode, f_threshold, f_witnessCut, f_pathSteps, a_counts, a_values, a_stamps, a_senders, a_sendSlots, a_received, a_lows, a_highs, a_path, a_avoidable) (nI c) :=
  cx_all (fun n i => wX_isConsistent_2 post (nI c) (nI P) f_maxEvents f_messages f_mode f_threshold f_witnessCut f_pathSteps a_counts a_values a_stamps a_senders a_sendSlots a_received a_lows a_highs a_path a_avoidable n (nI i)) P (fun p => ∀ q, q < P → a_stamps ((p * 7 + cx_d8 c p) * 4 + q) ≤ nI (cx_d8 c q)) hT hF
    (fun n t => br_t (nI_le (Nat.le_refl P) (by omega)) t)
    (fun n i hi t f => br_f (nI_ge hi (by omega)) (xw_index hc (by omega) (xw_slot
      (cx_all (fun m j => wX_isConsistent_26 post (wX_isConsistent_2 post (nI c) (nI P) f_maxEvents f_messages f_mode f_threshold f_witnessCut f_pathSteps a_counts a_values a_stamps a_senders a_sendSlots a_received a_lows a_highs a_path a_avoidable n) (nI c) (nI i) (nI (i * 7 + cx_d8 c i)) (nI P) f_maxEvents f_messages f_mode f_threshold f_witnessCut f_pathSteps a_counts a_values a_stamps a_senders a_sendSlots a_received a_lows a_highs a_path a_avoidable m (nI j)) P
        (fun q => a_stamps ((i * 7 + cx_d8 c i) * 4 + q) ≤ nI (cx_d8 c q)) t f
        (fun m t' => br_t (nI_le (Nat.le_refl P) (by omega)) (nm_r (nI_1 i) t'))
        (fun m j hj t' f' => br_f (nI_ge hj (by omega)) (by
          have e := cx_st (i * 7 + cx_d8 c i) j
          have b := h6 i (by omega)
          refine ⟨?_, ?_⟩
          · rw [e]
            exact vp_in_nI (by omega) (by omega)
          · refine xw_index hc (by omega) ?_
            rw [e, nI_clamp (by omega)]
            exact br_c (fun h => nm_r (nI_1 j) (t' h)) f'))))))
theorem xw_bounds {post : Int32 → Prop} {c : Nat} (hc : c < 4096) (hP : P ≤ 4) (h6 : ∀ p, p < 4 → cx_d8 c p < 7) (hT : cx_Wb P a_values a_lows a_highs (cx_d8 c) → post 1) (hF : ¬ cx_Wb P a_values a_lows a_highs (cx_d8 c) → post 0) :
    wpX_isWithinBounds post (nI P, f_maxEvents, f_messages, f_mode, f_threshold, f_witnessCut, f_pathSteps, a_counts, a_values, a_stamps, a_senders, a_sendSlots, a_received, a_lows, a_highs, a_path, a_avoidable) (nI c) :=
  cx_all (fun n i => wX_isWithinBounds_2 post (nI c) (nI P) f_maxEvents f_messages f_mode f_threshold f_witnessCut f_pathSteps a_counts a_values a_stamps a_senders a_sendSlots a_received a_lows a_highs a_path a_avoidable n (nI i)) P (fun p => ¬ a_values (p * 7 + cx_d8 c p) < a_lows p ∧ a_values (p * 7 + cx_d8 c p) ≤ a_highs p) hT hF
    (fun n t => br_t (nI_le (Nat.le_refl P) (by omega)) t)
    (fun n i hi t f => br_f (nI_ge hi (by omega)) (xw_index hc (by omega) (xw_slot (by
      have b := h6 i (by omega)
      refine ⟨vp_in_nI (by omega) (by omega), nm_r (congrArg a_values (nI_clamp (by omega))) ⟨vp_in_nI (by omega) (by omega), ?_⟩⟩
      rw [nI_clamp (n := i) (by omega)]
      exact br_c (fun h => f (fun z => z.1 h)) (fun h => ⟨vp_in_nI (by omega) (by omega), br_c (fun h2 => nm_r (nI_1 i) (t ⟨h, h2⟩)) (fun h2 => f (fun z => h2 z.2))⟩)))))
theorem xw_sum {post : Int64 → Prop} {c : Nat} (hc : c < 4096) (hP : P ≤ 4) (h6 : ∀ p, p < 4 → cx_d8 c p < 7) (h : post (cx_Sm a_values (cx_d8 c) P)) :
    wpX_sumIn post (nI P, f_maxEvents, f_messages, f_mode, f_threshold, f_witnessCut, f_pathSteps, a_counts, a_values, a_stamps, a_senders, a_sendSlots, a_received, a_lows, a_highs, a_path, a_avoidable) (nI c) :=
  cx_fold (fun n i s => wX_sumIn_5 post (nI c) (nI P) f_maxEvents f_messages f_mode f_threshold f_witnessCut f_pathSteps a_counts a_values a_stamps a_senders a_sendSlots a_received a_lows a_highs a_path a_avoidable n s (nI i)) P (cx_Sm a_values (cx_d8 c))
    (fun n => br_t (nI_le (Nat.le_refl P) (by omega)) h)
    (fun n i hi k => br_f (nI_ge hi (by omega)) (xw_index hc (by omega) (xw_slot (by
      have b := h6 i (by omega)
      refine ⟨vp_in_nI (by omega) (by omega), ?_⟩
      rw [nI_clamp (by omega)]
      exact nm_e (nm_r (nI_1 i) k)))))
theorem xw_sat {post : Int32 → Prop} {c : Nat} (hc : c < 4096) (hP : P ≤ 4) (h6 : ∀ p, p < 4 → cx_d8 c p < 7) (hT : cx_Sa P f_mode f_threshold a_values a_lows a_highs (cx_d8 c) → post 1)
    (hF : ¬ cx_Sa P f_mode f_threshold a_values a_lows a_highs (cx_d8 c) → post 0) : wpX_satisfies post (nI P, f_maxEvents, f_messages, f_mode, f_threshold, f_witnessCut, f_pathSteps, a_counts, a_values, a_stamps, a_senders, a_sendSlots, a_received, a_lows, a_highs, a_path, a_avoidable) (nI c) := by
  unfold wpX_satisfies
  refine br_c (fun m0 => ?_) (fun m0 => ?_)
  · exact xw_bounds hc hP h6 (fun w => ⟨rfl, hT ⟨fun _ => w, fun n => absurd m0 n⟩⟩) (fun w => ⟨rfl, hF (fun s => w (s.1 m0))⟩)
  · refine xw_sum hc hP h6 (br_c (fun m1 => ?_) (fun m1 => ?_))
    · exact br_c (fun l => hF (fun s => (s.2 m0).1 m1 l)) (fun l => hT ⟨fun z => absurd z m0, fun _ => ⟨fun _ => l, fun n => absurd m1 n⟩⟩)
    · exact br_c (fun l => hF (fun s => (s.2 m0).2 m1 l)) (fun l => hT ⟨fun z => absurd z m0, fun _ => ⟨fun z => absurd z m1, fun _ => l⟩⟩)
theorem xw_state {post : Int32 → Prop} {c : Nat} (hc : c < 4096) (hP : P ≤ 4) (hcn : ∀ i, a_counts i = nI (K i)) (hK : ∀ p, p < 4 → K p ≤ 6) (h0 : ¬ cx_Va K (cx_d8 c) → post 0) (h1 : cx_Va K (cx_d8 c) → ¬ cx_Co P a_stamps (cx_d8 c) → post 1)
    (h2 : cx_V P K a_stamps (cx_d8 c) → ¬ cx_Sa P f_mode f_threshold a_values a_lows a_highs (cx_d8 c) → post 2) (h3 : cx_V P K a_stamps (cx_d8 c) → cx_Sa P f_mode f_threshold a_values a_lows a_highs (cx_d8 c) → post 3) :
    wpX_stateOf post (nI P, f_maxEvents, f_messages, f_mode, f_threshold, f_witnessCut, f_pathSteps, a_counts, a_values, a_stamps, a_senders, a_sendSlots, a_received, a_lows, a_highs, a_path, a_avoidable) (nI c) := by
  unfold wpX_stateOf
  refine xw_within hc hcn hK (fun v => br_f xw_10 ?_) (fun nv => br_t rfl (h0 nv))
  have h6 : ∀ p, p < 4 → cx_d8 c p < 7 := fun p hp => by have a := v p hp; have b := hK p hp; omega
  refine xw_cons hc hP h6 (fun co => br_f xw_10 ?_) (fun nc => br_t rfl (h1 v nc))
  exact xw_sat hc hP h6 (fun s => br_f xw_10 (h3 ⟨v, co⟩ s)) (fun s => br_t rfl (h2 ⟨v, co⟩ s))
end
end
section
/-! the reference's reading methods, each with a general post, over the component's picture -/
def cx_pl (d : Nat → Nat) : Nat → Nat
  | 0 => 0
  | n + 1 => cx_pl d n + d n
theorem cx_pl_4 (d : Nat → Nat) : cx_pl d 4 = cx_lv d := by
  show 0 + d 0 + d 1 + d 2 + d 3 = d 0 + d 1 + d 2 + d 3
  omega
theorem xw_level {post : Int32 → Prop} {c : Nat} (hc : c < 4096) (h : post (nI (cx_lv (cx_d8 c)))) : wpX_levelOf post (nI c) := by
  rw [← cx_pl_4] at h
  exact cx_fold (fun n i s => wX_levelOf_4 post (nI c) n s (nI i)) 4 (fun i => nI (cx_pl (cx_d8 c) i))
    (fun n => br_t (nI_le (a := 4) (b := 4) (Nat.le_refl _) (by omega)) h)
    (fun n i hi k => br_f (nI_ge (b := 4) hi (by omega)) (xw_index hc hi (nm_r (nI_add _ _) (nm_r (nI_1 i) k))))
section
variable {P : Nat} {K : Nat → Nat} {va st : Nat → Int32} {f_procs f_maxEv f_mode f_thr f_msgCount f_hasWit f_hasPath f_pathLen : Int32} {a_init a_lo a_hi a_cnt a_val a_st a_msgP a_msgK a_msgRecv a_wit a_path a_reach : Nat → Int32}
theorem yw_weight {post : Int32 → Prop} {p : Nat} (hp : p < 4) (h : post (nI (cx_w7 p))) : wpY_weight post (f_procs, f_maxEv, f_mode, f_thr, f_msgCount, f_hasWit, f_hasPath, f_pathLen, a_init, a_lo, a_hi, a_cnt, a_val, a_st, a_msgP, a_msgK, a_msgRecv, a_wit, a_path, a_reach) (nI p) := by
  unfold wpY_weight
  rcases cx_p4 hp with rfl | rfl | rfl | rfl
  · have e : nI (cx_w7 0) = 343 := by decide
    rw [e] at h
    exact br_t rfl h
  · have e : nI (cx_w7 1) = 49 := by decide
    rw [e] at h
    exact br_f (by decide) (br_t rfl h)
  · have e : nI (cx_w7 2) = 7 := by decide
    rw [e] at h
    exact br_f (by decide) (br_f (by decide) (br_t rfl h))
  · have e : nI (cx_w7 3) = 1 := by decide
    rw [e] at h
    exact br_f (by decide) (br_f (by decide) (br_f (by decide) h))
theorem yw_digit {post : Int32 → Prop} {c p : Nat} (hc : c < 2401) (hp : p < 4) (h : post (nI (cx_d7 c p))) : wpY_digit post (f_procs, f_maxEv, f_mode, f_thr, f_msgCount, f_hasWit, f_hasPath, f_pathLen, a_init, a_lo, a_hi, a_cnt, a_val, a_st, a_msgP, a_msgK, a_msgRecv, a_wit, a_path, a_reach) (nI c) (nI p) := by
  unfold wpY_digit
  refine yw_weight hp ⟨nI_ne0 (cx_w7_pos p).1 (cx_w7_pos p).2, by decide, ?_⟩
  rw [cx_dg hc hp]
  exact h
theorem yw_idx {post : Int32 → Prop} {p k q : Nat} (h : post (nI ((p * 6 + k) * 4 + q))) : wpY_idx post (f_procs, f_maxEv, f_mode, f_thr, f_msgCount, f_hasWit, f_hasPath, f_pathLen, a_init, a_lo, a_hi, a_cnt, a_val, a_st, a_msgP, a_msgK, a_msgRecv, a_wit, a_path, a_reach) (nI p) (nI (k + 1)) (nI q) := by
  show post (((((nI p * 6) + nI (k + 1)) - 1) * 4) + nI q)
  rw [cx_yi]
  exact h
theorem yw_valid {post : Int32 → Prop} {c : Nat} (hc : c < 2401) (hcn : ∀ i, a_cnt i = nI (K i)) (hK : ∀ p, p < 4 → K p ≤ 6) (hT : cx_Va K (cx_d7 c) → post 1) (hF : ¬ cx_Va K (cx_d7 c) → post 0) :
    wpY_valid post (f_procs, f_maxEv, f_mode, f_thr, f_msgCount, f_hasWit, f_hasPath, f_pathLen, a_init, a_lo, a_hi, a_cnt, a_val, a_st, a_msgP, a_msgK, a_msgRecv, a_wit, a_path, a_reach) (nI c) :=
  cx_all (fun n i => wY_valid_2 post (nI c) f_procs f_maxEv f_mode f_thr f_msgCount f_hasWit f_hasPath f_pathLen a_init a_lo a_hi a_cnt a_val a_st a_msgP a_msgK a_msgRecv a_wit a_path a_reach n (nI i)) 4 (fun p => cx_d7 c p ≤ K p) hT hF
    (fun n t => br_t (nI_le (a := 4) (b := 4) (Nat.le_refl _) (by omega)) t)
    (fun n i hi t f => br_f (nI_ge (b := 4) hi (by omega)) (yw_digit hc hi ⟨vp_in_nI hi (by omega), by
      rw [nI_clamp (n := i) (by omega), hcn]
      have := hK i hi
      have := cx_7_lt c i
      exact cx_le (by omega) (by omega) (fun h => nm_r (nI_1 i) (t h)) f⟩))
theorem yw_cons {post : Int32 → Prop} {c : Nat} (hc : c < 2401) (hP : P ≤ 4) (hB : cx_B P K va st a_init a_val a_st) (hv : cx_Va K (cx_d7 c)) (hT : cx_Co P st (cx_d7 c) → post 1) (hF : ¬ cx_Co P st (cx_d7 c) → post 0) :
    wpY_consistent post (nI P, f_maxEv, f_mode, f_thr, f_msgCount, f_hasWit, f_hasPath, f_pathLen, a_init, a_lo, a_hi, a_cnt, a_val, a_st, a_msgP, a_msgK, a_msgRecv, a_wit, a_path, a_reach) (nI c) :=
  cx_all (fun n i => wY_consistent_2 post (nI c) (nI P) f_maxEv f_mode f_thr f_msgCount f_hasWit f_hasPath f_pathLen a_init a_lo a_hi a_cnt a_val a_st a_msgP a_msgK a_msgRecv a_wit a_path a_reach n (nI i)) P (fun p => ∀ q, q < P → st ((p * 7 + cx_d7 c p) * 4 + q) ≤ nI (cx_d7 c q)) hT hF
    (fun n t => br_t (nI_le (Nat.le_refl P) (by omega)) t)
    (fun n i hi t f => br_f (nI_ge hi (by omega)) (yw_digit hc (by omega) (by
      have l7 := cx_7_lt c i
      have hvi := hv i (by omega)
      refine pk_lt (cx_d7 c i) 1 (fun h => ?_) (fun h => ?_)
      · refine nm_r (nI_1 i) (t (fun q hq => ?_))
        have e : cx_d7 c i = 0 := by omega
        rw [e]
        exact cx_Co_0 hB hi hq (by have := cx_7_lt c q; omega)
      · obtain ⟨k, hk⟩ : ∃ k, cx_d7 c i = k + 1 := ⟨cx_d7 c i - 1, by omega⟩
        refine cx_all (fun m j => wY_consistent_25 post (wY_consistent_2 post (nI c) (nI P) f_maxEv f_mode f_thr f_msgCount f_hasWit f_hasPath f_pathLen a_init a_lo a_hi a_cnt a_val a_st a_msgP a_msgK a_msgRecv a_wit a_path a_reach n) (nI c) (nI i) (nI (cx_d7 c i)) (nI P) f_maxEv f_mode f_thr f_msgCount f_hasWit f_hasPath f_pathLen a_init a_lo a_hi a_cnt a_val a_st a_msgP a_msgK a_msgRecv a_wit a_path a_reach m (nI j)) P
          (fun q => st ((i * 7 + cx_d7 c i) * 4 + q) ≤ nI (cx_d7 c q)) t f
          (fun m t' => br_t (nI_le (Nat.le_refl P) (by omega)) (nm_r (nI_1 i) t'))
          (fun m j hj t' f' => br_f (nI_ge hj (by omega)) ?_)
        have hs := ((hB i hi).2.2 j hj).2.1 k (by omega)
        rw [hk] at t' f' ⊢
        refine yw_idx ⟨vp_in_nI (by omega) (by omega), yw_digit hc (by omega) ?_⟩
        rw [nI_clamp (by omega), hs]
        exact br_c (fun h => nm_r (nI_1 j) (t' h)) f')))
theorem yw_xval {post : Int32 → Prop} {c p : Nat} (hc : c < 2401) (hp : p < P) (hP : P ≤ 4) (hB : cx_B P K va st a_init a_val a_st) (hv : cx_Va K (cx_d7 c)) (h : post (va (p * 7 + cx_d7 c p))) :
    wpY_xval post (nI P, f_maxEv, f_mode, f_thr, f_msgCount, f_hasWit, f_hasPath, f_pathLen, a_init, a_lo, a_hi, a_cnt, a_val, a_st, a_msgP, a_msgK, a_msgRecv, a_wit, a_path, a_reach) (nI c) (nI p) := by
  have l7 := cx_7_lt c p
  have hvp := hv p (by omega)
  unfold wpY_xval
  refine yw_digit hc (by omega) (pk_eq (cx_d7 c p) 0 (fun e => ?_) (fun e => ?_))
  · refine ⟨vp_in_nI (by omega) (by omega), ?_⟩
    rw [nI_clamp (by omega), (hB p hp).1]
    rw [e] at h
    exact h
  · obtain ⟨k, hk⟩ : ∃ k, cx_d7 c p = k + 1 := ⟨cx_d7 c p - 1, by omega⟩
    rw [hk] at h ⊢
    rw [cx_y6, nI_clamp (by omega), (hB p hp).2.1 k (by omega)]
    exact ⟨vp_in_nI (by omega) (by omega), h⟩
theorem yw_sat {post : Int32 → Prop} {c : Nat} (hc : c < 2401) (hP : P ≤ 4) (hB : cx_B P K va st a_init a_val a_st) (hv : cx_Va K (cx_d7 c)) (hT : cx_Sa P f_mode f_thr va a_lo a_hi (cx_d7 c) → post 1)
    (hF : ¬ cx_Sa P f_mode f_thr va a_lo a_hi (cx_d7 c) → post 0) : wpY_sat post (nI P, f_maxEv, f_mode, f_thr, f_msgCount, f_hasWit, f_hasPath, f_pathLen, a_init, a_lo, a_hi, a_cnt, a_val, a_st, a_msgP, a_msgK, a_msgRecv, a_wit, a_path, a_reach) (nI c) := by
  unfold wpY_sat
  refine br_c (fun m0 => ?_) (fun m0 => ?_)
  · refine cx_all (fun n i => wY_sat_9 post (nI c) (nI P) f_maxEv f_mode f_thr f_msgCount f_hasWit f_hasPath f_pathLen a_init a_lo a_hi a_cnt a_val a_st a_msgP a_msgK a_msgRecv a_wit a_path a_reach n (nI i)) P (fun p => ¬ va (p * 7 + cx_d7 c p) < a_lo p ∧ va (p * 7 + cx_d7 c p) ≤ a_hi p)
      (fun w => hT ⟨fun _ => w, fun n => absurd m0 n⟩) (fun w => hF (fun s => w (s.1 m0)))
      (fun n t => br_t (nI_le (Nat.le_refl P) (by omega)) t)
      (fun n i hi t f => br_f (nI_ge hi (by omega)) (yw_xval hc hi hP hB hv ⟨vp_in_nI (by omega) (by omega), ?_⟩))
    rw [nI_clamp (n := i) (by omega)]
    exact br_c (fun h => f (fun z => z.1 h)) (fun h => ⟨vp_in_nI (by omega) (by omega), br_c (fun h2 => nm_r (nI_1 i) (t ⟨h, h2⟩)) (fun h2 => f (fun z => h2 z.2))⟩)
  · refine cx_fold (fun n i s => wY_sat_59 post (nI c) (nI P) f_maxEv f_mode f_thr f_msgCount f_hasWit f_hasPath f_pathLen a_init a_lo a_hi a_cnt a_val a_st a_msgP a_msgK a_msgRecv a_wit a_path a_reach n s (nI i)) P (cx_Sm va (cx_d7 c))
      (fun n => br_t (nI_le (Nat.le_refl P) (by omega)) (br_c (fun m1 => ?_) (fun m1 => ?_)))
      (fun n i hi k => br_f (nI_ge hi (by omega)) (yw_xval hc hi hP hB hv (nm_e (nm_r (nI_1 i) k))))
    · exact br_c (fun l => hF (fun s => (s.2 m0).1 m1 l)) (fun l => hT ⟨fun z => absurd z m0, fun _ => ⟨fun _ => l, fun n => absurd m1 n⟩⟩)
    · exact br_c (fun l => hF (fun s => (s.2 m0).2 m1 l)) (fun l => hT ⟨fun z => absurd z m0, fun _ => ⟨fun z => absurd z m1, fun _ => l⟩⟩)
theorem yw_level {post : Int32 → Prop} {c : Nat} (hc : c < 2401) (h : post (nI (cx_lv (cx_d7 c)))) : wpY_level post (f_procs, f_maxEv, f_mode, f_thr, f_msgCount, f_hasWit, f_hasPath, f_pathLen, a_init, a_lo, a_hi, a_cnt, a_val, a_st, a_msgP, a_msgK, a_msgRecv, a_wit, a_path, a_reach) (nI c) := by
  rw [← cx_pl_4] at h
  exact cx_fold (fun n i s => wY_level_4 post (nI c) f_procs f_maxEv f_mode f_thr f_msgCount f_hasWit f_hasPath f_pathLen a_init a_lo a_hi a_cnt a_val a_st a_msgP a_msgK a_msgRecv a_wit a_path a_reach n s (nI i)) 4 (fun i => nI (cx_pl (cx_d7 c) i))
    (fun n => br_t (nI_le (a := 4) (b := 4) (Nat.le_refl _) (by omega)) h)
    (fun n i hi k => br_f (nI_ge (b := 4) hi (by omega)) (yw_digit hc hi (nm_r (nI_add _ _) (nm_r (nI_1 i) k))))
theorem yw_good {post : Int32 → Prop} {c : Nat} (hc : c < 2401) (hP : P ≤ 4) (hcn : ∀ i, a_cnt i = nI (K i)) (hK : ∀ p, p < 4 → K p ≤ 6) (hB : cx_B P K va st a_init a_val a_st)
    (hT : cx_G P K st f_mode f_thr va a_lo a_hi (cx_d7 c) → post 1) (hF : ¬ cx_G P K st f_mode f_thr va a_lo a_hi (cx_d7 c) → post 0) : wpY_good post (nI P, f_maxEv, f_mode, f_thr, f_msgCount, f_hasWit, f_hasPath, f_pathLen, a_init, a_lo, a_hi, a_cnt, a_val, a_st, a_msgP, a_msgK, a_msgRecv, a_wit, a_path, a_reach) (nI c) := by
  unfold wpY_good
  refine yw_valid hc hcn hK (fun v => br_f xw_10 ?_) (fun nv => br_t rfl (hF (fun g => nv g.1.1)))
  refine yw_cons hc hP hB v (fun co => br_f xw_10 ?_) (fun nc => br_t rfl (hF (fun g => nc g.1.2)))
  exact yw_sat hc hP hB v (fun s => br_f xw_10 (hF (fun g => g.2 s))) (fun s => br_t rfl (hT ⟨⟨v, co⟩, s⟩))
end
end
section
/-! counts and the best cut, on both sides -/
theorem cx_count (W : Nat → Nat → Int32 → Prop) (e : Nat) (Q : Nat → Prop) (hx : ∀ n, W (n + 1) e (nI (cx_n Q e)))
    (hs : ∀ n i s, i < e → (Q i → W n (i + 1) (s + 1)) → (¬ Q i → W n (i + 1) s) → W (n + 1) i s) : ∃ n, W n 0 0 := by
  have h := cx_fold W e (fun i => nI (cx_n Q i)) hx (fun n i hi k => hs n i _ hi
    (fun q => by
      have k' : W n (i + 1) (nI (cx_n Q (i + 1))) := k
      rw [nI_1, ← cx_n_t q]
      exact k')
    (fun q => by
      have k' : W n (i + 1) (nI (cx_n Q (i + 1))) := k
      rw [← cx_n_f q]
      exact k'))
  exact h
theorem cx_m1 {b : Nat} (h : b < 2 ^ 31) : ¬ nI b = -1 := by
  intro e
  have h1 := nI_toInt h
  rw [e] at h1
  have h2 : (-1 : Int32).toInt = -1 := by decide
  omega
section
variable {P : Nat} {K : Nat → Nat} {f_procs f_maxEvents f_messages f_mode f_threshold f_witnessCut f_pathSteps : Int32} {a_counts a_values a_stamps a_senders a_sendSlots a_received a_lows a_highs a_path a_avoidable : Nat → Int32}
theorem xw_cc {post : Int32 → Prop} (hP : P ≤ 4) (hcn : ∀ i, a_counts i = nI (K i)) (hK : ∀ p, p < 4 → K p ≤ 6) (h : post (nI (cx_n (fun c => cx_V P K a_stamps (cx_d8 c)) 4096))) :
    wpX_countConsistent post (nI P, f_maxEvents, f_messages, f_mode, f_threshold, f_witnessCut, f_pathSteps, a_counts, a_values, a_stamps, a_senders, a_sendSlots, a_received, a_lows, a_highs, a_path, a_avoidable) :=
  cx_count (fun n i s => wX_countConsistent_4 post (nI P) f_maxEvents f_messages f_mode f_threshold f_witnessCut f_pathSteps a_counts a_values a_stamps a_senders a_sendSlots a_received a_lows a_highs a_path a_avoidable n s (nI i)) 4096 (fun c => cx_V P K a_stamps (cx_d8 c))
    (fun n => br_t (nI_le (a := 4096) (b := 4096) (Nat.le_refl _) (by omega)) h)
    (fun n i s hi t f => br_f (nI_ge (b := 4096) hi (by omega)) (xw_state hi hP hcn hK
      (fun nv => br_f (by decide) (br_f (by decide) (nm_r (nI_1 i) (f (fun v => nv v.1)))))
      (fun _ nc => br_f (by decide) (br_f (by decide) (nm_r (nI_1 i) (f (fun v => nc v.2)))))
      (fun v _ => br_t rfl (nm_e (nm_r (nI_1 i) (t v))))
      (fun v _ => br_f (by decide) (br_t rfl (nm_e (nm_r (nI_1 i) (t v)))))))
theorem xw_cs {post : Int32 → Prop} (hP : P ≤ 4) (hcn : ∀ i, a_counts i = nI (K i)) (hK : ∀ p, p < 4 → K p ≤ 6) (h : post (nI (cx_n (fun c => cx_Q P K a_stamps f_mode f_threshold a_values a_lows a_highs (cx_d8 c)) 4096))) :
    wpX_countSatisfying post (nI P, f_maxEvents, f_messages, f_mode, f_threshold, f_witnessCut, f_pathSteps, a_counts, a_values, a_stamps, a_senders, a_sendSlots, a_received, a_lows, a_highs, a_path, a_avoidable) :=
  cx_count (fun n i s => wX_countSatisfying_4 post (nI P) f_maxEvents f_messages f_mode f_threshold f_witnessCut f_pathSteps a_counts a_values a_stamps a_senders a_sendSlots a_received a_lows a_highs a_path a_avoidable n s (nI i)) 4096 (fun c => cx_Q P K a_stamps f_mode f_threshold a_values a_lows a_highs (cx_d8 c))
    (fun n => br_t (nI_le (a := 4096) (b := 4096) (Nat.le_refl _) (by omega)) h)
    (fun n i s hi t f => br_f (nI_ge (b := 4096) hi (by omega)) (xw_state hi hP hcn hK
      (fun nv => br_f (by decide) (nm_r (nI_1 i) (f (fun v => nv v.1.1))))
      (fun _ nc => br_f (by decide) (nm_r (nI_1 i) (f (fun v => nc v.1.2))))
      (fun _ ns => br_f (by decide) (nm_r (nI_1 i) (f (fun v => ns v.2))))
      (fun v s => br_t rfl (nm_e (nm_r (nI_1 i) (t ⟨v, s⟩))))))
theorem xw_possibly {post : Int32 → SX → Prop} (hP : P ≤ 4) (hcn : ∀ i, a_counts i = nI (K i)) (hK : ∀ p, p < 4 → K p ≤ 6)
    (hN : (∀ c, c < 4096 → ¬ cx_Q P K a_stamps f_mode f_threshold a_values a_lows a_highs (cx_d8 c)) → post 0 (nI P, f_maxEvents, f_messages, f_mode, f_threshold, -1, f_pathSteps, a_counts, a_values, a_stamps, a_senders, a_sendSlots, a_received, a_lows, a_highs, a_path, a_avoidable))
    (hS : ∀ b, cx_Bst (cx_Q P K a_stamps f_mode f_threshold a_values a_lows a_highs) cx_d8 4096 b → post 1 (nI P, f_maxEvents, f_messages, f_mode, f_threshold, nI b, f_pathSteps, a_counts, a_values, a_stamps, a_senders, a_sendSlots, a_received, a_lows, a_highs, a_path, a_avoidable)) :
    wpX_possibly post (nI P, f_maxEvents, f_messages, f_mode, f_threshold, f_witnessCut, f_pathSteps, a_counts, a_values, a_stamps, a_senders, a_sendSlots, a_received, a_lows, a_highs, a_path, a_avoidable) :=
  cx_inv (σ := Int32 × Int32) (fun n i s => wX_possibly_7 post (nI P) f_maxEvents f_messages f_mode f_threshold f_witnessCut f_pathSteps a_counts a_values a_stamps a_senders a_sendSlots a_received a_lows a_highs a_path a_avoidable n s.1 s.2 (nI i)) (fun i s => cx_PI (cx_Q P K a_stamps f_mode f_threshold a_values a_lows a_highs) i s.1 s.2) 4096 (-1, 25) (cx_PI_0 _)
    (fun n s I => br_t (nI_le (a := 4096) (b := 4096) (Nat.le_refl _) (by omega)) (by
      obtain ⟨x1, x2⟩ := s
      obtain ⟨B, _, _, I⟩ := I
      rcases I with ⟨e, _, I⟩ | ⟨b, e, _, I⟩
      · have e' : x1 = -1 := e
        subst e'
        exact br_t rfl (hN I)
      · have e' : x1 = nI b := e
        subst e'
        exact br_f (cx_m1 (by have := I.1; omega)) (hS b I)))
    (fun n i s hi I k => br_f (nI_ge (b := 4096) hi (by omega)) (xw_level hi (by
      have q24 : cx_Q P K a_stamps f_mode f_threshold a_values a_lows a_highs (cx_d8 i) → cx_lv (cx_d8 i) ≤ 24 := fun q => cx_lv_24 q.1.1 hK
      refine br_c (fun le => nm_r (nI_1 i) (k s (cx_PI_keep I q24 (fun _ => Int32.not_lt.mpr le)))) (fun nle => xw_state hi hP hcn hK ?_ ?_ ?_ ?_)
      · exact fun nv => br_f (by decide) (nm_r (nI_1 i) (k s (cx_PI_keep I q24 (fun q => absurd q.1.1 nv))))
      · exact fun _ nc => br_f (by decide) (nm_r (nI_1 i) (k s (cx_PI_keep I q24 (fun q => absurd q.1.2 nc))))
      · exact fun _ ns => br_f (by decide) (nm_r (nI_1 i) (k s (cx_PI_keep I q24 (fun q => absurd q.2 ns))))
      · exact fun v sa => br_t rfl (nm_r (nI_1 i) (k (nI i, nI (cx_lv (cx_d8 i))) (cx_PI_new I ⟨v, sa⟩ (cx_lv_28 i) (Int32.not_le.mp nle)))))))
end
section
variable {P : Nat} {K : Nat → Nat} {va st : Nat → Int32} {f_procs f_maxEv f_mode f_thr f_msgCount f_hasWit f_hasPath f_pathLen : Int32} {a_init a_lo a_hi a_cnt a_val a_st a_msgP a_msgK a_msgRecv a_wit a_path a_reach : Nat → Int32}
theorem yw_cc {post : Int32 → Prop} (hP : P ≤ 4) (hcn : ∀ i, a_cnt i = nI (K i)) (hK : ∀ p, p < 4 → K p ≤ 6) (hB : cx_B P K va st a_init a_val a_st) (h : post (nI (cx_n (fun c => cx_V P K st (cx_d7 c)) 2401))) :
    wpY_countConsistent post (nI P, f_maxEv, f_mode, f_thr, f_msgCount, f_hasWit, f_hasPath, f_pathLen, a_init, a_lo, a_hi, a_cnt, a_val, a_st, a_msgP, a_msgK, a_msgRecv, a_wit, a_path, a_reach) :=
  cx_count (fun n i s => wY_countConsistent_4 post (nI P) f_maxEv f_mode f_thr f_msgCount f_hasWit f_hasPath f_pathLen a_init a_lo a_hi a_cnt a_val a_st a_msgP a_msgK a_msgRecv a_wit a_path a_reach n s (nI i)) 2401 (fun c => cx_V P K st (cx_d7 c))
    (fun n => br_t (nI_le (a := 2401) (b := 2401) (Nat.le_refl _) (by omega)) h)
    (fun n i s hi t f => br_f (nI_ge (b := 2401) hi (by omega)) (yw_valid hi hcn hK
      (fun v => br_f xw_10 (yw_cons hi hP hB v
        (fun co => br_f xw_10 (nm_e (nm_r (nI_1 i) (t ⟨v, co⟩))))
        (fun nc => br_t rfl (nm_r (nI_1 i) (f (fun z => nc z.2))))))
      (fun nv => br_t rfl (nm_r (nI_1 i) (f (fun z => nv z.1))))))
theorem yw_cs {post : Int32 → Prop} (hP : P ≤ 4) (hcn : ∀ i, a_cnt i = nI (K i)) (hK : ∀ p, p < 4 → K p ≤ 6) (hB : cx_B P K va st a_init a_val a_st) (h : post (nI (cx_n (fun c => cx_Q P K st f_mode f_thr va a_lo a_hi (cx_d7 c)) 2401))) :
    wpY_countSatisfying post (nI P, f_maxEv, f_mode, f_thr, f_msgCount, f_hasWit, f_hasPath, f_pathLen, a_init, a_lo, a_hi, a_cnt, a_val, a_st, a_msgP, a_msgK, a_msgRecv, a_wit, a_path, a_reach) :=
  cx_count (fun n i s => wY_countSatisfying_4 post (nI P) f_maxEv f_mode f_thr f_msgCount f_hasWit f_hasPath f_pathLen a_init a_lo a_hi a_cnt a_val a_st a_msgP a_msgK a_msgRecv a_wit a_path a_reach n s (nI i)) 2401 (fun c => cx_Q P K st f_mode f_thr va a_lo a_hi (cx_d7 c))
    (fun n => br_t (nI_le (a := 2401) (b := 2401) (Nat.le_refl _) (by omega)) h)
    (fun n i s hi t f => br_f (nI_ge (b := 2401) hi (by omega)) (yw_valid hi hcn hK
      (fun v => br_f xw_10 (yw_cons hi hP hB v
        (fun co => br_f xw_10 (yw_sat hi hP hB v
          (fun sa => br_f xw_10 (nm_e (nm_r (nI_1 i) (t ⟨⟨v, co⟩, sa⟩))))
          (fun ns => br_t rfl (nm_r (nI_1 i) (f (fun z => ns z.2))))))
        (fun nc => br_t rfl (nm_r (nI_1 i) (f (fun z => nc z.1.2))))))
      (fun nv => br_t rfl (nm_r (nI_1 i) (f (fun z => nv z.1.1))))))
theorem yw_wit {post : Int32 → SY → Prop} {c : Nat} (hc : c < 2401) (h : ∀ wt : Nat → Int32, (∀ p, p < 4 → wt p = nI (cx_d7 c p)) → post 1 (f_procs, f_maxEv, f_mode, f_thr, f_msgCount, 1, f_hasPath, f_pathLen, a_init, a_lo, a_hi, a_cnt, a_val, a_st, a_msgP, a_msgK, a_msgRecv, wt, a_path, a_reach)) :
    ∃ n, wY_possibly_80 post (nI c) f_procs f_maxEv f_mode f_thr f_msgCount f_hasWit f_hasPath f_pathLen n 0 a_init a_lo a_hi a_cnt a_val a_st a_msgP a_msgK a_msgRecv a_wit a_path a_reach :=
  cx_inv (fun n i s => wY_possibly_80 post (nI c) f_procs f_maxEv f_mode f_thr f_msgCount f_hasWit f_hasPath f_pathLen n (nI i) a_init a_lo a_hi a_cnt a_val a_st a_msgP a_msgK a_msgRecv s a_path a_reach) (fun i s => ∀ p, p < i → s p = nI (cx_d7 c p)) 4 a_wit (fun p hp => absurd hp (Nat.not_lt_zero p))
    (fun n s I => br_t (nI_le (a := 4) (b := 4) (Nat.le_refl _) (by omega)) (h s I))
    (fun n i s hi I k => br_f (nI_ge (b := 4) hi (by omega)) (yw_digit hc hi ⟨vp_in_nI hi (by omega), by
      rw [nI_clamp (n := i) (by omega)]
      refine nm_e (nm_r (nI_1 i) (k _ (fun p hp => ?_)))
      by_cases e : p = i
      · rw [e, pk_us]
      · rw [pk_un e]
        exact I p (by omega)⟩))
theorem yw_total (hcn : ∀ i, a_cnt i = nI (K i)) : ((a_cnt 0 + a_cnt 1) + a_cnt 2) + a_cnt 3 = nI (cx_lv K) := by
  rw [hcn, hcn, hcn, hcn, nI_add, nI_add, nI_add]
  rfl
theorem yw_possibly {post : Int32 → SY → Prop} (hP : P ≤ 4) (hcn : ∀ i, a_cnt i = nI (K i)) (hK : ∀ p, p < 4 → K p ≤ 6) (hB : cx_B P K va st a_init a_val a_st)
    (hN : (∀ c, c < 2401 → ¬ cx_Q P K st f_mode f_thr va a_lo a_hi (cx_d7 c)) → post 0 (nI P, f_maxEv, f_mode, f_thr, f_msgCount, 0, f_hasPath, f_pathLen, a_init, a_lo, a_hi, a_cnt, a_val, a_st, a_msgP, a_msgK, a_msgRecv, a_wit, a_path, a_reach))
    (hS : ∀ (b : Nat) (wt : Nat → Int32), cx_Bst (cx_Q P K st f_mode f_thr va a_lo a_hi) cx_d7 2401 b → (∀ p, p < 4 → wt p = nI (cx_d7 b p)) → post 1 (nI P, f_maxEv, f_mode, f_thr, f_msgCount, 1, f_hasPath, f_pathLen, a_init, a_lo, a_hi, a_cnt, a_val, a_st, a_msgP, a_msgK, a_msgRecv, wt, a_path, a_reach)) :
    wpY_possibly post (nI P, f_maxEv, f_mode, f_thr, f_msgCount, f_hasWit, f_hasPath, f_pathLen, a_init, a_lo, a_hi, a_cnt, a_val, a_st, a_msgP, a_msgK, a_msgRecv, a_wit, a_path, a_reach) := by
  have T24 := cx_lv_6 hK
  refine nm_r (yw_total hcn) ?_
  refine cx_fst (fun n l => wY_possibly_30 post (nI (cx_lv K)) (nI P) f_maxEv f_mode f_thr f_msgCount f_hasWit f_hasPath f_pathLen a_init a_lo a_hi a_cnt a_val a_st a_msgP a_msgK a_msgRecv a_wit a_path a_reach n (nI l)) (cx_lv K + 1)
    (fun l => ∃ c, c < 2401 ∧ cx_Q P K st f_mode f_thr va a_lo a_hi (cx_d7 c) ∧ cx_lv (cx_d7 c) = l)
    (N := post 0 (nI P, f_maxEv, f_mode, f_thr, f_msgCount, 0, f_hasPath, f_pathLen, a_init, a_lo, a_hi, a_cnt, a_val, a_st, a_msgP, a_msgK, a_msgRecv, a_wit, a_path, a_reach))
    (F := fun l => ∀ c, c < 2401 → (cx_Q P K st f_mode f_thr va a_lo a_hi (cx_d7 c) ∧ cx_lv (cx_d7 c) = l) → (∀ j, j < c → ¬ (cx_Q P K st f_mode f_thr va a_lo a_hi (cx_d7 j) ∧ cx_lv (cx_d7 j) = l)) → ∃ n, wY_possibly_80 post (nI c) (nI P) f_maxEv f_mode f_thr f_msgCount f_hasWit f_hasPath f_pathLen n 0 a_init a_lo a_hi a_cnt a_val a_st a_msgP a_msgK a_msgRecv a_wit a_path a_reach)
    (fun l _ _ least c hc q lst => ?_) (fun none => hN (fun c hc q => none (cx_lv (cx_d7 c)) (by have := cx_lv_le q.1.1; omega) ⟨c, hc, q, rfl⟩))
    (fun n t => br_t (nI_lt (by omega) (by omega)) t)
    (fun n l hl nb b => br_f (nI_nlt (by omega) (by omega)) ?_)
  · refine yw_wit hc (fun wt hw => hS c wt ⟨hc, q.1, fun c' hc' q' => ?_⟩ hw)
    have e := q.2
    by_cases g : cx_lv (cx_d7 c') < l
    · exact absurd ⟨c', hc', q', rfl⟩ (least _ g)
    · by_cases g2 : cx_lv (cx_d7 c') = l
      · have : ¬ c' < c := fun z => lst c' z ⟨q', g2⟩
        omega
      · omega
  · refine cx_fst (fun m c => wY_possibly_37 post (wY_possibly_30 post (nI (cx_lv K)) (nI P) f_maxEv f_mode f_thr f_msgCount f_hasWit f_hasPath f_pathLen a_init a_lo a_hi a_cnt a_val a_st a_msgP a_msgK a_msgRecv a_wit a_path a_reach n) (nI (cx_lv K)) (nI l) (nI P) f_maxEv f_mode f_thr f_msgCount f_hasWit f_hasPath f_pathLen a_init a_lo a_hi a_cnt a_val a_st a_msgP a_msgK a_msgRecv a_wit a_path a_reach m (nI c)) 2401
      (fun c => cx_Q P K st f_mode f_thr va a_lo a_hi (cx_d7 c) ∧ cx_lv (cx_d7 c) = l)
      (N := wY_possibly_30 post (nI (cx_lv K)) (nI P) f_maxEv f_mode f_thr f_msgCount f_hasWit f_hasPath f_pathLen a_init a_lo a_hi a_cnt a_val a_st a_msgP a_msgK a_msgRecv a_wit a_path a_reach n (nI (l + 1)))
      (F := fun c => ∃ n, wY_possibly_80 post (nI c) (nI P) f_maxEv f_mode f_thr f_msgCount f_hasWit f_hasPath f_pathLen n 0 a_init a_lo a_hi a_cnt a_val a_st a_msgP a_msgK a_msgRecv a_wit a_path a_reach)
      (fun c hc q lst => b ⟨c, hc, q⟩ c hc q lst) (fun none => nb (fun z => by obtain ⟨c, hc, q⟩ := z; exact none c hc q))
      (fun m t => br_t (nI_le (a := 2401) (b := 2401) (Nat.le_refl _) (by omega)) (nm_r (nI_1 l) t))
      (fun m c hc nb' b' => br_f (nI_ge (b := 2401) hc (by omega)) ?_)
    refine yw_valid hc hcn hK (fun v => br_f xw_10 (yw_level hc ?_)) (fun nv => br_t rfl (nm_r (nI_1 c) (nb' (fun z => nv z.1.1.1))))
    have l24 := cx_lv_24 v hK
    refine cx_eq (by omega) (by omega) (fun e => ?_) (fun ne => nm_r (nI_1 c) (nb' (fun z => ne z.2)))
    refine yw_cons hc hP hB v (fun co => br_f xw_10 ?_) (fun nc => br_t rfl (nm_r (nI_1 c) (nb' (fun z => nc z.1.1.2))))
    exact yw_sat hc hP hB v (fun sa => br_f xw_10 (b' ⟨⟨⟨v, co⟩, sa⟩, e⟩)) (fun ns => br_t rfl (nm_r (nI_1 c) (nb' (fun z => ns z.1.2))))
end
end
section
/-! definitely() on the component's side -/
theorem cx_nar0 : vp_nar .boolean 0 = 0 := rfl
theorem cx_nar1 : vp_nar .boolean 1 = 1 := rfl
section
variable {P : Nat} {K : Nat → Nat} {G : (Nat → Nat) → Prop} {f_procs f_maxEvents f_messages f_mode f_threshold f_witnessCut f_pathSteps : Int32} {a_counts a_values a_stamps a_senders a_sendSlots a_received a_lows a_highs a_path a_avoidable : Nat → Int32}
theorem xw_final {post : Int32 → Prop} {c : Nat} (hc : c < 4096) (hP : P ≤ 4) (hcn : ∀ i, a_counts i = nI (K i)) (hK : ∀ p, p < 4 → K p ≤ 6) (hT : (∀ p, p < P → cx_d8 c p = K p) → post 1) (hF : ¬ (∀ p, p < P → cx_d8 c p = K p) → post 0) :
    wpX_isFinal post (nI P, f_maxEvents, f_messages, f_mode, f_threshold, f_witnessCut, f_pathSteps, a_counts, a_values, a_stamps, a_senders, a_sendSlots, a_received, a_lows, a_highs, a_path, a_avoidable) (nI c) :=
  cx_all (fun n i => wX_isFinal_2 post (nI c) (nI P) f_maxEvents f_messages f_mode f_threshold f_witnessCut f_pathSteps a_counts a_values a_stamps a_senders a_sendSlots a_received a_lows a_highs a_path a_avoidable n (nI i)) P (fun p => cx_d8 c p = K p) hT hF
    (fun n t => br_t (nI_le (Nat.le_refl P) (by omega)) t)
    (fun n i hi t f => br_f (nI_ge hi (by omega)) (xw_index hc (by omega) ⟨vp_in_nI (by omega) (by omega), by
      rw [nI_clamp (n := i) (by omega), hcn]
      have := hK i (by omega)
      have := cx_8_lt c i
      exact cx_eq (by omega) (by omega) (fun h => nm_r (nI_1 i) (t h)) f⟩))
theorem xw_least {post : Int32 → Prop} {c : Nat} (hc : c < 4096) (hP : P ≤ 4) (hcn : ∀ i, a_counts i = nI (K i)) (hK : ∀ p, p < 4 → K p ≤ 6) (hav : ∀ c', c < c' → c' < 4096 → a_avoidable c' = cx_i (cx_R G K P (cx_d8 c')))
    (hS : ∀ p, cx_S G K P (cx_d8 c) p → (∀ j, j < p → ¬ cx_S G K P (cx_d8 c) j) → post (nI p)) (hN : (∀ p, ¬ cx_S G K P (cx_d8 c) p) → post (-1)) :
    wpX_leastAvoidingStep post (nI P, f_maxEvents, f_messages, f_mode, f_threshold, f_witnessCut, f_pathSteps, a_counts, a_values, a_stamps, a_senders, a_sendSlots, a_received, a_lows, a_highs, a_path, a_avoidable) (nI c) :=
  cx_fst (fun n i => wX_leastAvoidingStep_2 post (nI c) (nI P) f_maxEvents f_messages f_mode f_threshold f_witnessCut f_pathSteps a_counts a_values a_stamps a_senders a_sendSlots a_received a_lows a_highs a_path a_avoidable n (nI i)) P (cx_S G K P (cx_d8 c)) (F := fun p => post (nI p)) (N := post (-1))
    (fun i _ s l => hS i s l) (fun none => hN (fun p s => none p s.1 s))
    (fun n t => br_t (nI_le (Nat.le_refl P) (by omega)) t)
    (fun n i hi nb b => br_f (nI_ge hi (by omega)) (xw_index hc (by omega) ⟨vp_in_nI (by omega) (by omega), by
      rw [nI_clamp (n := i) (by omega), hcn]
      have k6 := hK i (by omega)
      have d8 := cx_8_lt c i
      refine cx_le (by omega) (by omega) (fun h => nm_r (nI_1 i) (nb (fun s => by have := s.2.1; omega))) (fun h => xw_step (by omega) ?_)
      have e := cx_8_step hc (p := i) (by omega) (by omega)
      refine ⟨vp_in_nI e.2 (by omega), ?_⟩
      have w0 : 0 < cx_w8 i := by
        unfold cx_w8
        repeat' split
        all_goals omega
      rw [nI_clamp (by omega), hav _ (by omega) e.2, e.1]
      exact ek_if cx_i_0 (fun z => nm_r (nI_1 i) (nb (fun s => z s.2.2))) (fun z => b ⟨hi, by omega, Classical.byContradiction z⟩)⟩))
/-! the answer of leastAvoidingStep on the least avoiding path's i-th cut -/
noncomputable def cx_xs (G : (Nat → Nat) → Prop) (K : Nat → Nat) (P i : Nat) : Int32 := if i < cx_lv K then nI (cx_ls (cx_S G K P (cx_D G K P i))) else -1
theorem xw_leastD {post : Int32 → Prop} {c i : Nat} (hG : ∀ d, G d → ∀ p, p < 4 → d p ≤ K p) (hc : c < 4096) (hP : P ≤ 4) (hcn : ∀ i, a_counts i = nI (K i)) (hK : ∀ p, p < 4 → K p ≤ 6) (hav : ∀ c', c' < 4096 → a_avoidable c' = cx_i (cx_R G K P (cx_d8 c')))
    (h0 : cx_R G K P (fun _ => 0)) (hi : i ≤ cx_lv K) (hd : cx_d8 c = cx_D G K P i) (h : post (cx_xs G K P i)) : wpX_leastAvoidingStep post (nI P, f_maxEvents, f_messages, f_mode, f_threshold, f_witnessCut, f_pathSteps, a_counts, a_values, a_stamps, a_senders, a_sendSlots, a_received, a_lows, a_highs, a_path, a_avoidable) (nI c) := by
  unfold cx_xs at h
  refine xw_least (G := G) hc hP hcn hK (fun c' _ h' => hav c' h') (fun p s l => ?_) (fun n => ?_)
  · rw [hd] at s l
    by_cases e : i < cx_lv K
    · rw [if_pos e, cx_ls_u s l] at h
      exact h
    · have e' : i = cx_lv K := by omega
      rw [e'] at s
      exact absurd s (cx_D_end hG hP hK h0 p)
  · rw [hd] at n
    by_cases e : i < cx_lv K
    · exact absurd (cx_D_st hG hP hK h0 e).1 (n _)
    · rw [if_neg e] at h
      exact h
theorem xw_record {post : SX → Prop} (hG : ∀ d, G d → ∀ p, p < 4 → d p ≤ K p) (hP : P ≤ 4) (hcn : ∀ i, a_counts i = nI (K i)) (hK : ∀ p, p < 4 → K p ≤ 6) (hav : ∀ c', c' < 4096 → a_avoidable c' = cx_i (cx_R G K P (cx_d8 c')))
    (h0 : cx_R G K P (fun _ => 0)) (h : ∀ pa : Nat → Int32, (∀ j, j < cx_lv K → pa j = nI (cx_ls (cx_S G K P (cx_D G K P j)))) → post (nI P, f_maxEvents, f_messages, f_mode, f_threshold, f_witnessCut, nI (cx_lv K), a_counts, a_values, a_stamps, a_senders, a_sendSlots, a_received, a_lows, a_highs, pa, a_avoidable)) :
    wpX_recordPath post (nI P, f_maxEvents, f_messages, f_mode, f_threshold, f_witnessCut, f_pathSteps, a_counts, a_values, a_stamps, a_senders, a_sendSlots, a_received, a_lows, a_highs, a_path, a_avoidable) := by
  have T24 := cx_lv_6 hK
  have L : ∀ m i c (pa : Nat → Int32), i + m = cx_lv K → c < 4096 → cx_d8 c = cx_D G K P i → (∀ j, j < i → pa j = nI (cx_ls (cx_S G K P (cx_D G K P j)))) →
      wX_recordPath_10 post (nI P) f_maxEvents f_messages f_mode f_threshold f_witnessCut f_pathSteps (m + 1) (nI c) (nI i) (cx_xs G K P i) a_counts a_values a_stamps a_senders a_sendSlots a_received a_lows a_highs pa a_avoidable := by
    intro m
    induction m with
    | zero =>
      intro i c pa hi hc hd hp
      have e : i = cx_lv K := by omega
      subst e
      have ex : cx_xs G K P (cx_lv K) = -1 := if_neg (Nat.lt_irrefl _)
      rw [ex]
      exact br_t rfl (h pa hp)
    | succ m ih =>
      intro i c pa hi hc hd hp
      have hl : i < cx_lv K := by omega
      have ex : cx_xs G K P i = nI (cx_ls (cx_S G K P (cx_D G K P i))) := if_pos hl
      have s := (cx_D_st hG hP hK h0 hl).1
      have es := cx_D_s G K P i
      rw [ex]
      generalize hg : cx_ls (cx_S G K P (cx_D G K P i)) = l at s es ⊢
      have s1 := s.1
      have s2 := s.2.1
      have k6 := hK l (by omega)
      have e := cx_8_step hc (p := l) (by omega) (by rw [hd]; omega)
      refine br_f (cx_m1 (by omega)) (br_f (nI_ge (b := 24) (by omega) (by omega)) ⟨vp_in_nI (by omega) (by omega), ?_⟩)
      rw [nI_clamp (n := i) (by omega)]
      refine nm_e (nm_r (nI_1 i) (xw_step (by omega) ?_))
      refine xw_leastD hG e.2 hP hcn hK hav h0 (i := i + 1) (by omega) (by rw [e.1, hd, es]) ?_
      refine ih (i + 1) (c + cx_w8 l) _ (by omega) e.2 (by rw [e.1, hd, es]) (fun j hj => ?_)
      by_cases ej : j = i
      · rw [ej, pk_us, hg]
      · rw [pk_un ej]
        exact hp j (by omega)
  unfold wpX_recordPath
  refine xw_leastD hG (c := 0) (by omega) hP hcn hK hav h0 (i := 0) (by omega) cx_8_z ?_
  exact ⟨_, L (cx_lv K) 0 0 a_path (by omega) (by omega) cx_8_z (fun j hj => absurd hj (Nat.not_lt_zero j))⟩
end
section
variable {P : Nat} {K : Nat → Nat} {f_procs f_maxEvents f_messages f_mode f_threshold f_witnessCut f_pathSteps : Int32} {a_counts a_values a_stamps a_senders a_sendSlots a_received a_lows a_highs a_path a_avoidable : Nat → Int32}
theorem xw_definitely {post : Int32 → SX → Prop} (hP : P ≤ 4) (hcn : ∀ i, a_counts i = nI (K i)) (hK : ∀ p, p < 4 → K p ≤ 6) (hz : ∀ p, P ≤ p → K p = 0)
    (hT : ¬ cx_R (cx_G P K a_stamps f_mode f_threshold a_values a_lows a_highs) K P (fun _ => 0) → ∀ av : Nat → Int32, post 1 (nI P, f_maxEvents, f_messages, f_mode, f_threshold, f_witnessCut, -1, a_counts, a_values, a_stamps, a_senders, a_sendSlots, a_received, a_lows, a_highs, a_path, av))
    (hF : cx_R (cx_G P K a_stamps f_mode f_threshold a_values a_lows a_highs) K P (fun _ => 0) → ∀ av pa : Nat → Int32, (∀ j, j < cx_lv K → pa j = nI (cx_ls (cx_S (cx_G P K a_stamps f_mode f_threshold a_values a_lows a_highs) K P (cx_D (cx_G P K a_stamps f_mode f_threshold a_values a_lows a_highs) K P j)))) →
      post 0 (nI P, f_maxEvents, f_messages, f_mode, f_threshold, f_witnessCut, nI (cx_lv K), a_counts, a_values, a_stamps, a_senders, a_sendSlots, a_received, a_lows, a_highs, pa, av)) :
    wpX_definitely post (nI P, f_maxEvents, f_messages, f_mode, f_threshold, f_witnessCut, f_pathSteps, a_counts, a_values, a_stamps, a_senders, a_sendSlots, a_received, a_lows, a_highs, a_path, a_avoidable) := by
  have hG := cx_G_K (P := P) (K := K) (st := a_stamps) (md := f_mode) (th := f_threshold) (va := a_values) (lo := a_lows) (hi := a_highs)
  have hg : ∀ d, cx_G P K a_stamps f_mode f_threshold a_values a_lows a_highs d ↔ (cx_V P K a_stamps d ∧ ¬ cx_Sa P f_mode f_threshold a_values a_lows a_highs d) := fun _ => Iff.rfl
  generalize cx_G P K a_stamps f_mode f_threshold a_values a_lows a_highs = G at hT hF hG hg
  refine cx_down (fun n x s => wX_definitely_4 post (nI P) f_maxEvents f_messages f_mode f_threshold f_witnessCut f_pathSteps n x a_counts a_values a_stamps a_senders a_sendSlots a_received a_lows a_highs a_path s) (fun m s => m ≤ 4096 ∧ ∀ c, m ≤ c → c < 4096 → s c = cx_i (cx_R G K P (cx_d8 c)))
    (fun n s I => br_t (by decide) ?_) (fun n i s I k => ?_) 4095 a_avoidable ⟨Nat.le_refl _, fun c h h' => absurd h (by omega)⟩
  · have hav : ∀ c, c < 4096 → s c = cx_i (cx_R G K P (cx_d8 c)) := fun c hc => I.2 c (Nat.zero_le c) hc
    have z := hav 0 (by omega)
    rw [cx_8_z] at z
    by_cases r : cx_R G K P (fun _ => 0)
    · rw [cx_i_t r] at z
      refine br_f (by rw [z]; decide) ?_
      exact xw_record hG hP hcn hK hav r (fun pa hp => hF r s pa hp)
    · rw [cx_i_f r] at z
      exact br_t z (hT r s)
  · have hi : i < 4096 := by have := I.1; omega
    have set0 : ¬ cx_R G K P (cx_d8 i) → (vp_in (nI i) 4096 ∧ ∀ a : Nat → Int32, a = upd s (nI i).toNatClampNeg (vp_nar .boolean 0) → (∀ x : Int32, x = nI i + (-1) → wX_definitely_4 post (nI P) f_maxEvents f_messages f_mode f_threshold f_witnessCut f_pathSteps n x a_counts a_values a_stamps a_senders a_sendSlots a_received a_lows a_highs a_path a)) := by
      intro r
      refine ⟨vp_in_nI hi (by omega), ?_⟩
      rw [nI_clamp (by omega), cx_nar0]
      refine nm_e (nm_e (k _ ⟨by omega, fun c h h' => ?_⟩))
      by_cases e : c = i
      · rw [e, pk_us, cx_i_f r]
      · rw [pk_un e]
        exact I.2 c (by omega) h'
    have set1 : cx_R G K P (cx_d8 i) → (vp_in (nI i) 4096 ∧ ∀ a : Nat → Int32, a = upd s (nI i).toNatClampNeg (vp_nar .boolean 1) → (∀ x : Int32, x = nI i + (-1) → wX_definitely_4 post (nI P) f_maxEvents f_messages f_mode f_threshold f_witnessCut f_pathSteps n x a_counts a_values a_stamps a_senders a_sendSlots a_received a_lows a_highs a_path a)) := by
      intro r
      refine ⟨vp_in_nI hi (by omega), ?_⟩
      rw [nI_clamp (by omega), cx_nar1]
      refine nm_e (nm_e (k _ ⟨by omega, fun c h h' => ?_⟩))
      by_cases e : c = i
      · rw [e, pk_us, cx_i_t r]
      · rw [pk_un e]
        exact I.2 c (by omega) h'
    have R := cx_R_iff hG hP hK (cx_d8 i)
    refine br_f (nI_pos (by omega)) (xw_state hi hP hcn hK ?_ ?_ ?_ ?_)
    · exact fun nv => br_f (by decide) (set0 (fun r => nv ((hg _).mp (R.mp r).1).1.1))
    · exact fun _ nc => br_f (by decide) (set0 (fun r => nc ((hg _).mp (R.mp r).1).1.2))
    · intro v ns
      refine br_t rfl (xw_final hi hP hcn hK (fun f => br_f xw_10 (set1 ?_)) (fun nf => br_t rfl ?_))
      · refine R.mpr ⟨(hg _).mpr ⟨v, ns⟩, Or.inl (fun p hp => ?_)⟩
        by_cases e : p < P
        · exact f p e
        · have a := v.1 p hp
          have b := hz p (by omega)
          omega
      · refine xw_least (G := G) hi hP hcn hK (fun c' h h' => I.2 c' (by omega) h') (fun p s l => ?_) (fun no => ?_)
        · exact br_f (cx_m1 (by have := s.1; omega)) (set1 (R.mpr ⟨(hg _).mpr ⟨v, ns⟩, Or.inr ⟨p, s.1, s.2.1, s.2.2⟩⟩))
        · refine br_t rfl (set0 (fun r => ?_))
          rcases (R.mp r).2 with f | ⟨p, a, b, c⟩
          · exact nf (fun p hp => f p (by omega))
          · exact no p ⟨a, b, c⟩
    · exact fun v sa => br_f (by decide) (set0 (fun r => ((hg _).mp (R.mp r).1).2 sa))
end
end
section
/-! definitely() on the reference's side -/
section
variable {P : Nat} {K : Nat → Nat} {G A : (Nat → Nat) → Prop} {va st : Nat → Int32} {f_procs f_maxEv f_mode f_thr f_msgCount f_hasWit f_hasPath f_pathLen : Int32} {a_init a_lo a_hi a_cnt a_val a_st a_msgP a_msgK a_msgRecv a_wit a_path a_reach : Nat → Int32}
theorem yw_succ {post : Int32 → Prop} {c : Nat} (hc : c < 2401) (hP : P ≤ 4) (hcn : ∀ i, a_cnt i = nI (K i)) (hK : ∀ p, p < 4 → K p ≤ 6) (hr : ∀ c', c < c' → c' < 2401 → a_reach c' = cx_i (A (cx_d7 c')))
    (hT : (∃ p, p < P ∧ cx_d7 c p < K p ∧ A (cx_up (cx_d7 c) p)) → post 1) (hF : ¬ (∃ p, p < P ∧ cx_d7 c p < K p ∧ A (cx_up (cx_d7 c) p)) → post 0) :
    wpY_succReach post (nI P, f_maxEv, f_mode, f_thr, f_msgCount, f_hasWit, f_hasPath, f_pathLen, a_init, a_lo, a_hi, a_cnt, a_val, a_st, a_msgP, a_msgK, a_msgRecv, a_wit, a_path, a_reach) (nI c) :=
  cx_fst (fun n i => wY_succReach_2 post (nI c) (nI P) f_maxEv f_mode f_thr f_msgCount f_hasWit f_hasPath f_pathLen a_init a_lo a_hi a_cnt a_val a_st a_msgP a_msgK a_msgRecv a_wit a_path a_reach n (nI i)) P (fun p => cx_d7 c p < K p ∧ A (cx_up (cx_d7 c) p)) (F := fun _ => post 1) (N := post 0)
    (fun i hi s _ => hT ⟨i, hi, s⟩) (fun none => hF (fun z => by obtain ⟨p, hp, s⟩ := z; exact none p hp s))
    (fun n t => br_t (nI_le (Nat.le_refl P) (by omega)) t)
    (fun n i hi nb b => br_f (nI_ge hi (by omega)) (yw_digit hc (by omega) ⟨vp_in_nI (by omega) (by omega), by
      rw [nI_clamp (n := i) (by omega), hcn]
      have k6 := hK i (by omega)
      have d7 := cx_7_lt c i
      refine cx_le (by omega) (by omega) (fun h => nm_r (nI_1 i) (nb (fun s => by have := s.1; omega))) (fun h => yw_weight (by omega) ?_)
      have e := cx_7_step hc (p := i) (by omega) (by omega)
      have w0 := (cx_w7_pos i).1
      rw [nI_add]
      refine ⟨vp_in_nI e.2 (by omega), ?_⟩
      rw [nI_clamp (by omega), hr _ (by omega) e.2, e.1]
      exact ek_if cx_i_0 (fun z => nm_r (nI_1 i) (nb (fun s => z s.2))) (fun z => b ⟨by omega, Classical.byContradiction z⟩)⟩))
theorem yw_path {post : Int32 → SY → Prop} (hG : ∀ d, G d → ∀ p, p < 4 → d p ≤ K p) (hP : P ≤ 4) (hcn : ∀ i, a_cnt i = nI (K i)) (hK : ∀ p, p < 4 → K p ≤ 6) (hr : ∀ c', c' < 2401 → a_reach c' = cx_i (cx_R G K P (cx_d7 c')))
    (h0 : cx_R G K P (fun _ => 0)) (h : ∀ pa : Nat → Int32, (∀ j, j < cx_lv K → pa j = nI (cx_ls (cx_S G K P (cx_D G K P j)))) → post 0 (nI P, f_maxEv, f_mode, f_thr, f_msgCount, f_hasWit, 1, nI (cx_lv K), a_init, a_lo, a_hi, a_cnt, a_val, a_st, a_msgP, a_msgK, a_msgRecv, a_wit, pa, a_reach)) :
    ∃ n, wY_definitely_176 post (nI (cx_lv K)) (nI P) f_maxEv f_mode f_thr f_msgCount f_hasWit f_hasPath f_pathLen n 0 0 a_init a_lo a_hi a_cnt a_val a_st a_msgP a_msgK a_msgRecv a_wit a_path a_reach := by
  have T24 := cx_lv_6 hK
  have L : ∀ m i c (pa : Nat → Int32), i + m = cx_lv K → c < 2401 → cx_d7 c = cx_D G K P i → (∀ j, j < i → pa j = nI (cx_ls (cx_S G K P (cx_D G K P j)))) →
      wY_definitely_176 post (nI (cx_lv K)) (nI P) f_maxEv f_mode f_thr f_msgCount f_hasWit f_hasPath f_pathLen (m + 1) (nI c) (nI i) a_init a_lo a_hi a_cnt a_val a_st a_msgP a_msgK a_msgRecv a_wit pa a_reach := by
    intro m
    induction m with
    | zero =>
      intro i c pa hi hc hd hp
      have e : i = cx_lv K := by omega
      subst e
      exact br_t (nI_le (Nat.le_refl _) (by omega)) (h pa hp)
    | succ m ih =>
      intro i c pa hi hc hd hp'
      have hl : i < cx_lv K := by omega
      have s := cx_D_st hG hP hK h0 hl
      have es := cx_D_s G K P i
      rw [← hd] at s es
      refine br_f (nI_ge hl (by omega)) ?_
      refine cx_fst (fun q p => wY_definitely_185 post (wY_definitely_176 post (nI (cx_lv K)) (nI P) f_maxEv f_mode f_thr f_msgCount f_hasWit f_hasPath f_pathLen (m + 1)) (nI (cx_lv K)) (nI c) (nI i) (nI P) f_maxEv f_mode f_thr f_msgCount f_hasWit f_hasPath f_pathLen a_init a_lo a_hi a_cnt a_val a_st a_msgP a_msgK a_msgRecv a_wit pa a_reach q (nI p)) P (cx_S G K P (cx_d7 c)) (N := False)
        (F := fun p => (vp_in (nI i) 24 ∧ ∀ a : Nat → Int32, a = upd pa (nI i).toNatClampNeg (nI p) → (wpY_weight (fun r => (∀ x3 : Int32, x3 = nI c + r → (∀ x4 : Int32, x4 = nI i + 1 → (wY_definitely_176 post (nI (cx_lv K)) (nI P) f_maxEv f_mode f_thr f_msgCount f_hasWit f_hasPath f_pathLen (m + 1) x3 x4 a_init a_lo a_hi a_cnt a_val a_st a_msgP a_msgK a_msgRecv a_wit a a_reach)))) (nI P, f_maxEv, f_mode, f_thr, f_msgCount, f_hasWit, f_hasPath, f_pathLen, a_init, a_lo, a_hi, a_cnt, a_val, a_st, a_msgP, a_msgK, a_msgRecv, a_wit, a, a_reach) (nI p))))
        (fun p hp sp lp => ?_) (fun none => none _ s.1.1 s.1) (fun _ f => f.elim) (fun q p hp nb b => br_f (nI_ge hp (by omega)) (yw_digit hc (by omega) ⟨vp_in_nI (by omega) (by omega), ?_⟩))
      · have el := cx_ls_u sp lp
        rw [el] at es
        have k6 := hK p (by omega)
        have d7 := sp.2.1
        have e := cx_7_step hc (p := p) (by omega) (by omega)
        refine ⟨vp_in_nI (by omega) (by omega), ?_⟩
        rw [nI_clamp (n := i) (by omega)]
        refine nm_e (yw_weight (by omega) (nm_r (nI_add _ _) (nm_r (nI_1 i) (ih (i + 1) _ _ (by omega) e.2 (by rw [e.1, es]) (fun j hj => ?_)))))
        by_cases ej : j = i
        · rw [ej, pk_us, ← hd, el]
        · rw [pk_un ej]
          exact hp' j (by omega)
      · rw [nI_clamp (n := p) (by omega), hcn]
        have k6 := hK p (by omega)
        have d7 := cx_7_lt c p
        refine cx_le (by omega) (by omega) (fun h => nm_r (nI_1 p) (nb (fun s => by have := s.2.1; omega))) (fun h => yw_weight (by omega) ?_)
        have e := cx_7_step hc (p := p) (by omega) (by omega)
        rw [nI_add]
        refine ⟨vp_in_nI e.2 (by omega), ?_⟩
        have cl : (nI (c + cx_w7 p)).toNatClampNeg = c + cx_w7 p := nI_clamp (by omega)
        rw [cl, hr _ e.2, e.1]
        exact ek_if cx_i_0 (fun z => nm_r (nI_1 p) (nb (fun s => z s.2.2))) (fun z => b ⟨hp, by omega, Classical.byContradiction z⟩)
  exact ⟨_, L (cx_lv K) 0 0 a_path (by omega) (by omega) cx_7_z (fun j hj => absurd hj (Nat.not_lt_zero j))⟩
end
theorem cx_fin {K : Nat → Nat} {c : Nat} (hc : c < 2401) (hK : ∀ p, p < 4 → K p ≤ 6) (hz : ∀ p, 4 ≤ p → K p = 0) : c = cx_c7 K ↔ (∀ p, p < 4 → cx_d7 c p = K p) := by
  constructor
  · intro e p _
    rw [e, cx_7_of (fun p hp => Nat.lt_succ_of_le (hK p hp)) hz]
  · intro f
    have e := cx_7_c hc
    have f0 := f 0 (by omega)
    have f1 := f 1 (by omega)
    have f2 := f 2 (by omega)
    have f3 := f 3 (by omega)
    unfold cx_c7 at e ⊢
    omega
section
variable {P : Nat} {K : Nat → Nat} {va st : Nat → Int32} {f_procs f_maxEv f_mode f_thr f_msgCount f_hasWit f_hasPath f_pathLen : Int32} {a_init a_lo a_hi a_cnt a_val a_st a_msgP a_msgK a_msgRecv a_wit a_path a_reach : Nat → Int32}
theorem yw_fin (hcn : ∀ i, a_cnt i = nI (K i)) : (((a_cnt 0 * 343) + (a_cnt 1 * 49)) + (a_cnt 2 * 7)) + a_cnt 3 = nI (cx_c7 K) := by
  have e0 : nI (K 0) * 343 = nI (K 0 * 343) := pk_mul (K 0) 343
  have e1 : nI (K 1) * 49 = nI (K 1 * 49) := pk_mul (K 1) 49
  have e2 : nI (K 2) * 7 = nI (K 2 * 7) := pk_mul (K 2) 7
  rw [hcn, hcn, hcn, hcn, e0, e1, e2, nI_add, nI_add, nI_add]
  refine congrArg nI ?_
  unfold cx_c7
  omega
theorem yw_definitely {post : Int32 → SY → Prop} (hP : P ≤ 4) (hcn : ∀ i, a_cnt i = nI (K i)) (hK : ∀ p, p < 4 → K p ≤ 6) (hz : ∀ p, P ≤ p → K p = 0) (hB : cx_B P K va st a_init a_val a_st)
    (hT : ¬ cx_R (cx_G P K st f_mode f_thr va a_lo a_hi) K P (fun _ => 0) → ∀ rh : Nat → Int32, post 1 (nI P, f_maxEv, f_mode, f_thr, f_msgCount, f_hasWit, 0, f_pathLen, a_init, a_lo, a_hi, a_cnt, a_val, a_st, a_msgP, a_msgK, a_msgRecv, a_wit, a_path, rh))
    (hF : cx_R (cx_G P K st f_mode f_thr va a_lo a_hi) K P (fun _ => 0) → ∀ rh pa : Nat → Int32, (∀ j, j < cx_lv K → pa j = nI (cx_ls (cx_S (cx_G P K st f_mode f_thr va a_lo a_hi) K P (cx_D (cx_G P K st f_mode f_thr va a_lo a_hi) K P j)))) →
      post 0 (nI P, f_maxEv, f_mode, f_thr, f_msgCount, f_hasWit, 1, nI (cx_lv K), a_init, a_lo, a_hi, a_cnt, a_val, a_st, a_msgP, a_msgK, a_msgRecv, a_wit, pa, rh)) :
    wpY_definitely post (nI P, f_maxEv, f_mode, f_thr, f_msgCount, f_hasWit, f_hasPath, f_pathLen, a_init, a_lo, a_hi, a_cnt, a_val, a_st, a_msgP, a_msgK, a_msgRecv, a_wit, a_path, a_reach) := by
  have T24 := cx_lv_6 hK
  have F24 : cx_c7 K < 2401 := cx_c7_lt (fun p hp => Nat.lt_succ_of_le (hK p hp))
  have hG := cx_G_K (P := P) (K := K) (st := st) (md := f_mode) (th := f_thr) (va := va) (lo := a_lo) (hi := a_hi)
  refine nm_r (yw_total hcn) (nm_r (yw_fin hcn) ?_)
  refine cx_inv (fun n i s => wY_definitely_68 post (nI (cx_lv K)) (nI (cx_c7 K)) (nI P) f_maxEv f_mode f_thr f_msgCount f_hasWit f_hasPath f_pathLen n (nI i) a_init a_lo a_hi a_cnt a_val a_st a_msgP a_msgK a_msgRecv a_wit a_path s) (fun i s => ∀ c, c < i → s c = 0) 2401 a_reach (fun c h => absurd h (Nat.not_lt_zero c))
    (fun n s I => br_t (nI_le (a := 2401) (b := 2401) (Nat.le_refl _) (by omega)) ?_) (fun n i s hi I k => br_f (nI_ge (b := 2401) hi (by omega)) ⟨vp_in_nI hi (by omega), ?_⟩)
  · refine cx_inv (fun n m s => wY_definitely_90 post (nI (cx_lv K)) (nI (cx_c7 K)) (nI P) f_maxEv f_mode f_thr f_msgCount f_hasWit f_hasPath f_pathLen n (nI m) a_init a_lo a_hi a_cnt a_val a_st a_msgP a_msgK a_msgRecv a_wit a_path s)
      (fun m s => ∀ c, c < 2401 → s c = cx_i (cx_A (cx_G P K st f_mode f_thr va a_lo a_hi) K P m (cx_d7 c))) 26 s (fun c hc => by rw [I c hc]; exact (cx_i_f (fun z => z)).symm)
      (fun n s I => br_t (nI_le (a := 26) (b := 26) (Nat.le_refl _) (by omega)) ?_) (fun n m s hm I k => br_f (nI_ge (b := 26) hm (by omega)) ?_)
    · have hr : ∀ c, c < 2401 → s c = cx_i (cx_R (cx_G P K st f_mode f_thr va a_lo a_hi) K P (cx_d7 c)) := I
      have z := hr 0 (by omega)
      rw [cx_7_z] at z
      by_cases r : cx_R (cx_G P K st f_mode f_thr va a_lo a_hi) K P (fun _ => 0)
      · rw [cx_i_t r] at z
        refine br_f (by rw [z]; decide) ?_
        exact yw_path hG hP hcn hK hr r (fun pa hp => hF r s pa hp)
      · rw [cx_i_f r] at z
        exact br_t z (hT r s)
    · refine cx_inv (fun q c s' => wY_definitely_99 post (wY_definitely_90 post (nI (cx_lv K)) (nI (cx_c7 K)) (nI P) f_maxEv f_mode f_thr f_msgCount f_hasWit f_hasPath f_pathLen n) (nI (cx_lv K)) (nI (cx_c7 K)) (nI m) (nI P) f_maxEv f_mode f_thr f_msgCount f_hasWit f_hasPath f_pathLen q (nI c) a_init a_lo a_hi a_cnt a_val a_st a_msgP a_msgK a_msgRecv a_wit a_path s')
        (fun c s' => (∀ c', c' < c → s' c' = cx_i (cx_A (cx_G P K st f_mode f_thr va a_lo a_hi) K P (m + 1) (cx_d7 c'))) ∧ (∀ c', c ≤ c' → c' < 2401 → s' c' = cx_i (cx_A (cx_G P K st f_mode f_thr va a_lo a_hi) K P m (cx_d7 c')))) 2401 s
        ⟨fun c h => absurd h (Nat.not_lt_zero c), fun c _ h => I c h⟩
        (fun q s' J => br_t (nI_le (a := 2401) (b := 2401) (Nat.le_refl _) (by omega)) (nm_r (nI_1 m) (k s' J.1)))
        (fun q c s' hc J k' => br_f (nI_ge (b := 2401) hc (by omega)) ?_)
      have Ai := cx_A_s (cx_G P K st f_mode f_thr va a_lo a_hi) K P m (cx_d7 c)
      have fi := cx_fin hc hK (fun p hp => hz p (by omega))
      have set0 : ¬ cx_A (cx_G P K st f_mode f_thr va a_lo a_hi) K P (m + 1) (cx_d7 c) → (vp_in (nI c) 2401 ∧ ∀ a : Nat → Int32, a = upd s' (nI c).toNatClampNeg (vp_nar .boolean 0) → (∀ x : Int32, x = nI c + 1 →
          wY_definitely_99 post (wY_definitely_90 post (nI (cx_lv K)) (nI (cx_c7 K)) (nI P) f_maxEv f_mode f_thr f_msgCount f_hasWit f_hasPath f_pathLen n) (nI (cx_lv K)) (nI (cx_c7 K)) (nI m) (nI P) f_maxEv f_mode f_thr f_msgCount f_hasWit f_hasPath f_pathLen q x a_init a_lo a_hi a_cnt a_val a_st a_msgP a_msgK a_msgRecv a_wit a_path a)) := by
        intro r
        refine ⟨vp_in_nI hc (by omega), ?_⟩
        rw [nI_clamp (n := c) (by omega), cx_nar0]
        refine nm_e (nm_r (nI_1 c) (k' _ ⟨fun c' h => ?_, fun c' h h' => ?_⟩))
        · by_cases e : c' = c
          · rw [e, pk_us, cx_i_f r]
          · rw [pk_un e]
            exact J.1 c' (by omega)
        · rw [pk_un (by omega)]
          exact J.2 c' (by omega) h'
      have set1 : cx_A (cx_G P K st f_mode f_thr va a_lo a_hi) K P (m + 1) (cx_d7 c) → (vp_in (nI c) 2401 ∧ ∀ a : Nat → Int32, a = upd s' (nI c).toNatClampNeg (vp_nar .boolean 1) → (∀ x : Int32, x = nI c + 1 →
          wY_definitely_99 post (wY_definitely_90 post (nI (cx_lv K)) (nI (cx_c7 K)) (nI P) f_maxEv f_mode f_thr f_msgCount f_hasWit f_hasPath f_pathLen n) (nI (cx_lv K)) (nI (cx_c7 K)) (nI m) (nI P) f_maxEv f_mode f_thr f_msgCount f_hasWit f_hasPath f_pathLen q x a_init a_lo a_hi a_cnt a_val a_st a_msgP a_msgK a_msgRecv a_wit a_path a)) := by
        intro r
        refine ⟨vp_in_nI hc (by omega), ?_⟩
        rw [nI_clamp (n := c) (by omega), cx_nar1]
        refine nm_e (nm_r (nI_1 c) (k' _ ⟨fun c' h => ?_, fun c' h h' => ?_⟩))
        · by_cases e : c' = c
          · rw [e, pk_us, cx_i_t r]
          · rw [pk_un e]
            exact J.1 c' (by omega)
        · rw [pk_un (by omega)]
          exact J.2 c' (by omega) h'
      refine yw_good hc hP hcn hK hB (fun g => br_f xw_10 ?_) (fun ng => br_t rfl (set0 (fun r => ng (Ai.mp r).1)))
      refine cx_eq (by omega) (by omega) (fun e => set1 (Ai.mpr ⟨g, Or.inl (fi.mp e)⟩)) (fun ne => ?_)
      refine yw_succ (A := cx_A (cx_G P K st f_mode f_thr va a_lo a_hi) K P m) hc hP hcn hK (fun c' h h' => J.2 c' (by omega) h') (fun ex => br_f xw_10 (set1 (Ai.mpr ⟨g, Or.inr ex⟩))) (fun nx => br_t rfl (set0 (fun r => ?_)))
      rcases (Ai.mp r).2 with f | ex
      · exact ne (fi.mpr f)
      · exact nx ex
  · rw [nI_clamp (n := i) (by omega), cx_nar0]
    refine nm_e (nm_r (nI_1 i) (k _ (fun c h => ?_)))
    by_cases e : c = i
    · rw [e, pk_us]
    · rw [pk_un e]
      exact I c (by omega)
end
end
section
/-! a new event, on both sides -/
theorem cx_B_ev2 {P p0 : Nat} {K : Nat → Nat} {va st ni vl s6 st' s6' m : Nat → Int32} {v : Int32} (hP : P ≤ 4) (hK : ∀ p, p < P → K p ≤ 6) (hp0 : p0 < P) (hk0 : K p0 < 6) (h : cx_B P K va st ni vl s6)
    (h1 : ∀ s q, s ≠ p0 * 7 + (K p0 + 1) → q < 4 → st' (s * 4 + q) = st (s * 4 + q)) (h2 : st' ((p0 * 7 + (K p0 + 1)) * 4 + p0) = nI (K p0 + 1)) (h2' : ∀ q, q < P → q ≠ p0 → st' ((p0 * 7 + (K p0 + 1)) * 4 + q) = m q)
    (h3 : ∀ s q, s ≠ p0 * 6 + K p0 → q < 4 → s6' (s * 4 + q) = s6 (s * 4 + q)) (h4 : s6' ((p0 * 6 + K p0) * 4 + p0) = nI (K p0 + 1)) (h4' : ∀ q, q < P → q ≠ p0 → s6' ((p0 * 6 + K p0) * 4 + q) = m q) (hm : ∀ q, q < P → ¬ m q < 0) :
    cx_B P (cx_up K p0) (upd va (p0 * 7 + (K p0 + 1)) v) st' ni (upd vl (p0 * 6 + K p0) v) s6' := by
  refine cx_B_ev (w := fun q => if q = p0 then nI (K p0 + 1) else m q) hP hK hp0 hk0 h h1 (fun q hq => ?_) h3 (fun q hq => ?_) (fun q hq => ?_)
  · by_cases e : q = p0
    · rw [if_pos e, e]; exact h2
    · rw [if_neg e]; exact h2' q hq e
  · by_cases e : q = p0
    · rw [if_pos e, e]; exact h4
    · rw [if_neg e]; exact h4' q hq e
  · show ¬ (if q = p0 then nI (K p0 + 1) else m q) < 0
    by_cases e : q = p0
    · rw [if_pos e]; exact nI_pos (by omega)
    · rw [if_neg e]; exact hm q hq
def cx_bq (k p : Nat) (s6 : Nat → Int32) (q : Nat) : Int32 := if k = 0 then 0 else s6 ((p * 6 + (k - 1)) * 4 + q)
theorem cx_bq_eq {P p q : Nat} {K : Nat → Nat} {va st ni vl s6 : Nat → Int32} (h : cx_B P K va st ni vl s6) (hp : p < P) (hq : q < P) : cx_bq (K p) p s6 q = st ((p * 7 + K p) * 4 + q) := by
  unfold cx_bq
  have b := (h p hp).2.2 q hq
  by_cases e : K p = 0
  · rw [if_pos e, e]
    exact b.1.symm
  · rw [if_neg e]
    obtain ⟨k, hk⟩ : ∃ k, K p = k + 1 := ⟨K p - 1, by omega⟩
    have b2 := b.2.1 k (by omega)
    rw [hk]
    exact b2
theorem cx_st_nn {P p q : Nat} {K : Nat → Nat} {va st ni vl s6 : Nat → Int32} (h : cx_B P K va st ni vl s6) (hp : p < P) (hq : q < P) : ¬ st ((p * 7 + K p) * 4 + q) < 0 := ((h p hp).2.2 q hq).2.2 (K p) (Nat.le_refl _)
section
variable {P p cs : Nat} {K : Nat → Nat} {v : Int32} {f_procs f_maxEvents f_messages f_mode f_threshold f_witnessCut f_pathSteps : Int32} {a_counts a_values a_stamps a_senders a_sendSlots a_received a_lows a_highs a_path a_avoidable : Nat → Int32}
theorem xw_event {post : SX → Prop} (hp : p < P) (hP : P ≤ 4) (hk : K p < 6) (hcn : ∀ i, a_counts i = nI (K i)) (hcs : cs < 28) (hne : cs ≠ p * 7 + (K p + 1))
    (h : ∀ st' : Nat → Int32, (∀ s q, s ≠ p * 7 + (K p + 1) → q < 4 → st' (s * 4 + q) = a_stamps (s * 4 + q)) → st' ((p * 7 + (K p + 1)) * 4 + p) = nI (K p + 1) →
      (∀ q, q < P → q ≠ p → st' ((p * 7 + (K p + 1)) * 4 + q) = cx_mx (a_stamps ((p * 7 + K p) * 4 + q)) (a_stamps (cs * 4 + q))) →
      post (nI P, f_maxEvents, f_messages, f_mode, f_threshold, -1, -1, upd a_counts p (nI (K p + 1)), upd a_values (p * 7 + (K p + 1)) v, st', a_senders, a_sendSlots, a_received, a_lows, a_highs, a_path, a_avoidable)) :
    wpX_addEvent post (nI P, f_maxEvents, f_messages, f_mode, f_threshold, f_witnessCut, f_pathSteps, a_counts, a_values, a_stamps, a_senders, a_sendSlots, a_received, a_lows, a_highs, a_path, a_avoidable) (nI p) v (nI cs) := by
  unfold wpX_addEvent
  refine ⟨vp_in_nI (by omega) (by omega), ?_⟩
  rw [nI_clamp (n := p) (by omega), hcn]
  refine nm_r (nI_1 (K p)) (xw_slot ⟨vp_in_nI (by omega) (by omega), nm_e ⟨vp_in_nI (by omega) (by omega), ?_⟩⟩)
  rw [nI_clamp (n := p * 7 + (K p + 1)) (by omega)]
  refine nm_e ?_
  refine cx_inv (fun n i s => wX_addEvent_37 post (nI p) (nI cs) (nI (K p + 1)) (nI (p * 7 + (K p + 1))) (nI P) f_maxEvents f_messages f_mode f_threshold f_witnessCut f_pathSteps n (nI i) (upd a_counts p (nI (K p + 1))) (upd a_values (p * 7 + (K p + 1)) v) s a_senders a_sendSlots a_received a_lows a_highs a_path a_avoidable)
    (fun i s => (∀ t q, t ≠ p * 7 + (K p + 1) → q < 4 → s (t * 4 + q) = a_stamps (t * 4 + q)) ∧ (∀ q, q < i → s ((p * 7 + (K p + 1)) * 4 + q) = cx_mx (a_stamps ((p * 7 + K p) * 4 + q)) (a_stamps (cs * 4 + q)))) P a_stamps
    ⟨fun _ _ _ _ => rfl, fun q hq => absurd hq (Nat.not_lt_zero q)⟩ (fun n s I => br_t (nI_le (Nat.le_refl P) (by omega)) ?_) (fun n i s hi I k => br_f (nI_ge hi (by omega)) ?_)
  · rw [cx_st, nI_clamp (n := (p * 7 + (K p + 1)) * 4 + p) (by omega)]
    refine ⟨vp_in_nI (by omega) (by omega), nm_e ?_⟩
    unfold wpX_forgetResults
    refine h _ (fun t q ht hq => ?_) pk_us (fun q hq hn => ?_)
    · rw [pk_un (by omega)]
      exact I.1 t q ht hq
    · rw [pk_un (by omega)]
      exact I.2 q hq
  · have e1 : nI (p * 7 + (K p + 1)) - 1 = nI (p * 7 + K p) := nI_pred (p * 7 + K p)
    have J : ∀ x, x = cx_mx (a_stamps ((p * 7 + K p) * 4 + i)) (a_stamps (cs * 4 + i)) →
        ((∀ t q, t ≠ p * 7 + (K p + 1) → q < 4 → upd s ((p * 7 + (K p + 1)) * 4 + i) x (t * 4 + q) = a_stamps (t * 4 + q)) ∧ (∀ q, q < i + 1 → upd s ((p * 7 + (K p + 1)) * 4 + i) x ((p * 7 + (K p + 1)) * 4 + q) = cx_mx (a_stamps ((p * 7 + K p) * 4 + q)) (a_stamps (cs * 4 + q)))) := by
      intro x ex
      refine ⟨fun t q ht hq => ?_, fun q hq => ?_⟩
      · rw [pk_un (by omega)]
        exact I.1 t q ht hq
      · by_cases e : q = i
        · rw [e, pk_us]
          exact ex
        · rw [pk_un (by omega)]
          exact I.2 q (by omega)
    rw [e1, cx_st (p * 7 + K p) i, cx_st cs i, cx_st (p * 7 + (K p + 1)) i, nI_clamp (n := (p * 7 + K p) * 4 + i) (by omega), nI_clamp (n := cs * 4 + i) (by omega), nI_clamp (n := (p * 7 + (K p + 1)) * 4 + i) (by omega),
      I.1 (p * 7 + K p) i (by omega) (by omega), I.1 cs i hne (by omega)]
    refine ⟨vp_in_nI (by omega) (by omega), nm_e ⟨vp_in_nI (by omega) (by omega), nm_e (br_c (fun le => ?_) (fun nle => ?_))⟩⟩
    · exact ⟨vp_in_nI (by omega) (by omega), nm_e (nm_r (nI_1 i) (k _ (J _ (cx_mx_t le).symm)))⟩
    · exact ⟨vp_in_nI (by omega) (by omega), nm_e (nm_r (nI_1 i) (k _ (J _ (cx_mx_f nle).symm)))⟩
end
section
variable {P p : Nat} {K : Nat → Nat} {v mg : Int32} {w : Nat → Int32} {f_procs f_maxEv f_mode f_thr f_msgCount f_hasWit f_hasPath f_pathLen : Int32} {a_init a_lo a_hi a_cnt a_val a_st a_msgP a_msgK a_msgRecv a_wit a_path a_reach : Nat → Int32}
theorem yw_event {post : SY → Prop} (hp : p < 4) (hk : K p < 6) (hcn : ∀ i, a_cnt i = nI (K i))
    (hw : (mg = -1 ∧ ∀ q, q < 4 → w q = cx_bq (K p) p a_st q) ∨ ∃ m sp sk : Nat, m < 16 ∧ mg = nI m ∧ sp < 4 ∧ sk < 6 ∧ a_msgP m = nI sp ∧ a_msgK m = nI (sk + 1) ∧ sp * 6 + sk ≠ p * 6 + K p ∧ ∀ q, q < 4 → w q = cx_mx (cx_bq (K p) p a_st q) (a_st ((sp * 6 + sk) * 4 + q)))
    (h : ∀ s6 : Nat → Int32, (∀ s q, s ≠ p * 6 + K p → q < 4 → s6 (s * 4 + q) = a_st (s * 4 + q)) → s6 ((p * 6 + K p) * 4 + p) = nI (K p + 1) → (∀ q, q < 4 → q ≠ p → s6 ((p * 6 + K p) * 4 + q) = w q) →
      post (f_procs, f_maxEv, f_mode, f_thr, f_msgCount, 0, 0, f_pathLen, a_init, a_lo, a_hi, upd a_cnt p (nI (K p + 1)), upd a_val (p * 6 + K p) v, s6, a_msgP, a_msgK, a_msgRecv, a_wit, a_path, a_reach)) :
    wpY_addEvent post (f_procs, f_maxEv, f_mode, f_thr, f_msgCount, f_hasWit, f_hasPath, f_pathLen, a_init, a_lo, a_hi, a_cnt, a_val, a_st, a_msgP, a_msgK, a_msgRecv, a_wit, a_path, a_reach) (nI p) v mg := by
  unfold wpY_addEvent
  refine ⟨vp_in_nI (by omega) (by omega), ?_⟩
  rw [nI_clamp (n := p) (by omega), hcn]
  refine nm_r (nI_1 (K p)) ?_
  rw [cx_y6, nI_clamp (n := p * 6 + K p) (by omega)]
  refine ⟨vp_in_nI (by omega) (by omega), nm_e ?_⟩
  refine cx_inv (fun n i s => wY_addEvent_28 post (nI p) mg (nI (K p + 1)) f_procs f_maxEv f_mode f_thr f_msgCount f_hasWit f_hasPath f_pathLen n (nI i) a_init a_lo a_hi a_cnt (upd a_val (p * 6 + K p) v) s a_msgP a_msgK a_msgRecv a_wit a_path a_reach)
    (fun i s => (∀ t q, t ≠ p * 6 + K p → q < 4 → s (t * 4 + q) = a_st (t * 4 + q)) ∧ (∀ q, q < i → s ((p * 6 + K p) * 4 + q) = w q)) 4 a_st
    ⟨fun _ _ _ _ => rfl, fun q hq => absurd hq (Nat.not_lt_zero q)⟩ (fun n s I => br_t (nI_le (a := 4) (b := 4) (Nat.le_refl _) (by omega)) ?_) (fun n i s hi I k => br_f (nI_ge (b := 4) hi (by omega)) ?_)
  · refine yw_idx ⟨vp_in_nI (by omega) (by omega), ?_⟩
    rw [nI_clamp (n := (p * 6 + K p) * 4 + p) (by omega)]
    refine nm_e ⟨vp_in_nI (by omega) (by omega), ?_⟩
    rw [nI_clamp (n := p) (by omega)]
    refine nm_e ?_
    unfold wpY_clearResults
    refine h _ (fun t q ht hq => ?_) pk_us (fun q hq hn => ?_)
    · rw [pk_un (by omega)]
      exact I.1 t q ht hq
    · rw [pk_un (by omega)]
      exact I.2 q hq
  · have H101 : ∀ x, x = w i → wY_addEvent_101 post (wY_addEvent_28 post (nI p) mg (nI (K p + 1)) f_procs f_maxEv f_mode f_thr f_msgCount f_hasWit f_hasPath f_pathLen n) (nI p) mg (nI (K p + 1)) (nI i) x f_procs f_maxEv f_mode f_thr f_msgCount f_hasWit f_hasPath f_pathLen a_init a_lo a_hi a_cnt (upd a_val (p * 6 + K p) v) s a_msgP a_msgK a_msgRecv a_wit a_path a_reach := by
      intro x ex
      unfold wY_addEvent_101
      refine yw_idx ⟨vp_in_nI (by omega) (by omega), ?_⟩
      rw [nI_clamp (n := (p * 6 + K p) * 4 + i) (by omega)]
      refine nm_e (nm_r (nI_1 i) (k _ ⟨fun t q ht hq => ?_, fun q hq => ?_⟩))
      · rw [pk_un (by omega)]
        exact I.1 t q ht hq
      · by_cases e : q = i
        · rw [e, pk_us]
          exact ex
        · rw [pk_un (by omega)]
          exact I.2 q (by omega)
    have H61 : wY_addEvent_61 post (wY_addEvent_28 post (nI p) mg (nI (K p + 1)) f_procs f_maxEv f_mode f_thr f_msgCount f_hasWit f_hasPath f_pathLen n) (nI p) mg (nI (K p + 1)) (nI i) (cx_bq (K p) p a_st i) f_procs f_maxEv f_mode f_thr f_msgCount f_hasWit f_hasPath f_pathLen a_init a_lo a_hi a_cnt (upd a_val (p * 6 + K p) v) s a_msgP a_msgK a_msgRecv a_wit a_path a_reach := by
      rcases hw with ⟨em, hw⟩ | ⟨m, sp, sk, hm, em, hsp, hsk, e1, e2, hne, hw⟩
      · refine br_t (by rw [em]; decide) (H101 _ (hw i hi).symm)
      · refine br_f (by rw [em]; exact nI_pos (by omega)) ⟨by rw [em]; exact vp_in_nI hm (by omega), by rw [em]; exact vp_in_nI hm (by omega), ?_⟩
        have cl : mg.toNatClampNeg = m := by rw [em]; exact nI_clamp (by omega)
        rw [cl, e1, e2]
        refine yw_idx ⟨vp_in_nI (by omega) (by omega), ?_⟩
        rw [nI_clamp (n := (sp * 6 + sk) * 4 + i) (by omega), I.1 (sp * 6 + sk) i hne hi]
        exact nm_e (br_c (fun le => H101 _ (by rw [hw i hi]; exact (cx_mx_t le).symm)) (fun nle => H101 _ (by rw [hw i hi]; exact (cx_mx_f nle).symm)))
    refine pk_le (K p + 1) 1 (fun le => ?_) (fun lt => ?_)
    · have e0 : K p = 0 := by omega
      have eb : cx_bq (K p) p a_st i = 0 := if_pos e0
      rw [eb] at H61
      exact H61
    · obtain ⟨kk, hkk⟩ : ∃ kk, K p = kk + 1 := ⟨K p - 1, by omega⟩
      have eb : cx_bq (K p) p a_st i = a_st ((p * 6 + kk) * 4 + i) := by
        unfold cx_bq
        rw [if_neg (by omega), hkk]
        rfl
      have ep : nI (K p + 1) - 1 = nI (kk + 1) := by rw [hkk]; exact nI_pred (kk + 1)
      rw [ep]
      refine yw_idx ⟨vp_in_nI (by omega) (by omega), ?_⟩
      rw [nI_clamp (n := (p * 6 + kk) * 4 + i) (by omega), I.1 (p * 6 + kk) i (by omega) hi, ← eb]
      exact nm_e H61
end
end
section
/-! the relation, and guards that both sides share -/
def i_Rel (k : Nat) (u : SX) (v : SY) : Prop := ∃ (P E M : Nat) (K : Nat → Nat) (md th wc ps hw hp pl : Int32) (cn va st sp ss rc lo hi pa av ni vl s6 mk wt py rh : Nat → Int32),
  u = (nI P, nI E, nI M, md, th, wc, ps, cn, va, st, sp, ss, rc, lo, hi, pa, av) ∧ v = (nI P, nI E, md, th, nI M, hw, hp, pl, ni, lo, hi, cn, vl, s6, sp, mk, rc, wt, py, rh) ∧
  (∀ i, cn i = nI (K i)) ∧ cx_N P E M K ∧ cx_B P K va st ni vl s6 ∧ cx_C P M K sp ss mk rc ∧ cx_Wt wc hw wt ∧ cx_Pt ps hp pl pa py
theorem cx_mk {k P E M : Nat} {K : Nat → Nat} {md th wc ps hw hp pl : Int32} {cn va st sp ss rc lo hi pa av ni vl s6 mk wt py rh : Nat → Int32}
    (hcn : ∀ i, cn i = nI (K i)) (hN : cx_N P E M K) (hB : cx_B P K va st ni vl s6) (hC : cx_C P M K sp ss mk rc) (hW : cx_Wt wc hw wt) (hPt : cx_Pt ps hp pl pa py) :
    i_Rel k (nI P, nI E, nI M, md, th, wc, ps, cn, va, st, sp, ss, rc, lo, hi, pa, av) (nI P, nI E, md, th, nI M, hw, hp, pl, ni, lo, hi, cn, vl, s6, sp, mk, rc, wt, py, rh) := ⟨P, E, M, K, md, th, wc, ps, hw, hp, pl, cn, va, st, sp, ss, rc, lo, hi, pa, av, ni, vl, s6, mk, wt, py, rh, rfl, rfl, hcn, hN, hB, hC, hW, hPt⟩
theorem cx_cn_up {K : Nat → Nat} {cn : Nat → Int32} (h : ∀ i, cn i = nI (K i)) (p : Nat) : ∀ i, upd cn p (nI (K p + 1)) i = nI (cx_up K p i) := by
  intro i
  by_cases e : i = p
  · rw [e, pk_us, cx_up_s]
  · rw [pk_un e, cx_up_n e, h]
theorem cx_out {P : Nat} {x : Int32} {A B : Prop} (o : x < 0 ∨ nI P ≤ x) (a : A) : (x < 0 → A) ∧ (¬ x < 0 → ((x < nI P → B) ∧ (¬ x < nI P → A))) :=
  ⟨fun _ => a, fun n => ⟨fun l => o.elim (fun h => absurd h n) (fun h => absurd l (Int32.not_lt.mpr h)), fun _ => a⟩⟩
theorem cx_inn {P j : Nat} {A B : Prop} (hj : j < P) (hP : P ≤ 16) (b : B) : (nI j < 0 → A) ∧ (¬ nI j < 0 → ((nI j < nI P → B) ∧ (¬ nI j < nI P → A))) :=
  br_f (nI_pos (by omega)) (br_t (nI_lt hj (by omega)) b)
def cx_Ok (x : Int32) (k : Nat) : Prop := ∃ j : Nat, j ≤ k ∧ x = nI j
theorem cx_ok {x : Int32} {k : Nat} (hk : k < 2 ^ 31) (n : ¬ x < 0) (m : ¬ nI k < x) : cx_Ok x k := by
  obtain ⟨j, hj, rfl⟩ := nI_of n
  rw [nI_ltI hk hj] at m
  exact ⟨j, by omega, rfl⟩
theorem cx_pos {x : Int32} (h : ¬ x < 1) : ∃ k : Nat, k + 1 < 2 ^ 31 ∧ x = nI (k + 1) := by
  have n : ¬ x < 0 := fun z => h (Int32.lt_trans z (by decide))
  obtain ⟨j, hj, rfl⟩ := nI_of n
  have h' : ¬ nI j < nI 1 := h
  rw [nI_ltI hj (by omega)] at h'
  exact ⟨j - 1, by omega, congrArg nI (by omega)⟩
theorem cx_m1le {x : Int32} (h : ¬ x < 0) : (-1 : Int32) ≤ x := Int32.le_trans (by decide) (Int32.not_lt.mp h)
/-! clamping -/
def cx_Cl (x : Int32) (m j : Nat) : Prop := (¬ 1 ≤ x ∧ j = 1) ∨ (1 ≤ x ∧ x ≤ nI m ∧ x = nI j) ∨ (1 ≤ x ∧ ¬ x ≤ nI m ∧ j = m)
theorem cx_Cl_ex (x : Int32) {m : Nat} (h1 : 1 ≤ m) (h6 : m ≤ 6) : ∃ j, 1 ≤ j ∧ j ≤ m ∧ cx_Cl x m j := by
  by_cases a : 1 ≤ x
  · by_cases b : x ≤ nI m
    · obtain ⟨k, hk, e⟩ := cx_pos (Int32.not_lt.mpr a)
      have b' := b
      rw [e, nI_leI hk (by omega)] at b'
      exact ⟨k + 1, by omega, b', Or.inr (Or.inl ⟨a, b, e⟩)⟩
    · exact ⟨m, h1, Nat.le_refl m, Or.inr (Or.inr ⟨a, b, rfl⟩)⟩
  · exact ⟨1, Nat.le_refl 1, h1, Or.inl ⟨a, rfl⟩⟩
theorem cx_Cl_w {x y : Int32} {m j : Nat} {A B C : Prop} (c : cx_Cl x m j) (hy : y = nI m) (a : x = nI j → A) (b : j = m → B) (d : j = 1 → C) : (1 ≤ x → ((x ≤ y → A) ∧ (¬ x ≤ y → B))) ∧ (¬ 1 ≤ x → C) := by
  subst hy
  rcases c with ⟨h, e⟩ | ⟨h, l, e⟩ | ⟨h, l, e⟩
  · exact br_f h (d e)
  · exact br_t h (br_t l (a e))
  · exact br_t h (br_f l (b e))
section
variable {P E M : Nat} {K : Nat → Nat} {f_procs f_maxEvents f_messages f_mode f_threshold f_witnessCut f_pathSteps : Int32} {a_counts a_values a_stamps a_senders a_sendSlots a_received a_lows a_highs a_path a_avoidable : Nat → Int32}
theorem xw_isProc {post : Int32 → Prop} {x : Int32} (hP : P ≤ 4) (h1 : ∀ j, j < P → x = nI j → post 1) (h0 : (x < 0 ∨ nI P ≤ x) → post 0) : wpX_isProcess post (nI P, f_maxEvents, f_messages, f_mode, f_threshold, f_witnessCut, f_pathSteps, a_counts, a_values, a_stamps, a_senders, a_sendSlots, a_received, a_lows, a_highs, a_path, a_avoidable) x := by
  unfold wpX_isProcess
  refine br_c (fun l => h0 (Or.inl l)) (fun nl => br_c (fun le => h0 (Or.inr le)) (fun nle => ?_))
  rcases pk_ix x (n := P) (by omega) with a | b | ⟨j, hj, e⟩
  · exact absurd a nl
  · exact absurd b nle
  · exact h1 j hj e
theorem xw_room {post : Int32 → Prop} {x : Int32} (hP : P ≤ 4) (hE : E ≤ 6) (hcn : ∀ i, a_counts i = nI (K i)) (hKE : ∀ p, K p ≤ E) (h1 : ∀ j, j < P → x = nI j → K j < E → post 1) (h0 : (x < 0 ∨ nI P ≤ x) → post 0)
    (h0' : ∀ j, j < P → x = nI j → K j = E → post 0) : wpX_hasRoom post (nI P, nI E, f_messages, f_mode, f_threshold, f_witnessCut, f_pathSteps, a_counts, a_values, a_stamps, a_senders, a_sendSlots, a_received, a_lows, a_highs, a_path, a_avoidable) x := by
  unfold wpX_hasRoom
  refine xw_isProc hP (fun j hj e => br_f xw_10 ?_) (fun o => br_t rfl (h0 o))
  subst e
  refine ⟨vp_in_nI (by omega) (by omega), ?_⟩
  rw [nI_clamp (by omega), hcn]
  have := hKE j
  exact cx_le (by omega) (by omega) (fun le => h0' j hj rfl (by omega)) (fun nle => h1 j hj rfl (by omega))
theorem xw_pending {post : Int32 → Prop} {x : Int32} (hM : M ≤ 16) (h1 : ∀ j, j < M → x = nI j → a_received j = 0 → post 1) (h0 : (x < 0 ∨ nI M ≤ x) → post 0) (h0' : ∀ j, j < M → x = nI j → ¬ a_received j = 0 → post 0) :
    wpX_isPending post (f_procs, f_maxEvents, nI M, f_mode, f_threshold, f_witnessCut, f_pathSteps, a_counts, a_values, a_stamps, a_senders, a_sendSlots, a_received, a_lows, a_highs, a_path, a_avoidable) x := by
  unfold wpX_isPending
  refine br_c (fun l => h0 (Or.inl l)) (fun nl => br_c (fun le => h0 (Or.inr le)) (fun nle => ?_))
  rcases pk_ix x (n := M) (by omega) with a | b | ⟨j, hj, e⟩
  · exact absurd a nl
  · exact absurd b nle
  · subst e
    refine ⟨vp_in_nI (by omega) (by omega), ?_⟩
    rw [nI_clamp (by omega)]
    exact br_c (fun z => h1 j hj rfl z) (fun z => h0' j hj rfl z)
theorem xw_fits {post : Int32 → Prop} {x : Int32} (h1 : cx_Ok x 7 → post 1) (h0 : ¬ cx_Ok x 7 → post 0) : wpX_fitsInCode post x := by
  unfold wpX_fitsInCode
  refine br_c (fun l => h0 (fun z => ?_)) (fun nl => br_c (fun l => h0 (fun z => ?_)) (fun nl2 => h1 (cx_ok (by omega) nl nl2)))
  · obtain ⟨j, hj, rfl⟩ := z
    exact absurd l (nI_pos (by omega))
  · obtain ⟨j, hj, rfl⟩ := z
    exact absurd l (nI_nlt (b := j) (a := 7) (by omega) (by omega))
end
end
section
/-! the owed statements, first those that need little -/
theorem i_up {k : Nat} {u : SX} {v : SY} (h : i_Rel k u v) : i_Rel (k + 5) u v := h
def cx_it (v : Int32) : Nat → Nat → Int32
  | 0 => fun _ => 0
  | n + 1 => upd (cx_it v n) n v
theorem xw_clamp {post : Int32 → Prop} {x y : Int32} {m j : Nat} (c : cx_Cl x m j) (hy : y = nI m) (h : post (nI j)) : wpX_clamp post x y := by
  unfold wpX_clamp
  exact cx_Cl_w c hy (fun e => by rw [e]; exact h) (fun e => by rw [hy, ← e]; exact h) (fun e => by rw [e] at h; exact h)
theorem i_vc0 (k0 : Int32) (k1 : Int32) : wpX_init (fun u => wpY_init (fun v => i_Rel 2 u v) k0 k1) k0 k1 := by
  obtain ⟨P, p1, p2, cp⟩ := cx_Cl_ex k0 (m := 4) (by omega) (by omega)
  obtain ⟨E, e1, e2, ce⟩ := cx_Cl_ex k1 (m := 6) (by omega) (by omega)
  have R : i_Rel 2 (nI P, nI E, nI (0), 0, 0, -1, -1, (fun _ => 0), (fun _ => 0), (fun _ => 0), (fun _ => 0), (fun _ => 0), (fun _ => 0), cx_it (-2147483648) 4, cx_it 2147483647 4, (fun _ => 0), (fun _ => 0))
      (nI P, nI E, 0, 0, nI (0), 0, 0, 0, (fun _ => 0), cx_it (-2147483648) 4, cx_it 2147483647 4, (fun _ => 0), (fun _ => 0), (fun _ => 0), (fun _ => 0), (fun _ => 0), (fun _ => 0), (fun _ => 0), (fun _ => 0), (fun _ => 0)) := by
    refine cx_mk (K := fun _ => 0) (ss := fun _ => 0) (fun _ => rfl) ⟨p1, p2, e2, by omega, fun _ => Nat.zero_le _, fun _ _ => rfl⟩ (fun p hp => ⟨rfl, fun k hk => absurd hk (Nat.not_lt_zero k), fun q hq => ⟨rfl, fun k hk => absurd hk (Nat.not_lt_zero k), fun k hk => by decide⟩⟩)
      ⟨fun m hm => absurd hm (Nat.not_lt_zero m), fun _ _ => rfl⟩ (cx_Wt_0 _) (cx_Pt_0 _ _ _)
  unfold wpX_init
  refine xw_clamp cp rfl (xw_clamp ce rfl ?_)
  refine cx_fold (σ := (Nat → Int32) × (Nat → Int32)) (fun n i s => wX_init_128 (fun u => wpY_init (fun v => i_Rel 2 u v) k0 k1) (nI P) (nI E) 0 0 0 (-1) (-1) n (nI i) (fun _ => 0) (fun _ => 0) (fun _ => 0) (fun _ => 0) (fun _ => 0) (fun _ => 0) s.1 s.2 (fun _ => 0) (fun _ => 0)) 4
    (fun i => (cx_it (-2147483648) i, cx_it 2147483647 i)) (fun n => br_t (nI_le (a := 4) (b := 4) (Nat.le_refl _) (by omega)) ?_) (fun n i hi k => br_f (nI_ge (b := 4) hi (by omega)) ⟨vp_in_nI hi (by omega), ?_⟩)
  · have Y : ∃ n, wY_init_146 (fun v => i_Rel 2 (nI P, nI E, nI (0), 0, 0, -1, -1, (fun _ => 0), (fun _ => 0), (fun _ => 0), (fun _ => 0), (fun _ => 0), (fun _ => 0), cx_it (-2147483648) 4, cx_it 2147483647 4, (fun _ => 0), (fun _ => 0)) v)
        (nI P) (nI E) 0 0 0 0 0 0 n 0 (fun _ => 0) (fun _ => 0) (fun _ => 0) (fun _ => 0) (fun _ => 0) (fun _ => 0) (fun _ => 0) (fun _ => 0) (fun _ => 0) (fun _ => 0) (fun _ => 0) (fun _ => 0) := by
      refine cx_fold (σ := (Nat → Int32) × (Nat → Int32)) (fun n i s => wY_init_146 (fun v => i_Rel 2 (nI P, nI E, nI (0), 0, 0, -1, -1, (fun _ => 0), (fun _ => 0), (fun _ => 0), (fun _ => 0), (fun _ => 0), (fun _ => 0), cx_it (-2147483648) 4, cx_it 2147483647 4, (fun _ => 0), (fun _ => 0)) v)
        (nI P) (nI E) 0 0 0 0 0 0 n (nI i) (fun _ => 0) s.1 s.2 (fun _ => 0) (fun _ => 0) (fun _ => 0) (fun _ => 0) (fun _ => 0) (fun _ => 0) (fun _ => 0) (fun _ => 0) (fun _ => 0)) 4
        (fun i => (cx_it (-2147483648) i, cx_it 2147483647 i)) (fun n => br_t (nI_le (a := 4) (b := 4) (Nat.le_refl _) (by omega)) R) (fun n i hi k => br_f (nI_ge (b := 4) hi (by omega)) ⟨vp_in_nI hi (by omega), ?_⟩)
      rw [nI_clamp (n := i) (by omega)]
      exact nm_e ⟨vp_in_nI hi (by omega), nm_e (nm_r (nI_1 i) k)⟩
    have Z : wY_init_116 (fun v => i_Rel 2 (nI P, nI E, nI (0), 0, 0, -1, -1, (fun _ => 0), (fun _ => 0), (fun _ => 0), (fun _ => 0), (fun _ => 0), (fun _ => 0), cx_it (-2147483648) 4, cx_it 2147483647 4, (fun _ => 0), (fun _ => 0)) v)
        k1 (nI P) 0 0 0 0 0 0 0 0 (fun _ => 0) (fun _ => 0) (fun _ => 0) (fun _ => 0) (fun _ => 0) (fun _ => 0) (fun _ => 0) (fun _ => 0) (fun _ => 0) (fun _ => 0) (fun _ => 0) (fun _ => 0) := by
      unfold wY_init_116
      exact cx_Cl_w ce rfl (fun e => by rw [e]; exact Y) (fun e => by subst e; exact Y) (fun e => by subst e; exact Y)
    show wpY_init _ k0 k1
    unfold wpY_init
    exact cx_Cl_w cp rfl (fun e => by rw [e]; exact Z) (fun e => by subst e; exact Z) (fun e => by subst e; exact Z)
  · rw [nI_clamp (n := i) (by omega)]
    exact nm_e ⟨vp_in_nI hi (by omega), nm_e (nm_r (nI_1 i) k)⟩
theorem i_vc_setInitial {k : Nat} {u : SX} {v : SY} (I : i_Rel k u v) (hk : k + 5 ≤ 2562) (v1 : Int32) (v2 : Int32) : wpX_setInitial (fun r u' => wpY_setInitial (fun r' v' => r' = r ∧ i_Rel (k + 5) u' v') v v1 v2) u v1 v2 := by
  obtain ⟨P, E, M, K, md, th, wc, ps, hw, hp, pl, cn, va, st, sp, ss, rc, lo, hi, pa, av, ni, vl, s6, mk, wt, py, rh, rfl, rfl, hcn, hN, hB, hC, hW, hPt⟩ := I
  obtain ⟨n1, n2, n3, n4, n5, n6⟩ := id hN
  have hK : ∀ p, p < 4 → K p ≤ 6 := fun p _ => cx_N_6 hN p
  unfold wpX_setInitial
  refine xw_isProc n2 (fun j hj e => br_f xw_10 ?_) (fun o => br_t rfl ?_)
  · subst e
    have k6 := cx_N_6 hN j
    refine ⟨vp_in_nI (by omega) (by omega), ?_⟩
    rw [nI_clamp (n := j) (by omega), hcn]
    refine pk_lt (K j) 1 (fun l => ?_) (fun g => ?_)
    · refine xw_slot (k := 0) ⟨vp_in_nI (by omega) (by omega), ?_⟩
      rw [nI_clamp (n := j * 7 + 0) (by omega)]
      refine nm_e ?_
      unfold wpX_forgetResults wpY_setInitial
      refine cx_inn hj (by omega) ⟨vp_in_nI (by omega) (by omega), ?_⟩
      rw [nI_clamp (n := j) (by omega), hcn]
      refine br_t (nI_lt (b := 1) l (by omega)) ⟨vp_in_nI (by omega) (by omega), nm_e ?_⟩
      unfold wpY_clearResults
      refine ⟨rfl, cx_mk hcn hN ?_ hC (cx_Wt_0 _) (cx_Pt_0 _ _ _)⟩
      intro p hp
      obtain ⟨b1, b2, b3⟩ := hB p hp
      have kp := cx_N_6 hN p
      refine ⟨?_, fun k hk => ?_, b3⟩
      · by_cases e : p = j
        · rw [e, pk_us, pk_us]
        · rw [pk_un e, pk_un (by omega)]
          exact b1
      · rw [pk_un (by omega)]
        exact b2 k hk
    · unfold wpY_setInitial
      refine cx_inn hj (by omega) ⟨vp_in_nI (by omega) (by omega), ?_⟩
      rw [nI_clamp (n := j) (by omega), hcn]
      exact br_f (nI_nlt (b := 1) g (by omega)) ⟨rfl, cx_mk hcn hN hB hC hW hPt⟩
  · unfold wpY_setInitial
    exact cx_out o ⟨rfl, cx_mk hcn hN hB hC hW hPt⟩
theorem i_vc_setBounds {k : Nat} {u : SX} {v : SY} (I : i_Rel k u v) (hk : k + 5 ≤ 2562) (v1 : Int32) (v2 : Int32) (v3 : Int32) : wpX_setBounds (fun r u' => wpY_setBounds (fun r' v' => r' = r ∧ i_Rel (k + 5) u' v') v v1 v2 v3) u v1 v2 v3 := by
  obtain ⟨P, E, M, K, md, th, wc, ps, hw, hp, pl, cn, va, st, sp, ss, rc, lo, hi, pa, av, ni, vl, s6, mk, wt, py, rh, rfl, rfl, hcn, hN, hB, hC, hW, hPt⟩ := I
  obtain ⟨n1, n2, n3, n4, n5, n6⟩ := id hN
  have hK : ∀ p, p < 4 → K p ≤ 6 := fun p _ => cx_N_6 hN p
  unfold wpX_setBounds
  refine xw_isProc n2 (fun j hj e => br_f xw_10 ?_) (fun o => br_t rfl ?_)
  · subst e
    refine ⟨vp_in_nI (by omega) (by omega), ?_⟩
    rw [nI_clamp (n := j) (by omega)]
    refine nm_e ⟨vp_in_nI (by omega) (by omega), nm_e ?_⟩
    unfold wpX_forgetResults wpY_setBounds
    refine cx_inn hj (by omega) ⟨vp_in_nI (by omega) (by omega), ?_⟩
    rw [nI_clamp (n := j) (by omega)]
    refine nm_e ⟨vp_in_nI (by omega) (by omega), nm_e ?_⟩
    unfold wpY_clearResults
    exact ⟨rfl, cx_mk hcn hN hB hC (cx_Wt_0 _) (cx_Pt_0 _ _ _)⟩
  · unfold wpY_setBounds
    exact cx_out o ⟨rfl, cx_mk hcn hN hB hC hW hPt⟩
theorem i_vc_setPredicate {k : Nat} {u : SX} {v : SY} (I : i_Rel k u v) (hk : k + 5 ≤ 2562) (v1 : Int32) (v2 : Int32) : wpX_setPredicate (fun r u' => wpY_setPredicate (fun r' v' => r' = r ∧ i_Rel (k + 5) u' v') v v1 v2) u v1 v2 := by
  obtain ⟨P, E, M, K, md, th, wc, ps, hw, hp, pl, cn, va, st, sp, ss, rc, lo, hi, pa, av, ni, vl, s6, mk, wt, py, rh, rfl, rfl, hcn, hN, hB, hC, hW, hPt⟩ := I
  obtain ⟨n1, n2, n3, n4, n5, n6⟩ := id hN
  have hK : ∀ p, p < 4 → K p ≤ 6 := fun p _ => cx_N_6 hN p
  unfold wpX_setPredicate
  have ok : (v1 = 0 ∨ v1 = 1 ∨ v1 = 2) → wX_setPredicate_16 (fun r u' => wpY_setPredicate (fun r' v' => r' = r ∧ i_Rel (k + 5) u' v') (nI P, nI E, md, th, nI M, hw, hp, pl, ni, lo, hi, cn, vl, s6, sp, mk, rc, wt, py, rh) v1 v2) v1 v2 (nI P) (nI E) (nI M) md th wc ps cn va st sp ss rc lo hi pa av := by
    intro o
    unfold wX_setPredicate_16 wpX_forgetResults wpY_setPredicate
    have ok2 : wY_setPredicate_16 (fun r' v' => r' = 1 ∧ i_Rel (k + 5) (nI P, nI E, nI M, v1, v2, -1, -1, cn, va, st, sp, ss, rc, lo, hi, pa, av) v') v1 v2 (nI P) (nI E) md th (nI M) hw hp pl ni lo hi cn vl s6 sp mk rc wt py rh := by
      unfold wY_setPredicate_16 wpY_clearResults
      exact ⟨rfl, cx_mk hcn hN hB hC (cx_Wt_0 _) (cx_Pt_0 _ _ _)⟩
    exact br_c (fun _ => ok2) (fun a => br_c (fun _ => ok2) (fun b => br_c (fun _ => ok2) (fun c => (o.elim (fun z => absurd z a) (fun z => z.elim (fun z => absurd z b) (fun z => absurd z c))))))
  refine br_c (fun a => ok (Or.inl a)) (fun a => br_c (fun b => ok (Or.inr (Or.inl b))) (fun b => br_c (fun c => ok (Or.inr (Or.inr c))) (fun c => ?_)))
  unfold wpY_setPredicate
  exact br_f a (br_f b (br_f c ⟨rfl, cx_mk hcn hN hB hC hW hPt⟩))
theorem i_vc_eventCount {k : Nat} {u : SX} {v : SY} (I : i_Rel k u v) (hk : k + 5 ≤ 2562) (v1 : Int32) : wpX_eventCount (fun r => wpY_eventCount (fun r' => r' = r ∧ i_Rel (k + 5) u v) v v1) u v1 := by
  obtain ⟨P, E, M, K, md, th, wc, ps, hw, hp, pl, cn, va, st, sp, ss, rc, lo, hi, pa, av, ni, vl, s6, mk, wt, py, rh, rfl, rfl, hcn, hN, hB, hC, hW, hPt⟩ := I
  obtain ⟨n1, n2, n3, n4, n5, n6⟩ := id hN
  have hK : ∀ p, p < 4 → K p ≤ 6 := fun p _ => cx_N_6 hN p
  unfold wpX_eventCount
  refine xw_isProc n2 (fun j hj e => br_f xw_10 ?_) (fun o => br_t rfl ?_)
  · subst e
    refine ⟨vp_in_nI (by omega) (by omega), ?_⟩
    unfold wpY_eventCount
    exact cx_inn hj (by omega) ⟨vp_in_nI (by omega) (by omega), rfl, cx_mk hcn hN hB hC hW hPt⟩
  · unfold wpY_eventCount
    exact cx_out o ⟨rfl, cx_mk hcn hN hB hC hW hPt⟩
theorem i_vc_stamp {k : Nat} {u : SX} {v : SY} (I : i_Rel k u v) (hk : k + 5 ≤ 2562) (v1 : Int32) (v2 : Int32) (v3 : Int32) : wpX_stamp (fun r => wpY_stamp (fun r' => r' = r ∧ i_Rel (k + 5) u v) v v1 v2 v3) u v1 v2 v3 := by
  obtain ⟨P, E, M, K, md, th, wc, ps, hw, hp, pl, cn, va, st, sp, ss, rc, lo, hi, pa, av, ni, vl, s6, mk, wt, py, rh, rfl, rfl, hcn, hN, hB, hC, hW, hPt⟩ := I
  obtain ⟨n1, n2, n3, n4, n5, n6⟩ := id hN
  have hK : ∀ p, p < 4 → K p ≤ 6 := fun p _ => cx_N_6 hN p
  have rel : i_Rel (k + 5) (nI P, nI E, nI M, md, th, wc, ps, cn, va, st, sp, ss, rc, lo, hi, pa, av) (nI P, nI E, md, th, nI M, hw, hp, pl, ni, lo, hi, cn, vl, s6, sp, mk, rc, wt, py, rh) := cx_mk hcn hN hB hC hW hPt
  unfold wpX_stamp
  refine xw_isProc n2 (fun j hj e => br_f xw_10 (xw_isProc n2 (fun l hl e2 => br_f xw_10 ?_) (fun o => br_t rfl ?_))) (fun o => br_t rfl ?_)
  · subst e
    subst e2
    have k6 := cx_N_6 hN j
    refine br_c (fun a => ?_) (fun a => ⟨vp_in_nI (by omega) (by omega), ?_⟩)
    · unfold wpY_stamp
      exact cx_inn hj (by omega) (br_t a ⟨rfl, rel⟩)
    · obtain ⟨m, hm, rfl⟩ := cx_pos a
      rw [nI_clamp (n := j) (by omega), hcn]
      refine cx_le (by omega) (by omega) (fun le => xw_slot ?_) (fun nle => ?_)
      · rw [cx_st, nI_clamp (n := (j * 7 + (m + 1)) * 4 + l) (by omega)]
        refine ⟨vp_in_nI (by omega) (by omega), ?_⟩
        unfold wpY_stamp
        refine cx_inn hj (by omega) (br_f a ⟨vp_in_nI (by omega) (by omega), ?_⟩)
        rw [nI_clamp (n := j) (by omega), hcn]
        refine br_t (nI_le le (by omega)) (cx_inn hl (by omega) (yw_idx ⟨vp_in_nI (by omega) (by omega), ?_⟩))
        rw [nI_clamp (n := (j * 6 + m) * 4 + l) (by omega)]
        exact ⟨((hB j hj).2.2 l hl).2.1 m (by omega), rel⟩
      · unfold wpY_stamp
        refine cx_inn hj (by omega) (br_f a ⟨vp_in_nI (by omega) (by omega), ?_⟩)
        rw [nI_clamp (n := j) (by omega), hcn]
        exact br_f (nI_ge (by omega) (by omega)) ⟨rfl, rel⟩
  · subst e
    unfold wpY_stamp
    exact cx_inn hj (by omega) (br_c (fun _ => ⟨rfl, rel⟩) (fun _ => ⟨vp_in_nI (by omega) (by omega), br_c (fun _ => cx_out o ⟨rfl, rel⟩) (fun _ => ⟨rfl, rel⟩)⟩))
  · unfold wpY_stamp
    exact cx_out o ⟨rfl, rel⟩
theorem i_vc_pathLength {k : Nat} {u : SX} {v : SY} (I : i_Rel k u v) (hk : k + 5 ≤ 2562) : wpX_pathLength (fun r => wpY_pathLength (fun r' => r' = r ∧ i_Rel (k + 5) u v) v) u := by
  obtain ⟨P, E, M, K, md, th, wc, ps, hw, hp, pl, cn, va, st, sp, ss, rc, lo, hi, pa, av, ni, vl, s6, mk, wt, py, rh, rfl, rfl, hcn, hN, hB, hC, hW, hPt⟩ := I
  obtain ⟨n1, n2, n3, n4, n5, n6⟩ := id hN
  have hK : ∀ p, p < 4 → K p ≤ 6 := fun p _ => cx_N_6 hN p
  have rel : i_Rel (k + 5) (nI P, nI E, nI M, md, th, wc, ps, cn, va, st, sp, ss, rc, lo, hi, pa, av) (nI P, nI E, md, th, nI M, hw, hp, pl, ni, lo, hi, cn, vl, s6, sp, mk, rc, wt, py, rh) := cx_mk hcn hN hB hC hW hPt
  unfold wpX_pathLength wpY_pathLength
  rcases hPt with ⟨e1, e2⟩ | ⟨L, hL, e1, e2, e3, hp⟩
  · exact br_t e2 ⟨e1.symm, rel⟩
  · exact br_f (by rw [e2]; decide) ⟨by rw [e1, e3], rel⟩
theorem i_vc_pathStep {k : Nat} {u : SX} {v : SY} (I : i_Rel k u v) (hk : k + 5 ≤ 2562) (v1 : Int32) : wpX_pathStep (fun r => wpY_pathStep (fun r' => r' = r ∧ i_Rel (k + 5) u v) v v1) u v1 := by
  obtain ⟨P, E, M, K, md, th, wc, ps, hw, hp, pl, cn, va, st, sp, ss, rc, lo, hi, pa, av, ni, vl, s6, mk, wt, py, rh, rfl, rfl, hcn, hN, hB, hC, hW, hPt⟩ := I
  obtain ⟨n1, n2, n3, n4, n5, n6⟩ := id hN
  have hK : ∀ p, p < 4 → K p ≤ 6 := fun p _ => cx_N_6 hN p
  have rel : i_Rel (k + 5) (nI P, nI E, nI M, md, th, wc, ps, cn, va, st, sp, ss, rc, lo, hi, pa, av) (nI P, nI E, md, th, nI M, hw, hp, pl, ni, lo, hi, cn, vl, s6, sp, mk, rc, wt, py, rh) := cx_mk hcn hN hB hC hW hPt
  unfold wpX_pathStep
  rcases hPt with ⟨e1, e2⟩ | ⟨L, hL, e1, e2, e3, hpp⟩
  · have y : wpY_pathStep (fun r' => r' = -1 ∧ i_Rel (k + 5) (nI P, nI E, nI M, md, th, wc, ps, cn, va, st, sp, ss, rc, lo, hi, pa, av) (nI P, nI E, md, th, nI M, hw, hp, pl, ni, lo, hi, cn, vl, s6, sp, mk, rc, wt, py, rh)) (nI P, nI E, md, th, nI M, hw, hp, pl, ni, lo, hi, cn, vl, s6, sp, mk, rc, wt, py, rh) v1 := by
      unfold wpY_pathStep
      exact br_t e2 ⟨rfl, rel⟩
    exact br_c (fun _ => y) (fun n => br_t (by rw [e1]; exact cx_m1le n) y)
  · have h1 : ¬ hp = 0 := by rw [e2]; decide
    subst e1
    subst e3
    refine br_c (fun l => ?_) (fun nl => br_c (fun le => ?_) (fun nle => ?_))
    · unfold wpY_pathStep
      exact br_f h1 (cx_out (Or.inl l) ⟨rfl, rel⟩)
    · unfold wpY_pathStep
      exact br_f h1 (cx_out (Or.inr le) ⟨rfl, rel⟩)
    · rcases pk_ix v1 (n := L) (by omega) with a | b | ⟨j, hj, rfl⟩
      · exact absurd a nl
      · exact absurd b nle
      · refine ⟨vp_in_nI (by omega) (by omega), ?_⟩
        unfold wpY_pathStep
        rw [nI_clamp (n := j) (by omega)]
        refine br_f h1 (br_f nl (br_t (nI_lt hj (by omega)) ⟨vp_in_nI (by omega) (by omega), ?_, rel⟩))
        exact (hpp j hj).symm
end
section
/-! the owed statements over cuts -/
theorem cx_dd (a b c e : Nat) : ∃ d : Nat → Nat, d 0 = a ∧ d 1 = b ∧ d 2 = c ∧ d 3 = e ∧ ∀ p, 4 ≤ p → d p = 0 :=
  ⟨fun p => if p = 0 then a else if p = 1 then b else if p = 2 then c else if p = 3 then e else 0, rfl, rfl, rfl, rfl, fun p hp => by
    show (if p = 0 then a else if p = 1 then b else if p = 2 then c else if p = 3 then e else 0) = 0
    rw [if_neg (by omega), if_neg (by omega), if_neg (by omega), if_neg (by omega)]⟩
section
variable {P : Nat} {K : Nat → Nat} {x0 x1 x2 x3 : Int32} {f_procs f_maxEvents f_messages f_mode f_threshold f_witnessCut f_pathSteps : Int32} {a_counts a_values a_stamps a_senders a_sendSlots a_received a_lows a_highs a_path a_avoidable : Nat → Int32}
theorem xw_cut0 {post : Int32 → Prop} (h : ¬ (cx_Ok x0 7 ∧ cx_Ok x1 7 ∧ cx_Ok x2 7 ∧ cx_Ok x3 7)) (h0 : post 0) : wpX_cutState post (f_procs, f_maxEvents, f_messages, f_mode, f_threshold, f_witnessCut, f_pathSteps, a_counts, a_values, a_stamps, a_senders, a_sendSlots, a_received, a_lows, a_highs, a_path, a_avoidable) x0 x1 x2 x3 := by
  unfold wpX_cutState
  refine xw_fits (fun o0 => br_f xw_10 ?_) (fun _ => br_t rfl h0)
  refine xw_fits (fun o1 => br_f xw_10 ?_) (fun _ => br_t rfl h0)
  refine xw_fits (fun o2 => br_f xw_10 ?_) (fun _ => br_t rfl h0)
  exact xw_fits (fun o3 => absurd ⟨o0, o1, o2, o3⟩ h) (fun _ => br_t rfl h0)
theorem xw_cut {post : Int32 → Prop} {d : Nat → Nat} (hP : P ≤ 4) (hcn : ∀ i, a_counts i = nI (K i)) (hK : ∀ p, p < 4 → K p ≤ 6) (h8 : ∀ p, p < 4 → d p < 8) (h4 : ∀ p, 4 ≤ p → d p = 0)
    (h0 : ¬ cx_Va K d → post 0) (h1 : cx_Va K d → ¬ cx_Co P a_stamps d → post 1)
    (h2 : cx_V P K a_stamps d → ¬ cx_Sa P f_mode f_threshold a_values a_lows a_highs d → post 2) (h3 : cx_V P K a_stamps d → cx_Sa P f_mode f_threshold a_values a_lows a_highs d → post 3) :
    wpX_cutState post (nI P, f_maxEvents, f_messages, f_mode, f_threshold, f_witnessCut, f_pathSteps, a_counts, a_values, a_stamps, a_senders, a_sendSlots, a_received, a_lows, a_highs, a_path, a_avoidable) (nI (d 0)) (nI (d 1)) (nI (d 2)) (nI (d 3)) := by
  have d0 := h8 0 (by omega)
  have d1 := h8 1 (by omega)
  have d2 := h8 2 (by omega)
  have d3 := h8 3 (by omega)
  have hc := cx_c8_lt h8
  have hd := cx_8_of h8 h4
  unfold wpX_cutState
  refine xw_fits (fun _ => br_f xw_10 ?_) (fun n => absurd ⟨d 0, by omega, rfl⟩ n)
  refine xw_fits (fun _ => br_f xw_10 ?_) (fun n => absurd ⟨d 1, by omega, rfl⟩ n)
  refine xw_fits (fun _ => br_f xw_10 ?_) (fun n => absurd ⟨d 2, by omega, rfl⟩ n)
  refine xw_fits (fun _ => br_f xw_10 ?_) (fun n => absurd ⟨d 3, by omega, rfl⟩ n)
  have sh : ∀ {n : Nat}, n < 4096 → nI n <<< ((3 : Int32) &&& 31) = nI (n * 8) := fun {n} hn => pk_shlN (n := n) _ 3 (by decide) (by omega)
  refine nm_r (e' := nI (d 0 * 8 + d 1)) (by rw [sh (by omega), nI_add]) ?_
  refine nm_r (e' := nI ((d 0 * 8 + d 1) * 8 + d 2)) (by rw [sh (by omega), nI_add]) ?_
  refine nm_r (e' := nI (cx_c8 d)) (by rw [sh (by omega), nI_add]; exact congrArg nI (by unfold cx_c8; omega)) ?_
  refine xw_state hc hP hcn hK ?_ ?_ ?_ ?_
  · rw [hd]; exact h0
  · rw [hd]; exact h1
  · rw [hd]; exact h2
  · rw [hd]; exact h3
end
section
variable {P : Nat} {K : Nat → Nat} {va st : Nat → Int32} {x0 x1 x2 x3 : Int32} {f_procs f_maxEv f_mode f_thr f_msgCount f_hasWit f_hasPath f_pathLen : Int32} {a_init a_lo a_hi a_cnt a_val a_st a_msgP a_msgK a_msgRecv a_wit a_path a_reach : Nat → Int32}
theorem yw_cut0 {post : Int32 → Prop} (hcn : ∀ i, a_cnt i = nI (K i)) (hK : ∀ p, p < 4 → K p ≤ 6) (h : ¬ (cx_Ok x0 (K 0) ∧ cx_Ok x1 (K 1) ∧ cx_Ok x2 (K 2) ∧ cx_Ok x3 (K 3))) (h0 : post 0) : wpY_cutState post (f_procs, f_maxEv, f_mode, f_thr, f_msgCount, f_hasWit, f_hasPath, f_pathLen, a_init, a_lo, a_hi, a_cnt, a_val, a_st, a_msgP, a_msgK, a_msgRecv, a_wit, a_path, a_reach) x0 x1 x2 x3 := by
  have k0 := hK 0 (by omega)
  have k1 := hK 1 (by omega)
  have k2 := hK 2 (by omega)
  have k3 := hK 3 (by omega)
  unfold wpY_cutState
  dsimp only
  rw [hcn 0, hcn 1, hcn 2, hcn 3]
  refine br_c (fun _ => h0) (fun a0 => br_c (fun _ => h0) (fun b0 => br_c (fun _ => h0) (fun a1 => br_c (fun b1 => ?_) (fun _ => h0))))
  refine br_c (fun _ => h0) (fun a2 => br_c (fun _ => h0) (fun b2 => br_c (fun _ => h0) (fun a3 => br_c (fun b3 => ?_) (fun _ => h0))))
  exact absurd ⟨cx_ok (by omega) a0 b0, cx_ok (by omega) a1 (Int32.not_lt.mpr b1), cx_ok (by omega) a2 b2, cx_ok (by omega) a3 (Int32.not_lt.mpr b3)⟩ h
theorem yw_cut {post : Int32 → Prop} {d : Nat → Nat} (hP : P ≤ 4) (hcn : ∀ i, a_cnt i = nI (K i)) (hK : ∀ p, p < 4 → K p ≤ 6) (hB : cx_B P K va st a_init a_val a_st) (h4 : ∀ p, 4 ≤ p → d p = 0) (hv : cx_Va K d)
    (h1 : ¬ cx_Co P st d → post 1) (h2 : cx_Co P st d → ¬ cx_Sa P f_mode f_thr va a_lo a_hi d → post 2) (h3 : cx_Co P st d → cx_Sa P f_mode f_thr va a_lo a_hi d → post 3) :
    wpY_cutState post (nI P, f_maxEv, f_mode, f_thr, f_msgCount, f_hasWit, f_hasPath, f_pathLen, a_init, a_lo, a_hi, a_cnt, a_val, a_st, a_msgP, a_msgK, a_msgRecv, a_wit, a_path, a_reach) (nI (d 0)) (nI (d 1)) (nI (d 2)) (nI (d 3)) := by
  have k0 := hK 0 (by omega)
  have k1 := hK 1 (by omega)
  have k2 := hK 2 (by omega)
  have k3 := hK 3 (by omega)
  have v0 := hv 0 (by omega)
  have v1 := hv 1 (by omega)
  have v2 := hv 2 (by omega)
  have v3 := hv 3 (by omega)
  have h7 : ∀ p, p < 4 → d p < 7 := fun p hp => by have a := hv p hp; have b := hK p hp; omega
  have hc := cx_c7_lt h7
  have hd := cx_7_of h7 h4
  have hv' : cx_Va K (cx_d7 (cx_c7 d)) := by rw [hd]; exact hv
  unfold wpY_cutState
  dsimp only
  rw [hcn 0, hcn 1, hcn 2, hcn 3]
  refine br_f (nI_pos (by omega)) (br_f (nI_nlt (by omega) (by omega)) (br_f (nI_pos (by omega)) (br_t (nI_le (by omega) (by omega)) ?_)))
  refine br_f (nI_pos (by omega)) (br_f (nI_nlt (by omega) (by omega)) (br_f (nI_pos (by omega)) (br_t (nI_le (by omega) (by omega)) ?_)))
  have e0 : nI (d 0) * 343 = nI (d 0 * 343) := pk_mul (d 0) 343
  have e1 : nI (d 1) * 49 = nI (d 1 * 49) := pk_mul (d 1) 49
  have e2 : nI (d 2) * 7 = nI (d 2 * 7) := pk_mul (d 2) 7
  refine nm_r (e' := nI (cx_c7 d)) (by rw [e0, e1, e2, nI_add, nI_add, nI_add]; exact congrArg nI (by unfold cx_c7; omega)) ?_
  refine yw_cons hc hP hB hv' (fun co => br_f xw_10 ?_) (fun nc => br_t rfl (h1 (by rw [hd] at nc; exact nc)))
  rw [hd] at co
  exact yw_sat hc hP hB hv' (fun s => br_f xw_10 (h3 co (by rw [hd] at s; exact s))) (fun s => br_t rfl (h2 co (by rw [hd] at s; exact s)))
end
theorem cx_ok_7 {x : Int32} {k : Nat} (h : cx_Ok x k) (hk : k ≤ 6) : cx_Ok x 7 := by
  obtain ⟨j, hj, e⟩ := h
  exact ⟨j, by omega, e⟩
theorem cx_ok_n {a k : Nat} (h : cx_Ok (nI a) k) (ha : a < 8) (hk : k ≤ 6) : a ≤ k := by
  obtain ⟨j, hj, e⟩ := h
  rw [nI_eq (by omega) (by omega)] at e
  omega
theorem i_vc_cutState {k : Nat} {u : SX} {v : SY} (I : i_Rel k u v) (hk : k + 5 ≤ 2562) (v1 : Int32) (v2 : Int32) (v3 : Int32) (v4 : Int32) : wpX_cutState (fun r => wpY_cutState (fun r' => r' = r ∧ i_Rel (k + 5) u v) v v1 v2 v3 v4) u v1 v2 v3 v4 := by
  obtain ⟨P, E, M, K, md, th, wc, ps, hw, hp, pl, cn, va, st, sp, ss, rc, lo, hi, pa, av, ni, vl, s6, mk, wt, py, rh, rfl, rfl, hcn, hN, hB, hC, hW, hPt⟩ := I
  obtain ⟨n1, n2, n3, n4, n5, n6⟩ := id hN
  have hK : ∀ p, p < 4 → K p ≤ 6 := fun p _ => cx_N_6 hN p
  have rel : i_Rel (k + 5) (nI P, nI E, nI M, md, th, wc, ps, cn, va, st, sp, ss, rc, lo, hi, pa, av) (nI P, nI E, md, th, nI M, hw, hp, pl, ni, lo, hi, cn, vl, s6, sp, mk, rc, wt, py, rh) := cx_mk hcn hN hB hC hW hPt
  by_cases o : cx_Ok v1 7 ∧ cx_Ok v2 7 ∧ cx_Ok v3 7 ∧ cx_Ok v4 7
  · obtain ⟨⟨a, ha, rfl⟩, ⟨b, hb, rfl⟩, ⟨c, hc, rfl⟩, ⟨e, he, rfl⟩⟩ := o
    obtain ⟨d, rfl, rfl, rfl, rfl, h4⟩ := cx_dd a b c e
    have h8 : ∀ p, p < 4 → d p < 8 := fun p hp => by rcases cx_p4 hp with rfl | rfl | rfl | rfl <;> omega
    refine xw_cut n2 hcn hK h8 h4 (fun nv => ?_) (fun v nc => ?_) (fun v ns => ?_) (fun v s => ?_)
    · refine yw_cut0 hcn hK (fun z => nv (fun p hp => ?_)) ⟨rfl, rel⟩
      rcases cx_p4 hp with rfl | rfl | rfl | rfl
      · exact cx_ok_n z.1 (by omega) (hK 0 (by omega))
      · exact cx_ok_n z.2.1 (by omega) (hK 1 (by omega))
      · exact cx_ok_n z.2.2.1 (by omega) (hK 2 (by omega))
      · exact cx_ok_n z.2.2.2 (by omega) (hK 3 (by omega))
    · exact yw_cut n2 hcn hK hB h4 v (fun _ => ⟨rfl, rel⟩) (fun co _ => absurd co nc) (fun co _ => absurd co nc)
    · exact yw_cut n2 hcn hK hB h4 v.1 (fun nc => absurd v.2 nc) (fun _ _ => ⟨rfl, rel⟩) (fun _ s => absurd s ns)
    · exact yw_cut n2 hcn hK hB h4 v.1 (fun nc => absurd v.2 nc) (fun _ ns => absurd s ns) (fun _ _ => ⟨rfl, rel⟩)
  · refine xw_cut0 o (yw_cut0 hcn hK (fun z => o ?_) ⟨rfl, rel⟩)
    exact ⟨cx_ok_7 z.1 (hK 0 (by omega)), cx_ok_7 z.2.1 (hK 1 (by omega)), cx_ok_7 z.2.2.1 (hK 2 (by omega)), cx_ok_7 z.2.2.2 (hK 3 (by omega))⟩
theorem i_vc_countConsistent {k : Nat} {u : SX} {v : SY} (I : i_Rel k u v) (hk : k + 5 ≤ 2562) : wpX_countConsistent (fun r => wpY_countConsistent (fun r' => r' = r ∧ i_Rel (k + 5) u v) v) u := by
  obtain ⟨P, E, M, K, md, th, wc, ps, hw, hp, pl, cn, va, st, sp, ss, rc, lo, hi, pa, av, ni, vl, s6, mk, wt, py, rh, rfl, rfl, hcn, hN, hB, hC, hW, hPt⟩ := I
  obtain ⟨n1, n2, n3, n4, n5, n6⟩ := id hN
  have hK : ∀ p, p < 4 → K p ≤ 6 := fun p _ => cx_N_6 hN p
  have rel : i_Rel (k + 5) (nI P, nI E, nI M, md, th, wc, ps, cn, va, st, sp, ss, rc, lo, hi, pa, av) (nI P, nI E, md, th, nI M, hw, hp, pl, ni, lo, hi, cn, vl, s6, sp, mk, rc, wt, py, rh) := cx_mk hcn hN hB hC hW hPt
  refine xw_cc n2 hcn hK (yw_cc n2 hcn hK hB ⟨?_, rel⟩)
  exact congrArg nI (cx_n_87 (cx_V P K st) (cx_V_7 hK)).symm
theorem i_vc_countSatisfying {k : Nat} {u : SX} {v : SY} (I : i_Rel k u v) (hk : k + 5 ≤ 2562) : wpX_countSatisfying (fun r => wpY_countSatisfying (fun r' => r' = r ∧ i_Rel (k + 5) u v) v) u := by
  obtain ⟨P, E, M, K, md, th, wc, ps, hw, hp, pl, cn, va, st, sp, ss, rc, lo, hi, pa, av, ni, vl, s6, mk, wt, py, rh, rfl, rfl, hcn, hN, hB, hC, hW, hPt⟩ := I
  obtain ⟨n1, n2, n3, n4, n5, n6⟩ := id hN
  have hK : ∀ p, p < 4 → K p ≤ 6 := fun p _ => cx_N_6 hN p
  have rel : i_Rel (k + 5) (nI P, nI E, nI M, md, th, wc, ps, cn, va, st, sp, ss, rc, lo, hi, pa, av) (nI P, nI E, md, th, nI M, hw, hp, pl, ni, lo, hi, cn, vl, s6, sp, mk, rc, wt, py, rh) := cx_mk hcn hN hB hC hW hPt
  refine xw_cs n2 hcn hK (yw_cs n2 hcn hK hB ⟨?_, rel⟩)
  exact congrArg nI (cx_n_87 (cx_Q P K st md th va lo hi) (cx_Q_7 hK)).symm
theorem i_vc_possibly {k : Nat} {u : SX} {v : SY} (I : i_Rel k u v) (hk : k + 5 ≤ 2562) : wpX_possibly (fun r u' => wpY_possibly (fun r' v' => r' = r ∧ i_Rel (k + 5) u' v') v) u := by
  obtain ⟨P, E, M, K, md, th, wc, ps, hw, hp, pl, cn, va, st, sp, ss, rc, lo, hi, pa, av, ni, vl, s6, mk, wt, py, rh, rfl, rfl, hcn, hN, hB, hC, hW, hPt⟩ := I
  obtain ⟨n1, n2, n3, n4, n5, n6⟩ := id hN
  have hK : ∀ p, p < 4 → K p ≤ 6 := fun p _ => cx_N_6 hN p
  refine xw_possibly n2 hcn hK (fun none => ?_) (fun b hb => ?_)
  · have none7 := (cx_no_87 (cx_Q_7 hK)).mp none
    exact yw_possibly n2 hcn hK hB (fun _ => ⟨rfl, cx_mk hcn hN hB hC (cx_Wt_0 _) hPt⟩) (fun b' _ hb' _ => absurd hb'.2.1 (none7 b' hb'.1))
  · refine yw_possibly n2 hcn hK hB (fun none7 => ?_) (fun b' wt' hb' hw' => ⟨rfl, cx_mk hcn hN hB hC (Or.inr ⟨b, hb.1, rfl, rfl, fun p hp => ?_⟩) hPt⟩)
    · exact absurd hb.2.1 ((cx_no_87 (cx_Q_7 hK)).mpr none7 b hb.1)
    · rw [hw' p hp, cx_bst_eq (cx_Q_7 hK) hb hb']
theorem i_vc_witness {k : Nat} {u : SX} {v : SY} (I : i_Rel k u v) (hk : k + 5 ≤ 2562) (v1 : Int32) : wpX_witness (fun r => wpY_witness (fun r' => r' = r ∧ i_Rel (k + 5) u v) v v1) u v1 := by
  obtain ⟨P, E, M, K, md, th, wc, ps, hw, hp, pl, cn, va, st, sp, ss, rc, lo, hi, pa, av, ni, vl, s6, mk, wt, py, rh, rfl, rfl, hcn, hN, hB, hC, hW, hPt⟩ := I
  obtain ⟨n1, n2, n3, n4, n5, n6⟩ := id hN
  have hK : ∀ p, p < 4 → K p ≤ 6 := fun p _ => cx_N_6 hN p
  have rel : i_Rel (k + 5) (nI P, nI E, nI M, md, th, wc, ps, cn, va, st, sp, ss, rc, lo, hi, pa, av) (nI P, nI E, md, th, nI M, hw, hp, pl, ni, lo, hi, cn, vl, s6, sp, mk, rc, wt, py, rh) := cx_mk hcn hN hB hC hW hPt
  unfold wpX_witness
  rcases hW with ⟨e1, e2⟩ | ⟨c, hc, e1, e2, hw'⟩
  · refine br_t e1 ?_
    unfold wpY_witness
    exact br_t e2 ⟨rfl, rel⟩
  · have h1 : ¬ hw = 0 := by rw [e2]; decide
    subst e1
    refine br_f (cx_m1 (by omega)) (xw_isProc n2 (fun j hj e => br_f xw_10 ?_) (fun o => br_t rfl ?_))
    · subst e
      refine xw_index hc (by omega) ?_
      unfold wpY_witness
      refine br_f h1 (cx_inn hj (by omega) ⟨vp_in_nI (by omega) (by omega), ?_, rel⟩)
      rw [nI_clamp (n := j) (by omega)]
      exact hw' j (by omega)
    · unfold wpY_witness
      exact br_f h1 (cx_out o ⟨rfl, rel⟩)
theorem i_vc_definitely {k : Nat} {u : SX} {v : SY} (I : i_Rel k u v) (hk : k + 5 ≤ 2562) : wpX_definitely (fun r u' => wpY_definitely (fun r' v' => r' = r ∧ i_Rel (k + 5) u' v') v) u := by
  obtain ⟨P, E, M, K, md, th, wc, ps, hw, hp, pl, cn, va, st, sp, ss, rc, lo, hi, pa, av, ni, vl, s6, mk, wt, py, rh, rfl, rfl, hcn, hN, hB, hC, hW, hPt⟩ := I
  obtain ⟨n1, n2, n3, n4, n5, n6⟩ := id hN
  have hK : ∀ p, p < 4 → K p ≤ 6 := fun p _ => cx_N_6 hN p
  refine xw_definitely n2 hcn hK n6 (fun nr av' => ?_) (fun r av' pa' hpa => ?_)
  · exact yw_definitely n2 hcn hK n6 hB (fun _ rh' => ⟨rfl, cx_mk hcn hN hB hC hW (cx_Pt_0 _ _ _)⟩) (fun r => absurd r nr)
  · refine yw_definitely n2 hcn hK n6 hB (fun nr => absurd r nr) (fun _ rh' py' hpy => ⟨rfl, cx_mk hcn hN hB hC hW (Or.inr ⟨cx_lv K, cx_lv_6 hK, rfl, rfl, rfl, fun j hj => ?_⟩)⟩)
    rw [hpa j hj, hpy j hj]
end
section
/-! the owed statements that add an event -/
theorem cx_B_lm {P E M j : Nat} {K : Nat → Nat} {va st ni vl s6 st' s6' : Nat → Int32} {v : Int32} (hN : cx_N P E M K) (hB : cx_B P K va st ni vl s6) (hj : j < P) (hl : K j < E)
    (a : ∀ s q, s ≠ j * 7 + (K j + 1) → q < 4 → st' (s * 4 + q) = st (s * 4 + q)) (b : st' ((j * 7 + (K j + 1)) * 4 + j) = nI (K j + 1))
    (c : ∀ q, q < P → q ≠ j → st' ((j * 7 + (K j + 1)) * 4 + q) = cx_mx (st ((j * 7 + K j) * 4 + q)) (st (0 * 4 + q)))
    (a' : ∀ s q, s ≠ j * 6 + K j → q < 4 → s6' (s * 4 + q) = s6 (s * 4 + q)) (b' : s6' ((j * 6 + K j) * 4 + j) = nI (K j + 1))
    (c' : ∀ q, q < 4 → q ≠ j → s6' ((j * 6 + K j) * 4 + q) = cx_bq (K j) j s6 q) :
    cx_B P (cx_up K j) (upd va (j * 7 + (K j + 1)) v) st' ni (upd vl (j * 6 + K j) v) s6' := by
  obtain ⟨n1, n2, n3, n4, n5, n6⟩ := id hN
  refine cx_B_ev2 (m := fun q => st ((j * 7 + K j) * 4 + q)) n2 (fun p _ => cx_N_6 hN p) hj (by omega) hB a b (fun q hq hn => ?_) a' b' (fun q hq hn => ?_) (fun q hq => cx_st_nn hB hj hq)
  · have z : st (0 * 4 + q) = 0 := ((hB 0 (by omega)).2.2 q hq).1
    rw [c q hq hn, z]
    exact cx_mx_0 (cx_st_nn hB hj hq)
  · rw [c' q (by omega) hn]
    exact cx_bq_eq hB hj hq
theorem cx_B_rc {P E M j p' k' : Nat} {K : Nat → Nat} {va st ni vl s6 st' s6' : Nat → Int32} {v : Int32} (hN : cx_N P E M K) (hB : cx_B P K va st ni vl s6) (hj : j < P) (hl : K j < E) (hp' : p' < P) (hk' : k' < K p')
    (a : ∀ s q, s ≠ j * 7 + (K j + 1) → q < 4 → st' (s * 4 + q) = st (s * 4 + q)) (b : st' ((j * 7 + (K j + 1)) * 4 + j) = nI (K j + 1))
    (c : ∀ q, q < P → q ≠ j → st' ((j * 7 + (K j + 1)) * 4 + q) = cx_mx (st ((j * 7 + K j) * 4 + q)) (st ((p' * 7 + (k' + 1)) * 4 + q)))
    (a' : ∀ s q, s ≠ j * 6 + K j → q < 4 → s6' (s * 4 + q) = s6 (s * 4 + q)) (b' : s6' ((j * 6 + K j) * 4 + j) = nI (K j + 1))
    (c' : ∀ q, q < 4 → q ≠ j → s6' ((j * 6 + K j) * 4 + q) = cx_mx (cx_bq (K j) j s6 q) (s6 ((p' * 6 + k') * 4 + q))) :
    cx_B P (cx_up K j) (upd va (j * 7 + (K j + 1)) v) st' ni (upd vl (j * 6 + K j) v) s6' := by
  obtain ⟨n1, n2, n3, n4, n5, n6⟩ := id hN
  refine cx_B_ev2 (m := fun q => cx_mx (st ((j * 7 + K j) * 4 + q)) (st ((p' * 7 + (k' + 1)) * 4 + q))) n2 (fun p _ => cx_N_6 hN p) hj (by omega) hB a b c a' b' (fun q hq hn => ?_) (fun q hq => cx_mx_nn (cx_st_nn hB hj hq))
  rw [c' q (by omega) hn, cx_bq_eq hB hj hq, ((hB p' hp').2.2 q hq).2.1 k' hk']
theorem cx_N_M {P E M M' : Nat} {K : Nat → Nat} (h : cx_N P E M K) (hM : M' ≤ 16) : cx_N P E M' K := ⟨h.1, h.2.1, h.2.2.1, hM, h.2.2.2.2⟩
theorem cx_ne {a b : Nat} (h : a < b) (hb : b ≤ 6) : ¬ nI a = nI b := by
  rw [nI_eq (by omega) (by omega)]
  omega
theorem i_vc_local {k : Nat} {u : SX} {v : SY} (I : i_Rel k u v) (hk : k + 5 ≤ 2562) (v1 : Int32) (v2 : Int32) : wpX_local (fun r u' => wpY_local (fun r' v' => r' = r ∧ i_Rel (k + 5) u' v') v v1 v2) u v1 v2 := by
  obtain ⟨P, E, M, K, md, th, wc, ps, hw, hp, pl, cn, va, st, sp, ss, rc, lo, hi, pa, av, ni, vl, s6, mk, wt, py, rh, rfl, rfl, hcn, hN, hB, hC, hW, hPt⟩ := I
  obtain ⟨n1, n2, n3, n4, n5, n6⟩ := id hN
  have hK : ∀ p, p < 4 → K p ≤ 6 := fun p _ => cx_N_6 hN p
  have rel : i_Rel (k + 5) (nI P, nI E, nI M, md, th, wc, ps, cn, va, st, sp, ss, rc, lo, hi, pa, av) (nI P, nI E, md, th, nI M, hw, hp, pl, ni, lo, hi, cn, vl, s6, sp, mk, rc, wt, py, rh) := cx_mk hcn hN hB hC hW hPt
  unfold wpX_local
  refine xw_room n2 n3 hcn n5 (fun j hj e hl => br_f xw_10 ?_) (fun o => br_t rfl ?_) (fun j hj e hE => br_t rfl ?_)
  · subst e
    refine xw_event (cs := 0) hj n2 (by omega) hcn (by omega) (by omega) (fun st' a b c => ?_)
    refine ⟨vp_in_nI (by omega) (by omega), ?_⟩
    rw [nI_clamp (n := j) (by omega), pk_us (f := cn)]
    unfold wpY_local
    refine cx_inn hj (by omega) ⟨vp_in_nI (by omega) (by omega), ?_⟩
    rw [nI_clamp (n := j) (by omega), hcn]
    refine br_f (cx_ne hl n3) (yw_event (w := cx_bq (K j) j s6) (by omega) (by omega) hcn (Or.inl ⟨rfl, fun _ _ => rfl⟩) (fun s6' a' b' c' => ?_))
    refine ⟨vp_in_nI (by omega) (by omega), pk_us (f := cn), ?_⟩
    exact cx_mk (cx_cn_up hcn j) (cx_N_up hN hj hl) (cx_B_lm hN hB hj hl a b c a' b' c') (cx_C_up j hC) (cx_Wt_0 _) (cx_Pt_0 _ _ _)
  · unfold wpY_local
    exact cx_out o ⟨rfl, rel⟩
  · subst e
    unfold wpY_local
    refine cx_inn hj (by omega) ⟨vp_in_nI (by omega) (by omega), ?_⟩
    rw [nI_clamp (n := j) (by omega), hcn]
    exact br_t (by rw [hE]) ⟨rfl, rel⟩
theorem i_vc_send {k : Nat} {u : SX} {v : SY} (I : i_Rel k u v) (hk : k + 5 ≤ 2562) (v1 : Int32) (v2 : Int32) : wpX_send (fun r u' => wpY_send (fun r' v' => r' = r ∧ i_Rel (k + 5) u' v') v v1 v2) u v1 v2 := by
  obtain ⟨P, E, M, K, md, th, wc, ps, hw, hp, pl, cn, va, st, sp, ss, rc, lo, hi, pa, av, ni, vl, s6, mk, wt, py, rh, rfl, rfl, hcn, hN, hB, hC, hW, hPt⟩ := I
  obtain ⟨n1, n2, n3, n4, n5, n6⟩ := id hN
  have hK : ∀ p, p < 4 → K p ≤ 6 := fun p _ => cx_N_6 hN p
  have rel : i_Rel (k + 5) (nI P, nI E, nI M, md, th, wc, ps, cn, va, st, sp, ss, rc, lo, hi, pa, av) (nI P, nI E, md, th, nI M, hw, hp, pl, ni, lo, hi, cn, vl, s6, sp, mk, rc, wt, py, rh) := cx_mk hcn hN hB hC hW hPt
  unfold wpX_send
  refine xw_room n2 n3 hcn n5 (fun j hj e hl => br_f xw_10 ?_) (fun o => br_t rfl ?_) (fun j hj e hE => br_t rfl ?_)
  · subst e
    refine pk_lt M 16 (fun lt => ?_) (fun ge => ?_)
    · refine xw_event (cs := 0) hj n2 (by omega) hcn (by omega) (by omega) (fun st' a b c => ?_)
      refine ⟨vp_in_nI (by omega) (by omega), ?_⟩
      rw [nI_clamp (n := M) (by omega)]
      refine nm_e ⟨vp_in_nI (by omega) (by omega), ?_⟩
      rw [nI_clamp (n := j) (by omega), pk_us (f := cn)]
      refine xw_slot ⟨vp_in_nI (by omega) (by omega), ?_⟩
      refine nm_e (nm_r (nI_1 M) ?_)
      unfold wpY_send
      refine cx_inn hj (by omega) ⟨vp_in_nI (by omega) (by omega), ?_⟩
      rw [nI_clamp (n := j) (by omega), hcn]
      refine br_f (cx_ne hl n3) (br_t (nI_lt (b := 16) lt (by omega)) ?_)
      refine yw_event (w := cx_bq (K j) j s6) (by omega) (by omega) hcn (Or.inl ⟨rfl, fun _ _ => rfl⟩) (fun s6' a' b' c' => ?_)
      refine ⟨vp_in_nI (by omega) (by omega), ?_⟩
      rw [nI_clamp (n := M) (by omega), pk_us (f := cn), cx_nar0, cx_upd_id (hC.2 M (Nat.le_refl M))]
      refine nm_e ⟨vp_in_nI (by omega) (by omega), vp_in_nI (by omega) (by omega), nm_e ⟨vp_in_nI (by omega) (by omega), nm_e (nm_r (nI_1 M) ⟨rfl, ?_⟩)⟩⟩
      exact cx_mk (cx_cn_up hcn j) (cx_N_M (cx_N_up hN hj hl) (by omega)) (cx_B_lm hN hB hj hl a b c a' b' c') (cx_C_send hj hC) (cx_Wt_0 _) (cx_Pt_0 _ _ _)
    · unfold wpY_send
      refine cx_inn hj (by omega) ⟨vp_in_nI (by omega) (by omega), ?_⟩
      rw [nI_clamp (n := j) (by omega), hcn]
      exact br_f (cx_ne hl n3) (br_f (nI_nlt (b := 16) ge (by omega)) ⟨rfl, rel⟩)
  · unfold wpY_send
    exact cx_out o ⟨rfl, rel⟩
  · subst e
    unfold wpY_send
    refine cx_inn hj (by omega) ⟨vp_in_nI (by omega) (by omega), ?_⟩
    rw [nI_clamp (n := j) (by omega), hcn]
    exact br_t (by rw [hE]) ⟨rfl, rel⟩
theorem i_vc_receive {k : Nat} {u : SX} {v : SY} (I : i_Rel k u v) (hk : k + 5 ≤ 2562) (v1 : Int32) (v2 : Int32) (v3 : Int32) : wpX_receive (fun r u' => wpY_receive (fun r' v' => r' = r ∧ i_Rel (k + 5) u' v') v v1 v2 v3) u v1 v2 v3 := by
  obtain ⟨P, E, M, K, md, th, wc, ps, hw, hp, pl, cn, va, st, sp, ss, rc, lo, hi, pa, av, ni, vl, s6, mk, wt, py, rh, rfl, rfl, hcn, hN, hB, hC, hW, hPt⟩ := I
  obtain ⟨n1, n2, n3, n4, n5, n6⟩ := id hN
  have hK : ∀ p, p < 4 → K p ≤ 6 := fun p _ => cx_N_6 hN p
  have rel : i_Rel (k + 5) (nI P, nI E, nI M, md, th, wc, ps, cn, va, st, sp, ss, rc, lo, hi, pa, av) (nI P, nI E, md, th, nI M, hw, hp, pl, ni, lo, hi, cn, vl, s6, sp, mk, rc, wt, py, rh) := cx_mk hcn hN hB hC hW hPt
  unfold wpX_receive
  refine xw_room n2 n3 hcn n5 (fun j hj e hl => br_f xw_10 ?_) (fun o => br_t rfl ?_) (fun j hj e hE => br_t rfl ?_)
  · subst e
    refine xw_pending n4 (fun m hm e0 er => br_f xw_10 ?_) (fun o => br_t rfl ?_) (fun m hm e0 er => br_t rfl ?_)
    · subst e0
      obtain ⟨p', k', hp', hk', es, ess, emk⟩ := hC.1 m hm
      have k6 := cx_N_6 hN p'
      have hne7 : p' * 7 + (k' + 1) ≠ j * 7 + (K j + 1) := by
        by_cases e : p' = j
        · subst e
          omega
        · omega
      have hne6 : p' * 6 + k' ≠ j * 6 + K j := by
        by_cases e : p' = j
        · subst e
          omega
        · omega
      refine ⟨vp_in_nI (by omega) (by omega), ?_⟩
      rw [nI_clamp (n := m) (by omega)]
      refine br_c (fun z => ?_) (fun nz => ⟨vp_in_nI (by omega) (by omega), ?_⟩)
      · unfold wpY_receive
        refine cx_inn hj (by omega) ⟨vp_in_nI (by omega) (by omega), ?_⟩
        rw [nI_clamp (n := j) (by omega), hcn]
        refine br_f (cx_ne hl n3) (cx_inn hm n4 ⟨vp_in_nI (by omega) (by omega), ?_⟩)
        rw [nI_clamp (n := m) (by omega)]
        exact br_t er ⟨vp_in_nI (by omega) (by omega), br_t z ⟨rfl, rel⟩⟩
      · rw [ess, cx_nar1]
        refine nm_e ⟨vp_in_nI (by omega) (by omega), xw_event (cs := p' * 7 + (k' + 1)) hj n2 (by omega) hcn (by omega) hne7 (fun st' a b c => ?_)⟩
        refine ⟨vp_in_nI (by omega) (by omega), ?_⟩
        rw [nI_clamp (n := j) (by omega), pk_us (f := cn)]
        unfold wpY_receive
        refine cx_inn hj (by omega) ⟨vp_in_nI (by omega) (by omega), ?_⟩
        rw [nI_clamp (n := j) (by omega), hcn]
        refine br_f (cx_ne hl n3) (cx_inn hm n4 ⟨vp_in_nI (by omega) (by omega), ?_⟩)
        rw [nI_clamp (n := m) (by omega)]
        refine br_t er ⟨vp_in_nI (by omega) (by omega), br_f nz ⟨vp_in_nI (by omega) (by omega), ?_⟩⟩
        rw [cx_nar1]
        refine nm_e (yw_event (w := fun q => cx_mx (cx_bq (K j) j s6 q) (s6 ((p' * 6 + k') * 4 + q))) (by omega) (by omega) hcn (Or.inr ⟨m, p', k', by omega, rfl, by omega, by omega, es, emk, hne6, fun _ _ => rfl⟩) (fun s6' a' b' c' => ?_))
        refine ⟨vp_in_nI (by omega) (by omega), ?_, ?_⟩
        · exact pk_us (f := cn)
        · exact cx_mk (cx_cn_up hcn j) (cx_N_up hN hj hl) (cx_B_rc hN hB hj hl hp' hk' a b c a' b' c') (cx_C_rec hm (cx_C_up j hC)) (cx_Wt_0 _) (cx_Pt_0 _ _ _)
    · unfold wpY_receive
      refine cx_inn hj (by omega) ⟨vp_in_nI (by omega) (by omega), ?_⟩
      rw [nI_clamp (n := j) (by omega), hcn]
      exact br_f (cx_ne hl n3) (cx_out o ⟨rfl, rel⟩)
    · subst e0
      unfold wpY_receive
      refine cx_inn hj (by omega) ⟨vp_in_nI (by omega) (by omega), ?_⟩
      rw [nI_clamp (n := j) (by omega), hcn]
      refine br_f (cx_ne hl n3) (cx_inn hm n4 ⟨vp_in_nI (by omega) (by omega), ?_⟩)
      rw [nI_clamp (n := m) (by omega)]
      exact br_f er ⟨rfl, rel⟩
  · unfold wpY_receive
    exact cx_out o ⟨rfl, rel⟩
  · subst e
    unfold wpY_receive
    refine cx_inn hj (by omega) ⟨vp_in_nI (by omega) (by omega), ?_⟩
    rw [nI_clamp (n := j) (by omega), hcn]
    exact br_t (by rw [hE]) ⟨rfl, rel⟩
end
