/-! the law's own numbering of cuts: P digits in base R, process 0 the lowest -/
def cx_dR (P R c p : Nat) : Nat := if p < P then c / R ^ p % R else 0
def cx_cs (R : Nat) (d : Nat → Nat) : Nat → Nat
  | 0 => 0
  | n + 1 => cx_cs R d n + d n * R ^ n
def cx_PR (P R : Nat) : Prop := (P = 1 ∧ R = 7) ∨ (P = 2 ∧ R = 7) ∨ (P = 3 ∧ R = 5) ∨ (P = 4 ∧ R = 3)
theorem cx_PR_b {P R : Nat} (h : cx_PR P R) : 1 ≤ P ∧ P ≤ 4 ∧ 2 ≤ R ∧ R ≤ 7 ∧ R ^ P ≤ 125 ∧ 0 < R ^ P := by
  rcases h with ⟨rfl, rfl⟩ | ⟨rfl, rfl⟩ | ⟨rfl, rfl⟩ | ⟨rfl, rfl⟩ <;> decide
def cx_Dg (P R : Nat) (d : Nat → Nat) : Prop := (∀ p, p < P → d p < R) ∧ ∀ p, P ≤ p → d p = 0
theorem cx_dR_Dg {P R c : Nat} (hR : 0 < R) : cx_Dg P R (cx_dR P R c) := by
  refine ⟨fun p hp => ?_, fun p hp => ?_⟩
  · unfold cx_dR
    rw [if_pos hp]
    exact Nat.mod_lt _ hR
  · unfold cx_dR
    rw [if_neg (by omega)]
theorem cx_Dg_8 {P R : Nat} {d : Nat → Nat} (h : cx_PR P R) (g : cx_Dg P R d) : cx_d8 (cx_c8 d) = d ∧ cx_c8 d < 4096 := by
  obtain ⟨b1, b2, b3, b4, b5, b6⟩ := cx_PR_b h
  have h8 : ∀ p, p < 4 → d p < 8 := fun p _ => by
    by_cases e : p < P
    · have := g.1 p e
      omega
    · rw [g.2 p (by omega)]
      omega
  exact ⟨cx_8_of h8 (fun p hp => g.2 p (by omega)), cx_c8_lt h8⟩
def cx_ck (P R : Nat) : Bool := (List.range (R ^ P)).all fun c => (List.range P).all fun p =>
  decide (cx_dR P R c p + 1 < R → c + R ^ p < R ^ P ∧ cx_dR P R (c + R ^ p) 0 = cx_up (cx_dR P R c) p 0 ∧ cx_dR P R (c + R ^ p) 1 = cx_up (cx_dR P R c) p 1 ∧ cx_dR P R (c + R ^ p) 2 = cx_up (cx_dR P R c) p 2 ∧ cx_dR P R (c + R ^ p) 3 = cx_up (cx_dR P R c) p 3)
theorem cx_ck_t {P R : Nat} (h : cx_PR P R) : cx_ck P R = true := by
  rcases h with ⟨rfl, rfl⟩ | ⟨rfl, rfl⟩ | ⟨rfl, rfl⟩ | ⟨rfl, rfl⟩ <;> decide +kernel
theorem cx_dR_step {P R c p : Nat} (h : cx_PR P R) (hc : c < R ^ P) (hp : p < P) (hd : cx_dR P R c p + 1 < R) : cx_dR P R (c + R ^ p) = cx_up (cx_dR P R c) p ∧ c + R ^ p < R ^ P := by
  have t := cx_ck_t h
  unfold cx_ck at t
  have t2 := List.all_eq_true.mp (List.all_eq_true.mp t c (List.mem_range.mpr hc)) p (List.mem_range.mpr hp)
  obtain ⟨t0, q0, q1, q2, q3⟩ := of_decide_eq_true t2 hd
  obtain ⟨b1, b2, b3, b4, b5, b6⟩ := cx_PR_b h
  refine ⟨funext fun q => ?_, t0⟩
  by_cases hq : q < 4
  · rcases cx_p4 hq with rfl | rfl | rfl | rfl
    · exact q0
    · exact q1
    · exact q2
    · exact q3
  · rw [cx_up_n (by omega), (cx_dR_Dg (by omega)).2 q (by omega), (cx_dR_Dg (by omega)).2 q (by omega)]
def cx_ck2 (P R : Nat) : Bool := (List.range (R ^ P)).all fun c => decide (cx_cs R (cx_dR P R c) P = c)
theorem cx_ck2_t {P R : Nat} (h : cx_PR P R) : cx_ck2 P R = true := by
  rcases h with ⟨rfl, rfl⟩ | ⟨rfl, rfl⟩ | ⟨rfl, rfl⟩ | ⟨rfl, rfl⟩ <;> decide +kernel
theorem cx_cs_c {P R c : Nat} (h : cx_PR P R) (hc : c < R ^ P) : cx_cs R (cx_dR P R c) P = c := by
  have t := cx_ck2_t h
  unfold cx_ck2 at t
  exact of_decide_eq_true (List.all_eq_true.mp t c (List.mem_range.mpr hc))
theorem cx_dR_of {P R : Nat} {d : Nat → Nat} (h : cx_PR P R) (g : cx_Dg P R d) : cx_dR P R (cx_cs R d P) = d ∧ cx_cs R d P < R ^ P := by
  obtain ⟨g1, g2⟩ := g
  rcases h with ⟨rfl, rfl⟩ | ⟨rfl, rfl⟩ | ⟨rfl, rfl⟩ | ⟨rfl, rfl⟩
  · have a0 := g1 0 (by omega)
    refine ⟨funext fun q => ?_, ?_⟩
    · by_cases hq : q < 1
      · have e : q = 0 := by omega
        subst e
        show (0 + d 0 * 1) / 1 % 7 = d 0
        omega
      · rw [g2 q (by omega)]
        exact if_neg hq
    · show 0 + d 0 * 1 < 7
      omega
  · have a0 := g1 0 (by omega)
    have a1 := g1 1 (by omega)
    refine ⟨funext fun q => ?_, ?_⟩
    · by_cases hq : q < 2
      · have e : q = 0 ∨ q = 1 := by omega
        rcases e with rfl | rfl
        · show (0 + d 0 * 1 + d 1 * 7) / 1 % 7 = d 0
          omega
        · show (0 + d 0 * 1 + d 1 * 7) / 7 % 7 = d 1
          omega
      · rw [g2 q (by omega)]
        exact if_neg hq
    · show 0 + d 0 * 1 + d 1 * 7 < 49
      omega
  · have a0 := g1 0 (by omega)
    have a1 := g1 1 (by omega)
    have a2 := g1 2 (by omega)
    refine ⟨funext fun q => ?_, ?_⟩
    · by_cases hq : q < 3
      · have e : q = 0 ∨ q = 1 ∨ q = 2 := by omega
        rcases e with rfl | rfl | rfl
        · show (0 + d 0 * 1 + d 1 * 5 + d 2 * 25) / 1 % 5 = d 0
          omega
        · show (0 + d 0 * 1 + d 1 * 5 + d 2 * 25) / 5 % 5 = d 1
          omega
        · show (0 + d 0 * 1 + d 1 * 5 + d 2 * 25) / 25 % 5 = d 2
          omega
      · rw [g2 q (by omega)]
        exact if_neg hq
    · show 0 + d 0 * 1 + d 1 * 5 + d 2 * 25 < 125
      omega
  · have a0 := g1 0 (by omega)
    have a1 := g1 1 (by omega)
    have a2 := g1 2 (by omega)
    have a3 := g1 3 (by omega)
    refine ⟨funext fun q => ?_, ?_⟩
    · by_cases hq : q < 4
      · rcases cx_p4 hq with rfl | rfl | rfl | rfl
        · show (0 + d 0 * 1 + d 1 * 3 + d 2 * 9 + d 3 * 27) / 1 % 3 = d 0
          omega
        · show (0 + d 0 * 1 + d 1 * 3 + d 2 * 9 + d 3 * 27) / 3 % 3 = d 1
          omega
        · show (0 + d 0 * 1 + d 1 * 3 + d 2 * 9 + d 3 * 27) / 9 % 3 = d 2
          omega
        · show (0 + d 0 * 1 + d 1 * 3 + d 2 * 9 + d 3 * 27) / 27 % 3 = d 3
          omega
      · rw [g2 q (by omega)]
        exact if_neg hq
    · show 0 + d 0 * 1 + d 1 * 3 + d 2 * 9 + d 3 * 27 < 81
      omega
/-! the lexicographic number of a cut, process 0 the highest -/
def cx_lx (P R : Nat) (d : Nat → Nat) : Nat → Nat
  | 0 => 0
  | n + 1 => cx_lx P R d n + d n * R ^ (P - 1 - n)
def cx_dB (P R e p : Nat) : Nat := if p < P then e / R ^ (P - 1 - p) % R else 0
def cx_fB (P R e : Nat) : Nat := cx_c8 (cx_dB P R e)
theorem cx_dB_of {P R : Nat} {d : Nat → Nat} (h : cx_PR P R) (g : cx_Dg P R d) : cx_dB P R (cx_lx P R d P) = d ∧ cx_lx P R d P < R ^ P := by
  obtain ⟨g1, g2⟩ := g
  rcases h with ⟨rfl, rfl⟩ | ⟨rfl, rfl⟩ | ⟨rfl, rfl⟩ | ⟨rfl, rfl⟩
  · have a0 := g1 0 (by omega)
    refine ⟨funext fun q => ?_, ?_⟩
    · by_cases hq : q < 1
      · have e : q = 0 := by omega
        subst e
        show (0 + d 0 * 1) / 1 % 7 = d 0
        omega
      · rw [g2 q (by omega)]
        exact if_neg hq
    · show 0 + d 0 * 1 < 7
      omega
  · have a0 := g1 0 (by omega)
    have a1 := g1 1 (by omega)
    refine ⟨funext fun q => ?_, ?_⟩
    · by_cases hq : q < 2
      · have e : q = 0 ∨ q = 1 := by omega
        rcases e with rfl | rfl
        · show (0 + d 0 * 7 + d 1 * 1) / 7 % 7 = d 0
          omega
        · show (0 + d 0 * 7 + d 1 * 1) / 1 % 7 = d 1
          omega
      · rw [g2 q (by omega)]
        exact if_neg hq
    · show 0 + d 0 * 7 + d 1 * 1 < 49
      omega
  · have a0 := g1 0 (by omega)
    have a1 := g1 1 (by omega)
    have a2 := g1 2 (by omega)
    refine ⟨funext fun q => ?_, ?_⟩
    · by_cases hq : q < 3
      · have e : q = 0 ∨ q = 1 ∨ q = 2 := by omega
        rcases e with rfl | rfl | rfl
        · show (0 + d 0 * 25 + d 1 * 5 + d 2 * 1) / 25 % 5 = d 0
          omega
        · show (0 + d 0 * 25 + d 1 * 5 + d 2 * 1) / 5 % 5 = d 1
          omega
        · show (0 + d 0 * 25 + d 1 * 5 + d 2 * 1) / 1 % 5 = d 2
          omega
      · rw [g2 q (by omega)]
        exact if_neg hq
    · show 0 + d 0 * 25 + d 1 * 5 + d 2 * 1 < 125
      omega
  · have a0 := g1 0 (by omega)
    have a1 := g1 1 (by omega)
    have a2 := g1 2 (by omega)
    have a3 := g1 3 (by omega)
    refine ⟨funext fun q => ?_, ?_⟩
    · by_cases hq : q < 4
      · rcases cx_p4 hq with rfl | rfl | rfl | rfl
        · show (0 + d 0 * 27 + d 1 * 9 + d 2 * 3 + d 3 * 1) / 27 % 3 = d 0
          omega
        · show (0 + d 0 * 27 + d 1 * 9 + d 2 * 3 + d 3 * 1) / 9 % 3 = d 1
          omega
        · show (0 + d 0 * 27 + d 1 * 9 + d 2 * 3 + d 3 * 1) / 3 % 3 = d 2
          omega
        · show (0 + d 0 * 27 + d 1 * 9 + d 2 * 3 + d 3 * 1) / 1 % 3 = d 3
          omega
      · rw [g2 q (by omega)]
        exact if_neg hq
    · show 0 + d 0 * 27 + d 1 * 9 + d 2 * 3 + d 3 * 1 < 81
      omega
def cx_ck3 (P R : Nat) : Bool := (List.range (R ^ P - 1)).all fun e => decide (cx_fB P R e < cx_fB P R (e + 1))
theorem cx_ck3_t {P R : Nat} (h : cx_PR P R) : cx_ck3 P R = true := by
  rcases h with ⟨rfl, rfl⟩ | ⟨rfl, rfl⟩ | ⟨rfl, rfl⟩ | ⟨rfl, rfl⟩ <;> decide +kernel
theorem cx_fB_m {P R a : Nat} (h : cx_PR P R) : ∀ b, a < b → b < R ^ P → cx_fB P R a < cx_fB P R b := by
  intro b
  induction b with
  | zero => intro z; omega
  | succ b ih =>
    intro l hb
    have t := cx_ck3_t h
    unfold cx_ck3 at t
    have s := of_decide_eq_true (List.all_eq_true.mp t b (List.mem_range.mpr (by omega)))
    by_cases e : a = b
    · rw [e]; exact s
    · exact Nat.lt_trans (ih (by omega) (by omega)) s
def cx_ky (P R : Nat) (d : Nat → Nat) : Nat := cx_lv d * R ^ P + cx_lx P R d P
theorem cx_ky_eq {P R : Nat} {d d' : Nat → Nat} (h : cx_PR P R) (g : cx_Dg P R d) (g' : cx_Dg P R d') (o : cx_lv d < cx_lv d' ∨ (cx_lv d = cx_lv d' ∧ cx_c8 d ≤ cx_c8 d')) (k : cx_ky P R d' ≤ cx_ky P R d) : d = d' := by
  obtain ⟨e, l⟩ := cx_dB_of h g
  obtain ⟨e', l'⟩ := cx_dB_of h g'
  unfold cx_ky at k
  have c1 : cx_fB P R (cx_lx P R d P) = cx_c8 d := congrArg cx_c8 e
  have c2 : cx_fB P R (cx_lx P R d' P) = cx_c8 d' := congrArg cx_c8 e'
  have m := cx_fB_m (a := cx_lx P R d' P) h (cx_lx P R d P)
  generalize hx : cx_lx P R d P = x at *
  generalize hx' : cx_lx P R d' P = x' at *
  have lv : cx_lv d = cx_lv d' := by
    rcases o with o | o
    · have q : (cx_lv d + 1) * R ^ P ≤ cx_lv d' * R ^ P := Nat.mul_le_mul_right _ o
      rw [Nat.add_mul] at q
      omega
    · exact o.1
  have c8 : cx_c8 d ≤ cx_c8 d' := by
    rcases o with o | o
    · omega
    · exact o.2
  rw [lv] at k
  have x1 : ¬ x' < x := fun z => by
    have := m z l
    omega
  have xe : x = x' := by omega
  rw [← e, ← e', xe]
/-! counting -/
def cx_sR (P R c : Nat) : Bool := (List.range 4).all fun p => if p < P then decide (cx_d8 c p < R) else decide (cx_d8 c p = 0)
theorem cx_sR_t {P R c : Nat} (g : cx_Dg P R (cx_d8 c)) : cx_sR P R c = true := by
  unfold cx_sR
  refine List.all_eq_true.mpr (fun p _ => ?_)
  by_cases e : p < P
  · rw [if_pos e]
    exact decide_eq_true (g.1 p e)
  · rw [if_neg e]
    exact decide_eq_true (g.2 p (by omega))
theorem cx_perm {P R : Nat} (h : cx_PR P R) : ((List.range 4096).filter (cx_sR P R)).isPerm ((List.range (R ^ P)).map (fun c => cx_c8 (cx_dR P R c))) = true := by
  rcases h with ⟨rfl, rfl⟩ | ⟨rfl, rfl⟩ | ⟨rfl, rfl⟩ | ⟨rfl, rfl⟩ <;> decide +kernel
theorem cx_n_R {P R : Nat} (h : cx_PR P R) (Q : (Nat → Nat) → Prop) (hq : ∀ d, Q d → (∀ p, 4 ≤ p → d p = 0) → cx_Dg P R d) : cx_n (fun c => Q (cx_d8 c)) 4096 = cx_n (fun c => Q (cx_dR P R c)) (R ^ P) := by
  obtain ⟨b1, b2, b3, b4, b5, b6⟩ := cx_PR_b h
  unfold cx_n
  have e1 : (List.range 4096).countP (fun c => cx_b (Q (cx_d8 c))) = ((List.range 4096).filter (cx_sR P R)).countP (fun c => cx_b (Q (cx_d8 c))) := by
    rw [List.countP_filter]
    apply List.countP_congr
    intro c _
    constructor
    · intro hb
      have hs := cx_sR_t (hq _ (cx_b_t.mp hb) (fun _ hp => cx_8_4 hp))
      rw [hb, hs]
      rfl
    · intro hb
      exact (Bool.and_eq_true_iff.mp hb).1
  rw [e1, (List.isPerm_iff.mp (cx_perm h)).countP_eq, List.countP_map]
  apply List.countP_congr
  intro c _
  show cx_b (Q (cx_d8 (cx_c8 (cx_dR P R c)))) = true ↔ cx_b (Q (cx_dR P R c)) = true
  rw [(cx_Dg_8 h (cx_dR_Dg (by omega))).1]
theorem cx_n_mono (Q : Nat → Prop) (a : Nat) : ∀ b, a ≤ b → cx_n Q a ≤ cx_n Q b := by
  intro b
  induction b with
  | zero =>
    intro l
    have : a = 0 := by omega
    subst this
    exact Nat.le_refl _
  | succ b ih =>
    intro l
    by_cases e : a = b + 1
    · subst e
      exact Nat.le_refl _
    · have i := ih (by omega)
      by_cases q : Q b
      · rw [cx_n_t q]
        omega
      · rw [cx_n_f q]
        exact i
