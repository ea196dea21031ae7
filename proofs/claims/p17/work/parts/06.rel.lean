/-! what ties the two sides' values and stamps: P processes, K p events of process p -/
def cx_B (P : Nat) (K : Nat → Nat) (va st ni vl s6 : Nat → Int32) : Prop := ∀ p, p < P →
  ni p = va (p * 7 + 0) ∧ (∀ k, k < K p → vl (p * 6 + k) = va (p * 7 + (k + 1))) ∧
  (∀ q, q < P → st ((p * 7 + 0) * 4 + q) = 0 ∧ (∀ k, k < K p → s6 ((p * 6 + k) * 4 + q) = st ((p * 7 + (k + 1)) * 4 + q)) ∧ (∀ k, k ≤ K p → ¬ st ((p * 7 + k) * 4 + q) < 0))
theorem cx_B_ev {P p0 : Nat} {K : Nat → Nat} {va st ni vl s6 st' s6' w : Nat → Int32} {v : Int32} (hP : P ≤ 4) (hK : ∀ p, p < P → K p ≤ 6) (hp0 : p0 < P) (hk0 : K p0 < 6) (h : cx_B P K va st ni vl s6)
    (h1 : ∀ s q, s ≠ p0 * 7 + (K p0 + 1) → q < 4 → st' (s * 4 + q) = st (s * 4 + q)) (h2 : ∀ q, q < P → st' ((p0 * 7 + (K p0 + 1)) * 4 + q) = w q)
    (h3 : ∀ s q, s ≠ p0 * 6 + K p0 → q < 4 → s6' (s * 4 + q) = s6 (s * 4 + q)) (h4 : ∀ q, q < P → s6' ((p0 * 6 + K p0) * 4 + q) = w q) (hw : ∀ q, q < P → ¬ w q < 0) :
    cx_B P (cx_up K p0) (upd va (p0 * 7 + (K p0 + 1)) v) st' ni (upd vl (p0 * 6 + K p0) v) s6' := by
  intro p hp
  obtain ⟨b1, b2, b3⟩ := h p hp
  have hKp := hK p hp
  refine ⟨?_, ?_, ?_⟩
  · rw [pk_un (by omega)]
    exact b1
  · intro k hk
    by_cases e : p = p0
    · subst e
      rw [cx_up_s] at hk
      by_cases e2 : k = K p
      · subst e2
        rw [pk_us, pk_us]
      · rw [pk_un (by omega), pk_un (by omega)]
        exact b2 k (by omega)
    · rw [cx_up_n e] at hk
      rw [pk_un (by omega), pk_un (by omega)]
      exact b2 k hk
  · intro q hq
    obtain ⟨c1, c2, c3⟩ := b3 q hq
    refine ⟨?_, ?_, ?_⟩
    · rw [h1 _ _ (by omega) (by omega)]
      exact c1
    · intro k hk
      by_cases e : p = p0
      · subst e
        rw [cx_up_s] at hk
        by_cases e2 : k = K p
        · subst e2
          rw [h2 q hq, h4 q hq]
        · rw [h1 _ _ (by omega) (by omega), h3 _ _ (by omega) (by omega)]
          exact c2 k (by omega)
      · rw [cx_up_n e] at hk
        rw [h1 _ _ (by omega) (by omega), h3 _ _ (by omega) (by omega)]
        exact c2 k hk
    · intro k hk
      by_cases e : p = p0
      · subst e
        rw [cx_up_s] at hk
        by_cases e2 : k = K p + 1
        · subst e2
          rw [h2 q hq]
          exact hw q hq
        · rw [h1 _ _ (by omega) (by omega)]
          exact c3 k (by omega)
      · rw [cx_up_n e] at hk
        rw [h1 _ _ (by omega) (by omega)]
        exact c3 k hk
def cx_mx (b c : Int32) : Int32 := if c ≤ b then b else c
theorem cx_mx_t {b c : Int32} (h : c ≤ b) : cx_mx b c = b := if_pos h
theorem cx_mx_f {b c : Int32} (h : ¬ c ≤ b) : cx_mx b c = c := if_neg h
theorem cx_mx_nn {b c : Int32} (h : ¬ b < 0) : ¬ cx_mx b c < 0 := by
  by_cases l : c ≤ b
  · rw [cx_mx_t l]
    exact h
  · rw [cx_mx_f l]
    intro z
    exact h (Int32.lt_trans (Int32.not_le.mp l) z)
theorem cx_mx_0 {b : Int32} (h : ¬ b < 0) : cx_mx b 0 = b := cx_mx_t (Int32.not_lt.mp h)
/-! messages -/
def cx_C (P M : Nat) (K : Nat → Nat) (sp ss mk rc : Nat → Int32) : Prop :=
  (∀ m, m < M → ∃ p k : Nat, p < P ∧ k < K p ∧ sp m = nI p ∧ ss m = nI (p * 7 + (k + 1)) ∧ mk m = nI (k + 1)) ∧ (∀ m, M ≤ m → rc m = 0)
theorem cx_up_le (K : Nat → Nat) (p0 p : Nat) : K p ≤ cx_up K p0 p := by
  by_cases e : p = p0
  · rw [e, cx_up_s]; omega
  · rw [cx_up_n e]; omega
theorem cx_C_up {P M : Nat} {K : Nat → Nat} {sp ss mk rc : Nat → Int32} (p0 : Nat) (h : cx_C P M K sp ss mk rc) : cx_C P M (cx_up K p0) sp ss mk rc :=
  ⟨fun m hm => by
    obtain ⟨p, k, a, b, c⟩ := h.1 m hm
    exact ⟨p, k, a, Nat.lt_of_lt_of_le b (cx_up_le K p0 p), c⟩, h.2⟩
theorem cx_C_send {P M p0 : Nat} {K : Nat → Nat} {sp ss mk rc : Nat → Int32} (hp0 : p0 < P) (h : cx_C P M K sp ss mk rc) :
    cx_C P (M + 1) (cx_up K p0) (upd sp M (nI p0)) (upd ss M (nI (p0 * 7 + (K p0 + 1)))) (upd mk M (nI (K p0 + 1))) rc := by
  refine ⟨fun m hm => ?_, fun m hm => h.2 m (by omega)⟩
  by_cases e : m = M
  · subst e
    exact ⟨p0, K p0, hp0, by rw [cx_up_s]; omega, pk_us, pk_us, pk_us⟩
  · obtain ⟨p, k, a, b, c⟩ := h.1 m (by omega)
    refine ⟨p, k, a, Nat.lt_of_lt_of_le b (cx_up_le K p0 p), ?_⟩
    rw [pk_un e, pk_un e, pk_un e]
    exact c
theorem cx_C_rec {P M m : Nat} {K : Nat → Nat} {sp ss mk rc : Nat → Int32} {x : Int32} (hm : m < M) (h : cx_C P M K sp ss mk rc) : cx_C P M K sp ss mk (upd rc m x) :=
  ⟨h.1, fun j hj => by rw [pk_un (by omega)]; exact h.2 j hj⟩
theorem cx_K_up (K : Nat → Nat) (p : Nat) : upd (fun i => nI (K i)) p (nI (K p + 1)) = fun i => nI (cx_up K p i) := by
  funext i
  by_cases e : i = p
  · rw [e, pk_us, cx_up_s]
  · rw [pk_un e, cx_up_n e]
/-! sizes -/
def cx_N (P E M : Nat) (K : Nat → Nat) : Prop := 1 ≤ P ∧ P ≤ 4 ∧ E ≤ 6 ∧ M ≤ 16 ∧ (∀ p, K p ≤ E) ∧ (∀ p, P ≤ p → K p = 0)
theorem cx_N_6 {P E M : Nat} {K : Nat → Nat} (h : cx_N P E M K) (p : Nat) : K p ≤ 6 := Nat.le_trans (h.2.2.2.2.1 p) h.2.2.1
theorem cx_N_up {P E M p0 : Nat} {K : Nat → Nat} (h : cx_N P E M K) (hp : p0 < P) (hk : K p0 < E) : cx_N P E M (cx_up K p0) := by
  obtain ⟨h1, h2, h3, h4, h5, h6⟩ := h
  refine ⟨h1, h2, h3, h4, fun p => ?_, fun p hp' => ?_⟩
  · by_cases e : p = p0
    · rw [e, cx_up_s]; omega
    · rw [cx_up_n e]; exact h5 p
  · rw [cx_up_n (by omega)]
    exact h6 p hp'
/-! results that are kept: witness and path -/
def cx_Wt (wc hw : Int32) (wt : Nat → Int32) : Prop := (wc = -1 ∧ hw = 0) ∨ ∃ c : Nat, c < 4096 ∧ wc = nI c ∧ hw = 1 ∧ ∀ p, p < 4 → wt p = nI (cx_d8 c p)
def cx_Pt (ps hp pl : Int32) (pa py : Nat → Int32) : Prop := (ps = -1 ∧ hp = 0) ∨ ∃ L : Nat, L ≤ 24 ∧ ps = nI L ∧ hp = 1 ∧ pl = nI L ∧ ∀ j, j < L → pa j = py j
theorem cx_Wt_0 (wt : Nat → Int32) : cx_Wt (-1) 0 wt := Or.inl ⟨rfl, rfl⟩
theorem cx_Pt_0 (pl : Int32) (pa py : Nat → Int32) : cx_Pt (-1) 0 pl pa py := Or.inl ⟨rfl, rfl⟩
/-! the reference's reading of the same picture -/
theorem cx_Co_0 {P : Nat} {K : Nat → Nat} {va st ni vl s6 : Nat → Int32} (h : cx_B P K va st ni vl s6) {p q x : Nat} (hp : p < P) (hq : q < P) (hx : x < 2 ^ 31) : st ((p * 7 + 0) * 4 + q) ≤ nI x := by
  rw [((h p hp).2.2 q hq).1]
  exact nI_pos' hx
