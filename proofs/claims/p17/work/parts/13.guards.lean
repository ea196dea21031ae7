theorem cx_cn_up {K : Nat → Nat} {cn : Nat → Int32} (h : ∀ i, cn i = nI (K i)) (p : Nat) : ∀ i, upd cn p (nI (K p + 1)) i = nI (cx_up K p i) := by
  intro i
  by_cases e : i = p
  · rw [e, pk_us, cx_up_s]
  · rw [pk_un e, cx_up_n e, h]
theorem cx_out {P : Nat} {x : Int32} {A B : Prop} (o : x < 0 ∨ nI P ≤ x) (a : A) : (x < 0 → A) ∧ (¬ x < 0 → ((x < nI P → B) ∧ (¬ x < nI P → A))) :=
  ⟨fun _ => a, fun n => ⟨fun l => o.elim (fun h => absurd h n) (fun h => absurd l (Int32.not_lt.mpr h)), fun _ => a⟩⟩
theorem cx_inn {P j : Nat} {A B : Prop} (hj : j < P) (hP : P ≤ 16) (b : B) : (nI j < 0 → A) ∧ (¬ nI j < 0 → ((nI j < nI P → B) ∧ (¬ nI j < nI P → A))) :=
  br_f (nI_pos (by omega)) (br_t (nI_lt hj (by omega)) b)
def cx_Ok (x : Int32) (k : Nat) : Prop := ∃ j : Nat, j ≤ k ∧ x = nI j
theorem cx_ok {x : Int32} {k : Nat} (hk : k < 2 ^ 31) (n : ¬ x < 0) (m : ¬ nI k < x) : cx_Ok x k := by
  obtain ⟨j, hj, rfl⟩ := nI_of n
  rw [nI_ltI hk hj] at m
  exact ⟨j, by omega, rfl⟩
theorem cx_pos {x : Int32} (h : ¬ x < 1) : ∃ k : Nat, k + 1 < 2 ^ 31 ∧ x = nI (k + 1) := by
  have n : ¬ x < 0 := fun z => h (Int32.lt_trans z (by decide))
  obtain ⟨j, hj, rfl⟩ := nI_of n
  have h' : ¬ nI j < nI 1 := h
  rw [nI_ltI hj (by omega)] at h'
  exact ⟨j - 1, by omega, congrArg nI (by omega)⟩
theorem cx_m1le {x : Int32} (h : ¬ x < 0) : (-1 : Int32) ≤ x := Int32.le_trans (by decide) (Int32.not_lt.mp h)
/-! clamping -/
def cx_Cl (x : Int32) (m j : Nat) : Prop := (¬ 1 ≤ x ∧ j = 1) ∨ (1 ≤ x ∧ x ≤ nI m ∧ x = nI j) ∨ (1 ≤ x ∧ ¬ x ≤ nI m ∧ j = m)
theorem cx_Cl_ex (x : Int32) {m : Nat} (h1 : 1 ≤ m) (h6 : m ≤ 6) : ∃ j, 1 ≤ j ∧ j ≤ m ∧ cx_Cl x m j := by
  by_cases a : 1 ≤ x
  · by_cases b : x ≤ nI m
    · obtain ⟨k, hk, e⟩ := cx_pos (Int32.not_lt.mpr a)
      have b' := b
      rw [e, nI_leI hk (by omega)] at b'
      exact ⟨k + 1, by omega, b', Or.inr (Or.inl ⟨a, b, e⟩)⟩
    · exact ⟨m, h1, Nat.le_refl m, Or.inr (Or.inr ⟨a, b, rfl⟩)⟩
  · exact ⟨1, Nat.le_refl 1, h1, Or.inl ⟨a, rfl⟩⟩
theorem cx_Cl_w {x y : Int32} {m j : Nat} {A B C : Prop} (c : cx_Cl x m j) (hy : y = nI m) (a : x = nI j → A) (b : j = m → B) (d : j = 1 → C) : (1 ≤ x → ((x ≤ y → A) ∧ (¬ x ≤ y → B))) ∧ (¬ 1 ≤ x → C) := by
  subst hy
  rcases c with ⟨h, e⟩ | ⟨h, l, e⟩ | ⟨h, l, e⟩
  · exact br_f h (d e)
  · exact br_t h (br_t l (a e))
  · exact br_t h (br_f l (b e))
section
variable {P E M : Nat} {K : Nat → Nat} {f_procs f_maxEvents f_messages f_mode f_threshold f_witnessCut f_pathSteps : Int32} {a_counts a_values a_stamps a_senders a_sendSlots a_received a_lows a_highs a_path a_avoidable : Nat → Int32}
theorem xw_isProc {post : Int32 → Prop} {x : Int32} (hP : P ≤ 4) (h1 : ∀ j, j < P → x = nI j → post 1) (h0 : (x < 0 ∨ nI P ≤ x) → post 0) : wpX_isProcess post (nI P, f_maxEvents, f_messages, f_mode, f_threshold, f_witnessCut, f_pathSteps, a_counts, a_values, a_stamps, a_senders, a_sendSlots, a_received, a_lows, a_highs, a_path, a_avoidable) x := by
  unfold wpX_isProcess
  refine br_c (fun l => h0 (Or.inl l)) (fun nl => br_c (fun le => h0 (Or.inr le)) (fun nle => ?_))
  rcases pk_ix x (n := P) (by omega) with a | b | ⟨j, hj, e⟩
  · exact absurd a nl
  · exact absurd b nle
  · exact h1 j hj e
theorem xw_room {post : Int32 → Prop} {x : Int32} (hP : P ≤ 4) (hE : E ≤ 6) (hcn : ∀ i, a_counts i = nI (K i)) (hKE : ∀ p, K p ≤ E) (h1 : ∀ j, j < P → x = nI j → K j < E → post 1) (h0 : (x < 0 ∨ nI P ≤ x) → post 0)
    (h0' : ∀ j, j < P → x = nI j → K j = E → post 0) : wpX_hasRoom post (nI P, nI E, f_messages, f_mode, f_threshold, f_witnessCut, f_pathSteps, a_counts, a_values, a_stamps, a_senders, a_sendSlots, a_received, a_lows, a_highs, a_path, a_avoidable) x := by
  unfold wpX_hasRoom
  refine xw_isProc hP (fun j hj e => br_f xw_10 ?_) (fun o => br_t rfl (h0 o))
  subst e
  refine ⟨vp_in_nI (by omega) (by omega), ?_⟩
  rw [nI_clamp (by omega), hcn]
  have := hKE j
  exact cx_le (by omega) (by omega) (fun le => h0' j hj rfl (by omega)) (fun nle => h1 j hj rfl (by omega))
theorem xw_pending {post : Int32 → Prop} {x : Int32} (hM : M ≤ 16) (h1 : ∀ j, j < M → x = nI j → a_received j = 0 → post 1) (h0 : (x < 0 ∨ nI M ≤ x) → post 0) (h0' : ∀ j, j < M → x = nI j → ¬ a_received j = 0 → post 0) :
    wpX_isPending post (f_procs, f_maxEvents, nI M, f_mode, f_threshold, f_witnessCut, f_pathSteps, a_counts, a_values, a_stamps, a_senders, a_sendSlots, a_received, a_lows, a_highs, a_path, a_avoidable) x := by
  unfold wpX_isPending
  refine br_c (fun l => h0 (Or.inl l)) (fun nl => br_c (fun le => h0 (Or.inr le)) (fun nle => ?_))
  rcases pk_ix x (n := M) (by omega) with a | b | ⟨j, hj, e⟩
  · exact absurd a nl
  · exact absurd b nle
  · subst e
    refine ⟨vp_in_nI (by omega) (by omega), ?_⟩
    rw [nI_clamp (by omega)]
    exact br_c (fun z => h1 j hj rfl z) (fun z => h0' j hj rfl z)
theorem xw_fits {post : Int32 → Prop} {x : Int32} (h1 : cx_Ok x 7 → post 1) (h0 : ¬ cx_Ok x 7 → post 0) : wpX_fitsInCode post () x := by
  unfold wpX_fitsInCode
  refine br_c (fun l => h0 (fun z => ?_)) (fun nl => br_c (fun l => h0 (fun z => ?_)) (fun nl2 => h1 (cx_ok (by omega) nl nl2)))
  · obtain ⟨j, hj, rfl⟩ := z
    exact absurd l (nI_pos (by omega))
  · obtain ⟨j, hj, rfl⟩ := z
    exact absurd l (nI_nlt (b := j) (a := 7) (by omega) (by omega))
end
