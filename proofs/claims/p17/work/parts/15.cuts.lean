theorem cx_dd (a b c e : Nat) : ∃ d : Nat → Nat, d 0 = a ∧ d 1 = b ∧ d 2 = c ∧ d 3 = e ∧ ∀ p, 4 ≤ p → d p = 0 :=
  ⟨fun p => if p = 0 then a else if p = 1 then b else if p = 2 then c else if p = 3 then e else 0, rfl, rfl, rfl, rfl, fun p hp => by
    show (if p = 0 then a else if p = 1 then b else if p = 2 then c else if p = 3 then e else 0) = 0
    rw [if_neg (by omega), if_neg (by omega), if_neg (by omega), if_neg (by omega)]⟩
section
variable {P : Nat} {K : Nat → Nat} {x0 x1 x2 x3 : Int32} {f_procs f_maxEvents f_messages f_mode f_threshold f_witnessCut f_pathSteps : Int32} {a_counts a_values a_stamps a_senders a_sendSlots a_received a_lows a_highs a_path a_avoidable : Nat → Int32}
theorem xw_cut0 {post : Int32 → Prop} (h : ¬ (cx_Ok x0 7 ∧ cx_Ok x1 7 ∧ cx_Ok x2 7 ∧ cx_Ok x3 7)) (h0 : post 0) : wpX_cutState post (f_procs, f_maxEvents, f_messages, f_mode, f_threshold, f_witnessCut, f_pathSteps, a_counts, a_values, a_stamps, a_senders, a_sendSlots, a_received, a_lows, a_highs, a_path, a_avoidable) x0 x1 x2 x3 := by
  unfold wpX_cutState
  refine xw_fits (fun o0 => br_f xw_10 ?_) (fun _ => br_t rfl h0)
  refine xw_fits (fun o1 => br_f xw_10 ?_) (fun _ => br_t rfl h0)
  refine xw_fits (fun o2 => br_f xw_10 ?_) (fun _ => br_t rfl h0)
  exact xw_fits (fun o3 => absurd ⟨o0, o1, o2, o3⟩ h) (fun _ => br_t rfl h0)
theorem xw_cut {post : Int32 → Prop} {d : Nat → Nat} (hP : P ≤ 4) (hcn : ∀ i, a_counts i = nI (K i)) (hK : ∀ p, p < 4 → K p ≤ 6) (h8 : ∀ p, p < 4 → d p < 8) (h4 : ∀ p, 4 ≤ p → d p = 0)
    (h0 : ¬ cx_Va K d → post 0) (h1 : cx_Va K d → ¬ cx_Co P a_stamps d → post 1)
    (h2 : cx_V P K a_stamps d → ¬ cx_Sa P f_mode f_threshold a_values a_lows a_highs d → post 2) (h3 : cx_V P K a_stamps d → cx_Sa P f_mode f_threshold a_values a_lows a_highs d → post 3) :
    wpX_cutState post (nI P, f_maxEvents, f_messages, f_mode, f_threshold, f_witnessCut, f_pathSteps, a_counts, a_values, a_stamps, a_senders, a_sendSlots, a_received, a_lows, a_highs, a_path, a_avoidable) (nI (d 0)) (nI (d 1)) (nI (d 2)) (nI (d 3)) := by
  have d0 := h8 0 (by omega)
  have d1 := h8 1 (by omega)
  have d2 := h8 2 (by omega)
  have d3 := h8 3 (by omega)
  have hc := cx_c8_lt h8
  have hd := cx_8_of h8 h4
  unfold wpX_cutState
  refine xw_fits (fun _ => br_f xw_10 ?_) (fun n => absurd ⟨d 0, by omega, rfl⟩ n)
  refine xw_fits (fun _ => br_f xw_10 ?_) (fun n => absurd ⟨d 1, by omega, rfl⟩ n)
  refine xw_fits (fun _ => br_f xw_10 ?_) (fun n => absurd ⟨d 2, by omega, rfl⟩ n)
  refine xw_fits (fun _ => br_f xw_10 ?_) (fun n => absurd ⟨d 3, by omega, rfl⟩ n)
  have sh : ∀ {n : Nat}, n < 4096 → nI n <<< ((3 : Int32) &&& 31) = nI (n * 8) := fun {n} hn => pk_shlN (n := n) _ 3 (by decide) (by omega)
  refine nm_r (e' := nI (d 0 * 8 + d 1)) (by rw [sh (by omega), nI_add]) ?_
  refine nm_r (e' := nI ((d 0 * 8 + d 1) * 8 + d 2)) (by rw [sh (by omega), nI_add]) ?_
  refine nm_r (e' := nI (cx_c8 d)) (by rw [sh (by omega), nI_add]; exact congrArg nI (by unfold cx_c8; omega)) ?_
  refine xw_state hc hP hcn hK ?_ ?_ ?_ ?_
  · rw [hd]; exact h0
  · rw [hd]; exact h1
  · rw [hd]; exact h2
  · rw [hd]; exact h3
end
