/-! the component's reading methods, each with a general post -/
theorem xw_index {post : Int32 → Prop} {c p : Nat} (hc : c < 4096) (hp : p < 4) (h : post (nI (cx_d8 c p))) : wpX_indexIn post () (nI c) (nI p) := by
  show post ((nI c >>> ((9 - nI p * 3) &&& 31)) &&& 7)
  rw [cx_ix hc hp]
  exact h
theorem xw_slot {post : Int32 → Prop} {p k : Nat} (h : post (nI (p * 7 + k))) : wpX_slotOf post () (nI p) (nI k) := by
  show post (nI p * 7 + nI k)
  rw [cx_sl]
  exact h
theorem xw_step {post : Int32 → Prop} {c p : Nat} (hp : p < 4) (h : post (nI (c + cx_w8 p))) : wpX_stepFrom post () (nI c) (nI p) := by
  show post (nI c + ((1 : Int32) <<< ((9 - nI p * 3) &&& 31)))
  rw [cx_sf hp]
  exact h
theorem xw_10 : ¬ (1 : Int32) = 0 := by decide
section
variable {P : Nat} {K : Nat → Nat} {f_procs f_maxEvents f_messages f_mode f_threshold f_witnessCut f_pathSteps : Int32} {a_counts a_values a_stamps a_senders a_sendSlots a_received a_lows a_highs a_path a_avoidable : Nat → Int32}
theorem xw_within {post : Int32 → Prop} {c : Nat} (hc : c < 4096) (hcn : ∀ i, a_counts i = nI (K i)) (hK : ∀ p, p < 4 → K p ≤ 6) (hT : cx_Va K (cx_d8 c) → post 1) (hF : ¬ cx_Va K (cx_d8 c) → post 0) :
    wpX_isWithinCounts post (f_procs, f_maxEvents, f_messages, f_mode, f_threshold, f_witnessCut, f_pathSteps, a_counts, a_values, a_stamps, a_senders, a_sendSlots, a_received, a_lows, a_highs, a_path, a_avoidable) (nI c) :=
  cx_all (fun n i => wX_isWithinCounts_2 post (nI c) f_procs f_maxEvents f_messages f_mode f_threshold f_witnessCut f_pathSteps a_counts a_values a_stamps a_senders a_sendSlots a_received a_lows a_highs a_path a_avoidable n (nI i)) 4 (fun p => cx_d8 c p ≤ K p) hT hF
    (fun n t => br_t (nI_le (a := 4) (b := 4) (Nat.le_refl _) (by omega)) t)
    (fun n i hi t f => br_f (nI_ge (b := 4) hi (by omega)) (xw_index hc hi ⟨vp_in_nI hi (by omega), by
      rw [nI_clamp (n := i) (by omega), hcn]
      have := hK i hi
      have := cx_8_lt c i
      exact cx_le (by omega) (by omega) (fun h => nm_r (nI_1 i) (t h)) f⟩))
theorem xw_cons {post : Int32 → Prop} {c : Nat} (hc : c < 4096) (hP : P ≤ 4) (h6 : ∀ p, p < 4 → cx_d8 c p < 7) (hT : cx_Co P a_stamps (cx_d8 c) → post 1) (hF : ¬ cx_Co P a_stamps (cx_d8 c) → post 0) :
    wpX_isConsistent post (nI P, f_maxEvents, f_messages, f_mode, f_threshold, f_witnessCut, f_pathSteps, a_counts, a_values, a_stamps, a_senders, a_sendSlots, a_received, a_lows, a_highs, a_path, a_avoidable) (nI c) :=
  cx_all (fun n i => wX_isConsistent_2 post (nI c) (nI P) f_maxEvents f_messages f_mode f_threshold f_witnessCut f_pathSteps a_counts a_values a_stamps a_senders a_sendSlots a_received a_lows a_highs a_path a_avoidable n (nI i)) P (fun p => ∀ q, q < P → a_stamps ((p * 7 + cx_d8 c p) * 4 + q) ≤ nI (cx_d8 c q)) hT hF
    (fun n t => br_t (nI_le (Nat.le_refl P) (by omega)) t)
    (fun n i hi t f => br_f (nI_ge hi (by omega)) (xw_index hc (by omega) (xw_slot
      (cx_all (fun m j => wX_isConsistent_26 post (wX_isConsistent_2 post (nI c) (nI P) f_maxEvents f_messages f_mode f_threshold f_witnessCut f_pathSteps a_counts a_values a_stamps a_senders a_sendSlots a_received a_lows a_highs a_path a_avoidable n) (nI c) (nI i) (nI (i * 7 + cx_d8 c i)) (nI P) f_maxEvents f_messages f_mode f_threshold f_witnessCut f_pathSteps a_counts a_values a_stamps a_senders a_sendSlots a_received a_lows a_highs a_path a_avoidable m (nI j)) P
        (fun q => a_stamps ((i * 7 + cx_d8 c i) * 4 + q) ≤ nI (cx_d8 c q)) t f
        (fun m t' => br_t (nI_le (Nat.le_refl P) (by omega)) (nm_r (nI_1 i) t'))
        (fun m j hj t' f' => br_f (nI_ge hj (by omega)) (by
          have e := cx_st (i * 7 + cx_d8 c i) j
          have b := h6 i (by omega)
          refine ⟨?_, ?_⟩
          · rw [e]
            exact vp_in_nI (by omega) (by omega)
          · refine xw_index hc (by omega) ?_
            rw [e, nI_clamp (by omega)]
            exact br_c (fun h => nm_r (nI_1 j) (t' h)) f'))))))
theorem xw_bounds {post : Int32 → Prop} {c : Nat} (hc : c < 4096) (hP : P ≤ 4) (h6 : ∀ p, p < 4 → cx_d8 c p < 7) (hT : cx_Wb P a_values a_lows a_highs (cx_d8 c) → post 1) (hF : ¬ cx_Wb P a_values a_lows a_highs (cx_d8 c) → post 0) :
    wpX_isWithinBounds post (nI P, f_maxEvents, f_messages, f_mode, f_threshold, f_witnessCut, f_pathSteps, a_counts, a_values, a_stamps, a_senders, a_sendSlots, a_received, a_lows, a_highs, a_path, a_avoidable) (nI c) :=
  cx_all (fun n i => wX_isWithinBounds_2 post (nI c) (nI P) f_maxEvents f_messages f_mode f_threshold f_witnessCut f_pathSteps a_counts a_values a_stamps a_senders a_sendSlots a_received a_lows a_highs a_path a_avoidable n (nI i)) P (fun p => ¬ a_values (p * 7 + cx_d8 c p) < a_lows p ∧ a_values (p * 7 + cx_d8 c p) ≤ a_highs p) hT hF
    (fun n t => br_t (nI_le (Nat.le_refl P) (by omega)) t)
    (fun n i hi t f => br_f (nI_ge hi (by omega)) (xw_index hc (by omega) (xw_slot (by
      have b := h6 i (by omega)
      refine ⟨vp_in_nI (by omega) (by omega), nm_r (congrArg a_values (nI_clamp (by omega))) ⟨vp_in_nI (by omega) (by omega), ?_⟩⟩
      rw [nI_clamp (n := i) (by omega)]
      exact br_c (fun h => f (fun z => z.1 h)) (fun h => ⟨vp_in_nI (by omega) (by omega), br_c (fun h2 => nm_r (nI_1 i) (t ⟨h, h2⟩)) (fun h2 => f (fun z => h2 z.2))⟩)))))
theorem xw_sum {post : Int64 → Prop} {c : Nat} (hc : c < 4096) (hP : P ≤ 4) (h6 : ∀ p, p < 4 → cx_d8 c p < 7) (h : post (cx_Sm a_values (cx_d8 c) P)) :
    wpX_sumIn post (nI P, f_maxEvents, f_messages, f_mode, f_threshold, f_witnessCut, f_pathSteps, a_counts, a_values, a_stamps, a_senders, a_sendSlots, a_received, a_lows, a_highs, a_path, a_avoidable) (nI c) :=
  cx_fold (fun n i s => wX_sumIn_5 post (nI c) (nI P) f_maxEvents f_messages f_mode f_threshold f_witnessCut f_pathSteps a_counts a_values a_stamps a_senders a_sendSlots a_received a_lows a_highs a_path a_avoidable n s (nI i)) P (cx_Sm a_values (cx_d8 c))
    (fun n => br_t (nI_le (Nat.le_refl P) (by omega)) h)
    (fun n i hi k => br_f (nI_ge hi (by omega)) (xw_index hc (by omega) (xw_slot (by
      have b := h6 i (by omega)
      refine ⟨vp_in_nI (by omega) (by omega), ?_⟩
      rw [nI_clamp (by omega)]
      exact nm_e (nm_r (nI_1 i) k)))))
theorem xw_sat {post : Int32 → Prop} {c : Nat} (hc : c < 4096) (hP : P ≤ 4) (h6 : ∀ p, p < 4 → cx_d8 c p < 7) (hT : cx_Sa P f_mode f_threshold a_values a_lows a_highs (cx_d8 c) → post 1)
    (hF : ¬ cx_Sa P f_mode f_threshold a_values a_lows a_highs (cx_d8 c) → post 0) : wpX_satisfies post (nI P, f_maxEvents, f_messages, f_mode, f_threshold, f_witnessCut, f_pathSteps, a_counts, a_values, a_stamps, a_senders, a_sendSlots, a_received, a_lows, a_highs, a_path, a_avoidable) (nI c) := by
  unfold wpX_satisfies
  refine br_c (fun m0 => ?_) (fun m0 => ?_)
  · exact xw_bounds hc hP h6 (fun w => ⟨rfl, hT ⟨fun _ => w, fun n => absurd m0 n⟩⟩) (fun w => ⟨rfl, hF (fun s => w (s.1 m0))⟩)
  · refine xw_sum hc hP h6 (br_c (fun m1 => ?_) (fun m1 => ?_))
    · exact br_c (fun l => hF (fun s => (s.2 m0).1 m1 l)) (fun l => hT ⟨fun z => absurd z m0, fun _ => ⟨fun _ => l, fun n => absurd m1 n⟩⟩)
    · exact br_c (fun l => hF (fun s => (s.2 m0).2 m1 l)) (fun l => hT ⟨fun z => absurd z m0, fun _ => ⟨fun z => absurd z m1, fun _ => l⟩⟩)
theorem xw_state {post : Int32 → Prop} {c : Nat} (hc : c < 4096) (hP : P ≤ 4) (hcn : ∀ i, a_counts i = nI (K i)) (hK : ∀ p, p < 4 → K p ≤ 6) (h0 : ¬ cx_Va K (cx_d8 c) → post 0) (h1 : cx_Va K (cx_d8 c) → ¬ cx_Co P a_stamps (cx_d8 c) → post 1)
    (h2 : cx_V P K a_stamps (cx_d8 c) → ¬ cx_Sa P f_mode f_threshold a_values a_lows a_highs (cx_d8 c) → post 2) (h3 : cx_V P K a_stamps (cx_d8 c) → cx_Sa P f_mode f_threshold a_values a_lows a_highs (cx_d8 c) → post 3) :
    wpX_stateOf post (nI P, f_maxEvents, f_messages, f_mode, f_threshold, f_witnessCut, f_pathSteps, a_counts, a_values, a_stamps, a_senders, a_sendSlots, a_received, a_lows, a_highs, a_path, a_avoidable) (nI c) := by
  unfold wpX_stateOf
  refine xw_within hc hcn hK (fun v => br_f xw_10 ?_) (fun nv => br_t rfl (h0 nv))
  have h6 : ∀ p, p < 4 → cx_d8 c p < 7 := fun p hp => by have a := v p hp; have b := hK p hp; omega
  refine xw_cons hc hP h6 (fun co => br_f xw_10 ?_) (fun nc => br_t rfl (h1 v nc))
  exact xw_sat hc hP h6 (fun s => br_f xw_10 (h3 ⟨v, co⟩ s)) (fun s => br_t rfl (h2 ⟨v, co⟩ s))
end
