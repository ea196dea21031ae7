def cx_pl (d : Nat → Nat) : Nat → Nat
  | 0 => 0
  | n + 1 => cx_pl d n + d n
theorem cx_pl_4 (d : Nat → Nat) : cx_pl d 4 = cx_lv d := by
  show 0 + d 0 + d 1 + d 2 + d 3 = d 0 + d 1 + d 2 + d 3
  omega
theorem xw_level {post : Int32 → Prop} {c : Nat} (hc : c < 4096) (h : post (nI (cx_lv (cx_d8 c)))) : wpX_levelOf post () (nI c) := by
  rw [← cx_pl_4] at h
  exact cx_fold (fun n i s => wX_levelOf_4 post (nI c) n s (nI i)) 4 (fun i => nI (cx_pl (cx_d8 c) i))
    (fun n => br_t (nI_le (a := 4) (b := 4) (Nat.le_refl _) (by omega)) h)
    (fun n i hi k => br_f (nI_ge (b := 4) hi (by omega)) (xw_index hc hi (nm_r (nI_add _ _) (nm_r (nI_1 i) k))))
/-! counts and the best cut, on both sides -/
theorem cx_count (W : Nat → Nat → Int32 → Prop) (e : Nat) (Q : Nat → Prop) (hx : ∀ n, W (n + 1) e (nI (cx_n Q e)))
    (hs : ∀ n i s, i < e → (Q i → W n (i + 1) (s + 1)) → (¬ Q i → W n (i + 1) s) → W (n + 1) i s) : ∃ n, W n 0 0 := by
  have h := cx_fold W e (fun i => nI (cx_n Q i)) hx (fun n i hi k => hs n i _ hi
    (fun q => by
      have k' : W n (i + 1) (nI (cx_n Q (i + 1))) := k
      rw [nI_1, ← cx_n_t q]
      exact k')
    (fun q => by
      have k' : W n (i + 1) (nI (cx_n Q (i + 1))) := k
      rw [← cx_n_f q]
      exact k'))
  exact h
theorem cx_m1 {b : Nat} (h : b < 2 ^ 31) : ¬ nI b = -1 := by
  intro e
  have h1 := nI_toInt h
  rw [e] at h1
  have h2 : (-1 : Int32).toInt = -1 := by decide
  omega
section
variable {P : Nat} {K : Nat → Nat} {f_procs f_maxEvents f_messages f_mode f_threshold f_witnessCut f_pathSteps : Int32} {a_counts a_values a_stamps a_senders a_sendSlots a_received a_lows a_highs a_path a_avoidable : Nat → Int32}
theorem xw_cc {post : Int32 → Prop} (hP : P ≤ 4) (hcn : ∀ i, a_counts i = nI (K i)) (hK : ∀ p, p < 4 → K p ≤ 6) (h : post (nI (cx_n (fun c => cx_V P K a_stamps (cx_d8 c)) 4096))) :
    wpX_countConsistent post (nI P, f_maxEvents, f_messages, f_mode, f_threshold, f_witnessCut, f_pathSteps, a_counts, a_values, a_stamps, a_senders, a_sendSlots, a_received, a_lows, a_highs, a_path, a_avoidable) :=
  cx_count (fun n i s => wX_countConsistent_4 post (nI P) f_maxEvents f_messages f_mode f_threshold f_witnessCut f_pathSteps a_counts a_values a_stamps a_senders a_sendSlots a_received a_lows a_highs a_path a_avoidable n s (nI i)) 4096 (fun c => cx_V P K a_stamps (cx_d8 c))
    (fun n => br_t (nI_le (a := 4096) (b := 4096) (Nat.le_refl _) (by omega)) h)
    (fun n i s hi t f => br_f (nI_ge (b := 4096) hi (by omega)) (xw_state hi hP hcn hK
      (fun nv => br_f (by decide) (br_f (by decide) (nm_r (nI_1 i) (f (fun v => nv v.1)))))
      (fun _ nc => br_f (by decide) (br_f (by decide) (nm_r (nI_1 i) (f (fun v => nc v.2)))))
      (fun v _ => br_t rfl (nm_e (nm_r (nI_1 i) (t v))))
      (fun v _ => br_f (by decide) (br_t rfl (nm_e (nm_r (nI_1 i) (t v)))))))
theorem xw_cs {post : Int32 → Prop} (hP : P ≤ 4) (hcn : ∀ i, a_counts i = nI (K i)) (hK : ∀ p, p < 4 → K p ≤ 6) (h : post (nI (cx_n (fun c => cx_Q P K a_stamps f_mode f_threshold a_values a_lows a_highs (cx_d8 c)) 4096))) :
    wpX_countSatisfying post (nI P, f_maxEvents, f_messages, f_mode, f_threshold, f_witnessCut, f_pathSteps, a_counts, a_values, a_stamps, a_senders, a_sendSlots, a_received, a_lows, a_highs, a_path, a_avoidable) :=
  cx_count (fun n i s => wX_countSatisfying_4 post (nI P) f_maxEvents f_messages f_mode f_threshold f_witnessCut f_pathSteps a_counts a_values a_stamps a_senders a_sendSlots a_received a_lows a_highs a_path a_avoidable n s (nI i)) 4096 (fun c => cx_Q P K a_stamps f_mode f_threshold a_values a_lows a_highs (cx_d8 c))
    (fun n => br_t (nI_le (a := 4096) (b := 4096) (Nat.le_refl _) (by omega)) h)
    (fun n i s hi t f => br_f (nI_ge (b := 4096) hi (by omega)) (xw_state hi hP hcn hK
      (fun nv => br_f (by decide) (nm_r (nI_1 i) (f (fun v => nv v.1.1))))
      (fun _ nc => br_f (by decide) (nm_r (nI_1 i) (f (fun v => nc v.1.2))))
      (fun _ ns => br_f (by decide) (nm_r (nI_1 i) (f (fun v => ns v.2))))
      (fun v s => br_t rfl (nm_e (nm_r (nI_1 i) (t ⟨v, s⟩))))))
theorem xw_possibly {post : Int32 → St2 → Prop} (hP : P ≤ 4) (hcn : ∀ i, a_counts i = nI (K i)) (hK : ∀ p, p < 4 → K p ≤ 6)
    (hN : (∀ c, c < 4096 → ¬ cx_Q P K a_stamps f_mode f_threshold a_values a_lows a_highs (cx_d8 c)) → post 0 (nI P, f_maxEvents, f_messages, f_mode, f_threshold, -1, f_pathSteps, a_counts, a_values, a_stamps, a_senders, a_sendSlots, a_received, a_lows, a_highs, a_path, a_avoidable))
    (hS : ∀ b, cx_Bst (cx_Q P K a_stamps f_mode f_threshold a_values a_lows a_highs) cx_d8 4096 b → post 1 (nI P, f_maxEvents, f_messages, f_mode, f_threshold, nI b, f_pathSteps, a_counts, a_values, a_stamps, a_senders, a_sendSlots, a_received, a_lows, a_highs, a_path, a_avoidable)) :
    wpX_possibly post (nI P, f_maxEvents, f_messages, f_mode, f_threshold, f_witnessCut, f_pathSteps, a_counts, a_values, a_stamps, a_senders, a_sendSlots, a_received, a_lows, a_highs, a_path, a_avoidable) :=
  cx_inv (σ := Int32 × Int32) (fun n i s => wX_possibly_7 post (nI P) f_maxEvents f_messages f_mode f_threshold f_witnessCut f_pathSteps a_counts a_values a_stamps a_senders a_sendSlots a_received a_lows a_highs a_path a_avoidable n s.1 s.2 (nI i)) (fun i s => cx_PI (cx_Q P K a_stamps f_mode f_threshold a_values a_lows a_highs) i s.1 s.2) 4096 (-1, 25) (cx_PI_0 _)
    (fun n s I => br_t (nI_le (a := 4096) (b := 4096) (Nat.le_refl _) (by omega)) (by
      obtain ⟨x1, x2⟩ := s
      obtain ⟨B, _, _, I⟩ := I
      rcases I with ⟨e, _, I⟩ | ⟨b, e, _, I⟩
      · have e' : x1 = -1 := e
        subst e'
        exact br_t rfl (hN I)
      · have e' : x1 = nI b := e
        subst e'
        exact br_f (cx_m1 (by have := I.1; omega)) (hS b I)))
    (fun n i s hi I k => br_f (nI_ge (b := 4096) hi (by omega)) (xw_level hi (by
      have q24 : cx_Q P K a_stamps f_mode f_threshold a_values a_lows a_highs (cx_d8 i) → cx_lv (cx_d8 i) ≤ 24 := fun q => cx_lv_24 q.1.1 hK
      refine br_c (fun le => nm_r (nI_1 i) (k s (cx_PI_keep I q24 (fun _ => Int32.not_lt.mpr le)))) (fun nle => xw_state hi hP hcn hK ?_ ?_ ?_ ?_)
      · exact fun nv => br_f (by decide) (nm_r (nI_1 i) (k s (cx_PI_keep I q24 (fun q => absurd q.1.1 nv))))
      · exact fun _ nc => br_f (by decide) (nm_r (nI_1 i) (k s (cx_PI_keep I q24 (fun q => absurd q.1.2 nc))))
      · exact fun _ ns => br_f (by decide) (nm_r (nI_1 i) (k s (cx_PI_keep I q24 (fun q => absurd q.2 ns))))
      · exact fun v sa => br_t rfl (nm_r (nI_1 i) (k (nI i, nI (cx_lv (cx_d8 i))) (cx_PI_new I ⟨v, sa⟩ (cx_lv_28 i) (Int32.not_le.mp nle)))))))
end
