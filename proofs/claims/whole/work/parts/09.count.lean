/-! counts and the best cut, on both sides -/
theorem cx_count (W : Nat → Nat → Int32 → Prop) (e : Nat) (Q : Nat → Prop) (hx : ∀ n, W (n + 1) e (nI (cx_n Q e)))
    (hs : ∀ n i s, i < e → (Q i → W n (i + 1) (s + 1)) → (¬ Q i → W n (i + 1) s) → W (n + 1) i s) : ∃ n, W n 0 0 := by
  have h := cx_fold W e (fun i => nI (cx_n Q i)) hx (fun n i hi k => hs n i _ hi
    (fun q => by
      have k' : W n (i + 1) (nI (cx_n Q (i + 1))) := k
      rw [nI_1, ← cx_n_t q]
      exact k')
    (fun q => by
      have k' : W n (i + 1) (nI (cx_n Q (i + 1))) := k
      rw [← cx_n_f q]
      exact k'))
  exact h
theorem cx_m1 {b : Nat} (h : b < 2 ^ 31) : ¬ nI b = -1 := by
  intro e
  have h1 := nI_toInt h
  rw [e] at h1
  have h2 : (-1 : Int32).toInt = -1 := by decide
  omega
section
variable {P : Nat} {K : Nat → Nat} {f_procs f_maxEvents f_messages f_mode f_threshold f_witnessCut f_pathSteps : Int32} {a_counts a_values a_stamps a_senders a_sendSlots a_received a_lows a_highs a_path a_avoidable : Nat → Int32}
theorem xw_cc {post : Int32 → Prop} (hP : P ≤ 4) (hcn : ∀ i, a_counts i = nI (K i)) (hK : ∀ p, p < 4 → K p ≤ 6) (h : post (nI (cx_n (fun c => cx_V P K a_stamps (cx_d8 c)) 4096))) :
    wpX_countConsistent post (nI P, f_maxEvents, f_messages, f_mode, f_threshold, f_witnessCut, f_pathSteps, a_counts, a_values, a_stamps, a_senders, a_sendSlots, a_received, a_lows, a_highs, a_path, a_avoidable) :=
  cx_count (fun n i s => wX_countConsistent_4 post (nI P) f_maxEvents f_messages f_mode f_threshold f_witnessCut f_pathSteps a_counts a_values a_stamps a_senders a_sendSlots a_received a_lows a_highs a_path a_avoidable n s (nI i)) 4096 (fun c => cx_V P K a_stamps (cx_d8 c))
    (fun n => br_t (nI_le (a := 4096) (b := 4096) (Nat.le_refl _) (by omega)) h)
    (fun n i s hi t f => br_f (nI_ge (b := 4096) hi (by omega)) (xw_state hi hP hcn hK
      (fun nv => br_f (by decide) (br_f (by decide) (nm_r (nI_1 i) (f (fun v => nv v.1)))))
      (fun _ nc => br_f (by decide) (br_f (by decide) (nm_r (nI_1 i) (f (fun v => nc v.2)))))
      (fun v _ => br_t rfl (nm_e (nm_r (nI_1 i) (t v))))
      (fun v _ => br_f (by decide) (br_t rfl (nm_e (nm_r (nI_1 i) (t v)))))))
theorem xw_cs {post : Int32 → Prop} (hP : P ≤ 4) (hcn : ∀ i, a_counts i = nI (K i)) (hK : ∀ p, p < 4 → K p ≤ 6) (h : post (nI (cx_n (fun c => cx_Q P K a_stamps f_mode f_threshold a_values a_lows a_highs (cx_d8 c)) 4096))) :
    wpX_countSatisfying post (nI P, f_maxEvents, f_messages, f_mode, f_threshold, f_witnessCut, f_pathSteps, a_counts, a_values, a_stamps, a_senders, a_sendSlots, a_received, a_lows, a_highs, a_path, a_avoidable) :=
  cx_count (fun n i s => wX_countSatisfying_4 post (nI P) f_maxEvents f_messages f_mode f_threshold f_witnessCut f_pathSteps a_counts a_values a_stamps a_senders a_sendSlots a_received a_lows a_highs a_path a_avoidable n s (nI i)) 4096 (fun c => cx_Q P K a_stamps f_mode f_threshold a_values a_lows a_highs (cx_d8 c))
    (fun n => br_t (nI_le (a := 4096) (b := 4096) (Nat.le_refl _) (by omega)) h)
    (fun n i s hi t f => br_f (nI_ge (b := 4096) hi (by omega)) (xw_state hi hP hcn hK
      (fun nv => br_f (by decide) (nm_r (nI_1 i) (f (fun v => nv v.1.1))))
      (fun _ nc => br_f (by decide) (nm_r (nI_1 i) (f (fun v => nc v.1.2))))
      (fun _ ns => br_f (by decide) (nm_r (nI_1 i) (f (fun v => ns v.2))))
      (fun v s => br_t rfl (nm_e (nm_r (nI_1 i) (t ⟨v, s⟩))))))
theorem xw_possibly {post : Int32 → SX → Prop} (hP : P ≤ 4) (hcn : ∀ i, a_counts i = nI (K i)) (hK : ∀ p, p < 4 → K p ≤ 6)
    (hN : (∀ c, c < 4096 → ¬ cx_Q P K a_stamps f_mode f_threshold a_values a_lows a_highs (cx_d8 c)) → post 0 (nI P, f_maxEvents, f_messages, f_mode, f_threshold, -1, f_pathSteps, a_counts, a_values, a_stamps, a_senders, a_sendSlots, a_received, a_lows, a_highs, a_path, a_avoidable))
    (hS : ∀ b, cx_Bst (cx_Q P K a_stamps f_mode f_threshold a_values a_lows a_highs) cx_d8 4096 b → post 1 (nI P, f_maxEvents, f_messages, f_mode, f_threshold, nI b, f_pathSteps, a_counts, a_values, a_stamps, a_senders, a_sendSlots, a_received, a_lows, a_highs, a_path, a_avoidable)) :
    wpX_possibly post (nI P, f_maxEvents, f_messages, f_mode, f_threshold, f_witnessCut, f_pathSteps, a_counts, a_values, a_stamps, a_senders, a_sendSlots, a_received, a_lows, a_highs, a_path, a_avoidable) :=
  cx_inv (σ := Int32 × Int32) (fun n i s => wX_possibly_7 post (nI P) f_maxEvents f_messages f_mode f_threshold f_witnessCut f_pathSteps a_counts a_values a_stamps a_senders a_sendSlots a_received a_lows a_highs a_path a_avoidable n s.1 s.2 (nI i)) (fun i s => cx_PI (cx_Q P K a_stamps f_mode f_threshold a_values a_lows a_highs) i s.1 s.2) 4096 (-1, 25) (cx_PI_0 _)
    (fun n s I => br_t (nI_le (a := 4096) (b := 4096) (Nat.le_refl _) (by omega)) (by
      obtain ⟨x1, x2⟩ := s
      obtain ⟨B, _, _, I⟩ := I
      rcases I with ⟨e, _, I⟩ | ⟨b, e, _, I⟩
      · have e' : x1 = -1 := e
        subst e'
        exact br_t rfl (hN I)
      · have e' : x1 = nI b := e
        subst e'
        exact br_f (cx_m1 (by have := I.1; omega)) (hS b I)))
    (fun n i s hi I k => br_f (nI_ge (b := 4096) hi (by omega)) (xw_level hi (by
      have q24 : cx_Q P K a_stamps f_mode f_threshold a_values a_lows a_highs (cx_d8 i) → cx_lv (cx_d8 i) ≤ 24 := fun q => cx_lv_24 q.1.1 hK
      refine br_c (fun le => nm_r (nI_1 i) (k s (cx_PI_keep I q24 (fun _ => Int32.not_lt.mpr le)))) (fun nle => xw_state hi hP hcn hK ?_ ?_ ?_ ?_)
      · exact fun nv => br_f (by decide) (nm_r (nI_1 i) (k s (cx_PI_keep I q24 (fun q => absurd q.1.1 nv))))
      · exact fun _ nc => br_f (by decide) (nm_r (nI_1 i) (k s (cx_PI_keep I q24 (fun q => absurd q.1.2 nc))))
      · exact fun _ ns => br_f (by decide) (nm_r (nI_1 i) (k s (cx_PI_keep I q24 (fun q => absurd q.2 ns))))
      · exact fun v sa => br_t rfl (nm_r (nI_1 i) (k (nI i, nI (cx_lv (cx_d8 i))) (cx_PI_new I ⟨v, sa⟩ (cx_lv_28 i) (Int32.not_le.mp nle)))))))
end
section
variable {P : Nat} {K : Nat → Nat} {va st : Nat → Int32} {f_procs f_maxEv f_mode f_thr f_msgCount f_hasWit f_hasPath f_pathLen : Int32} {a_init a_lo a_hi a_cnt a_val a_st a_msgP a_msgK a_msgRecv a_wit a_path a_reach : Nat → Int32}
theorem yw_cc {post : Int32 → Prop} (hP : P ≤ 4) (hcn : ∀ i, a_cnt i = nI (K i)) (hK : ∀ p, p < 4 → K p ≤ 6) (hB : cx_B P K va st a_init a_val a_st) (h : post (nI (cx_n (fun c => cx_V P K st (cx_d7 c)) 2401))) :
    wpY_countConsistent post (nI P, f_maxEv, f_mode, f_thr, f_msgCount, f_hasWit, f_hasPath, f_pathLen, a_init, a_lo, a_hi, a_cnt, a_val, a_st, a_msgP, a_msgK, a_msgRecv, a_wit, a_path, a_reach) :=
  cx_count (fun n i s => wY_countConsistent_4 post (nI P) f_maxEv f_mode f_thr f_msgCount f_hasWit f_hasPath f_pathLen a_init a_lo a_hi a_cnt a_val a_st a_msgP a_msgK a_msgRecv a_wit a_path a_reach n s (nI i)) 2401 (fun c => cx_V P K st (cx_d7 c))
    (fun n => br_t (nI_le (a := 2401) (b := 2401) (Nat.le_refl _) (by omega)) h)
    (fun n i s hi t f => br_f (nI_ge (b := 2401) hi (by omega)) (yw_valid hi hcn hK
      (fun v => br_f xw_10 (yw_cons hi hP hB v
        (fun co => br_f xw_10 (nm_e (nm_r (nI_1 i) (t ⟨v, co⟩))))
        (fun nc => br_t rfl (nm_r (nI_1 i) (f (fun z => nc z.2))))))
      (fun nv => br_t rfl (nm_r (nI_1 i) (f (fun z => nv z.1))))))
theorem yw_cs {post : Int32 → Prop} (hP : P ≤ 4) (hcn : ∀ i, a_cnt i = nI (K i)) (hK : ∀ p, p < 4 → K p ≤ 6) (hB : cx_B P K va st a_init a_val a_st) (h : post (nI (cx_n (fun c => cx_Q P K st f_mode f_thr va a_lo a_hi (cx_d7 c)) 2401))) :
    wpY_countSatisfying post (nI P, f_maxEv, f_mode, f_thr, f_msgCount, f_hasWit, f_hasPath, f_pathLen, a_init, a_lo, a_hi, a_cnt, a_val, a_st, a_msgP, a_msgK, a_msgRecv, a_wit, a_path, a_reach) :=
  cx_count (fun n i s => wY_countSatisfying_4 post (nI P) f_maxEv f_mode f_thr f_msgCount f_hasWit f_hasPath f_pathLen a_init a_lo a_hi a_cnt a_val a_st a_msgP a_msgK a_msgRecv a_wit a_path a_reach n s (nI i)) 2401 (fun c => cx_Q P K st f_mode f_thr va a_lo a_hi (cx_d7 c))
    (fun n => br_t (nI_le (a := 2401) (b := 2401) (Nat.le_refl _) (by omega)) h)
    (fun n i s hi t f => br_f (nI_ge (b := 2401) hi (by omega)) (yw_valid hi hcn hK
      (fun v => br_f xw_10 (yw_cons hi hP hB v
        (fun co => br_f xw_10 (yw_sat hi hP hB v
          (fun sa => br_f xw_10 (nm_e (nm_r (nI_1 i) (t ⟨⟨v, co⟩, sa⟩))))
          (fun ns => br_t rfl (nm_r (nI_1 i) (f (fun z => ns z.2))))))
        (fun nc => br_t rfl (nm_r (nI_1 i) (f (fun z => nc z.1.2))))))
      (fun nv => br_t rfl (nm_r (nI_1 i) (f (fun z => nv z.1.1))))))
theorem yw_wit {post : Int32 → SY → Prop} {c : Nat} (hc : c < 2401) (h : ∀ wt : Nat → Int32, (∀ p, p < 4 → wt p = nI (cx_d7 c p)) → post 1 (f_procs, f_maxEv, f_mode, f_thr, f_msgCount, 1, f_hasPath, f_pathLen, a_init, a_lo, a_hi, a_cnt, a_val, a_st, a_msgP, a_msgK, a_msgRecv, wt, a_path, a_reach)) :
    ∃ n, wY_possibly_80 post (nI c) f_procs f_maxEv f_mode f_thr f_msgCount f_hasWit f_hasPath f_pathLen n 0 a_init a_lo a_hi a_cnt a_val a_st a_msgP a_msgK a_msgRecv a_wit a_path a_reach :=
  cx_inv (fun n i s => wY_possibly_80 post (nI c) f_procs f_maxEv f_mode f_thr f_msgCount f_hasWit f_hasPath f_pathLen n (nI i) a_init a_lo a_hi a_cnt a_val a_st a_msgP a_msgK a_msgRecv s a_path a_reach) (fun i s => ∀ p, p < i → s p = nI (cx_d7 c p)) 4 a_wit (fun p hp => absurd hp (Nat.not_lt_zero p))
    (fun n s I => br_t (nI_le (a := 4) (b := 4) (Nat.le_refl _) (by omega)) (h s I))
    (fun n i s hi I k => br_f (nI_ge (b := 4) hi (by omega)) (yw_digit hc hi ⟨vp_in_nI hi (by omega), by
      rw [nI_clamp (n := i) (by omega)]
      refine nm_e (nm_r (nI_1 i) (k _ (fun p hp => ?_)))
      by_cases e : p = i
      · rw [e, pk_us]
      · rw [pk_un e]
        exact I p (by omega)⟩))
theorem yw_total (hcn : ∀ i, a_cnt i = nI (K i)) : ((a_cnt 0 + a_cnt 1) + a_cnt 2) + a_cnt 3 = nI (cx_lv K) := by
  rw [hcn, hcn, hcn, hcn, nI_add, nI_add, nI_add]
  rfl
theorem yw_possibly {post : Int32 → SY → Prop} (hP : P ≤ 4) (hcn : ∀ i, a_cnt i = nI (K i)) (hK : ∀ p, p < 4 → K p ≤ 6) (hB : cx_B P K va st a_init a_val a_st)
    (hN : (∀ c, c < 2401 → ¬ cx_Q P K st f_mode f_thr va a_lo a_hi (cx_d7 c)) → post 0 (nI P, f_maxEv, f_mode, f_thr, f_msgCount, 0, f_hasPath, f_pathLen, a_init, a_lo, a_hi, a_cnt, a_val, a_st, a_msgP, a_msgK, a_msgRecv, a_wit, a_path, a_reach))
    (hS : ∀ (b : Nat) (wt : Nat → Int32), cx_Bst (cx_Q P K st f_mode f_thr va a_lo a_hi) cx_d7 2401 b → (∀ p, p < 4 → wt p = nI (cx_d7 b p)) → post 1 (nI P, f_maxEv, f_mode, f_thr, f_msgCount, 1, f_hasPath, f_pathLen, a_init, a_lo, a_hi, a_cnt, a_val, a_st, a_msgP, a_msgK, a_msgRecv, wt, a_path, a_reach)) :
    wpY_possibly post (nI P, f_maxEv, f_mode, f_thr, f_msgCount, f_hasWit, f_hasPath, f_pathLen, a_init, a_lo, a_hi, a_cnt, a_val, a_st, a_msgP, a_msgK, a_msgRecv, a_wit, a_path, a_reach) := by
  have T24 := cx_lv_6 hK
  refine nm_r (yw_total hcn) ?_
  refine cx_fst (fun n l => wY_possibly_30 post (nI (cx_lv K)) (nI P) f_maxEv f_mode f_thr f_msgCount f_hasWit f_hasPath f_pathLen a_init a_lo a_hi a_cnt a_val a_st a_msgP a_msgK a_msgRecv a_wit a_path a_reach n (nI l)) (cx_lv K + 1)
    (fun l => ∃ c, c < 2401 ∧ cx_Q P K st f_mode f_thr va a_lo a_hi (cx_d7 c) ∧ cx_lv (cx_d7 c) = l)
    (N := post 0 (nI P, f_maxEv, f_mode, f_thr, f_msgCount, 0, f_hasPath, f_pathLen, a_init, a_lo, a_hi, a_cnt, a_val, a_st, a_msgP, a_msgK, a_msgRecv, a_wit, a_path, a_reach))
    (F := fun l => ∀ c, c < 2401 → (cx_Q P K st f_mode f_thr va a_lo a_hi (cx_d7 c) ∧ cx_lv (cx_d7 c) = l) → (∀ j, j < c → ¬ (cx_Q P K st f_mode f_thr va a_lo a_hi (cx_d7 j) ∧ cx_lv (cx_d7 j) = l)) → ∃ n, wY_possibly_80 post (nI c) (nI P) f_maxEv f_mode f_thr f_msgCount f_hasWit f_hasPath f_pathLen n 0 a_init a_lo a_hi a_cnt a_val a_st a_msgP a_msgK a_msgRecv a_wit a_path a_reach)
    (fun l _ _ least c hc q lst => ?_) (fun none => hN (fun c hc q => none (cx_lv (cx_d7 c)) (by have := cx_lv_le q.1.1; omega) ⟨c, hc, q, rfl⟩))
    (fun n t => br_t (nI_lt (by omega) (by omega)) t)
    (fun n l hl nb b => br_f (nI_nlt (by omega) (by omega)) ?_)
  · refine yw_wit hc (fun wt hw => hS c wt ⟨hc, q.1, fun c' hc' q' => ?_⟩ hw)
    have e := q.2
    by_cases g : cx_lv (cx_d7 c') < l
    · exact absurd ⟨c', hc', q', rfl⟩ (least _ g)
    · by_cases g2 : cx_lv (cx_d7 c') = l
      · have : ¬ c' < c := fun z => lst c' z ⟨q', g2⟩
        omega
      · omega
  · refine cx_fst (fun m c => wY_possibly_37 post (wY_possibly_30 post (nI (cx_lv K)) (nI P) f_maxEv f_mode f_thr f_msgCount f_hasWit f_hasPath f_pathLen a_init a_lo a_hi a_cnt a_val a_st a_msgP a_msgK a_msgRecv a_wit a_path a_reach n) (nI (cx_lv K)) (nI l) (nI P) f_maxEv f_mode f_thr f_msgCount f_hasWit f_hasPath f_pathLen a_init a_lo a_hi a_cnt a_val a_st a_msgP a_msgK a_msgRecv a_wit a_path a_reach m (nI c)) 2401
      (fun c => cx_Q P K st f_mode f_thr va a_lo a_hi (cx_d7 c) ∧ cx_lv (cx_d7 c) = l)
      (N := wY_possibly_30 post (nI (cx_lv K)) (nI P) f_maxEv f_mode f_thr f_msgCount f_hasWit f_hasPath f_pathLen a_init a_lo a_hi a_cnt a_val a_st a_msgP a_msgK a_msgRecv a_wit a_path a_reach n (nI (l + 1)))
      (F := fun c => ∃ n, wY_possibly_80 post (nI c) (nI P) f_maxEv f_mode f_thr f_msgCount f_hasWit f_hasPath f_pathLen n 0 a_init a_lo a_hi a_cnt a_val a_st a_msgP a_msgK a_msgRecv a_wit a_path a_reach)
      (fun c hc q lst => b ⟨c, hc, q⟩ c hc q lst) (fun none => nb (fun z => by obtain ⟨c, hc, q⟩ := z; exact none c hc q))
      (fun m t => br_t (nI_le (a := 2401) (b := 2401) (Nat.le_refl _) (by omega)) (nm_r (nI_1 l) t))
      (fun m c hc nb' b' => br_f (nI_ge (b := 2401) hc (by omega)) ?_)
    refine yw_valid hc hcn hK (fun v => br_f xw_10 (yw_level hc ?_)) (fun nv => br_t rfl (nm_r (nI_1 c) (nb' (fun z => nv z.1.1.1))))
    have l24 := cx_lv_24 v hK
    refine cx_eq (by omega) (by omega) (fun e => ?_) (fun ne => nm_r (nI_1 c) (nb' (fun z => ne z.2)))
    refine yw_cons hc hP hB v (fun co => br_f xw_10 ?_) (fun nc => br_t rfl (nm_r (nI_1 c) (nb' (fun z => nc z.1.1.2))))
    exact yw_sat hc hP hB v (fun sa => br_f xw_10 (b' ⟨⟨⟨v, co⟩, sa⟩, e⟩)) (fun ns => br_t rfl (nm_r (nI_1 c) (nb' (fun z => ns z.1.2))))
end
