/-! one cut: its state, its count, its bit -/
section
variable {post : Int32 → Prop} {L P R c kc ks : Nat} {K : Nat → Nat} {xs : Nat → Int32} {J170 : Int32 → Int32 → Int32 → Int32 → Int32 → Int32 → Int32 → Int32 → (Nat → Int32) → (Nat → Int32) → (Nat → Int32) → (Nat → Int32) → (Nat → Int32) → (Nat → Int32) → (Nat → Int32) → (Nat → Int32) → (Nat → Int32) → (Nat → Int32) → Prop} {J423 : Int32 → Int32 → Int32 → Int64 → Int64 → Int64 → Int32 → Prop} {x8 x9 x16 x17 x18 : Int32} {x19 x21 x23 : Int64} {f_procs f_maxEvents f_messages f_mode f_threshold f_witnessCut f_pathSteps : Int32} {a_counts a_values a_stamps a_senders a_sendSlots a_received a_lows a_highs a_path a_avoidable : Nat → Int32}
theorem la_608 {x27 x28 z0 : Int32} (E : cx_Env L xs P R K a_counts a_values a_stamps a_lows a_highs) (hc : c < R ^ P)
    (h0 : ¬ cx_Va K (cx_dR P R c) → z0 = 0) (h1 : cx_Va K (cx_dR P R c) → ¬ cx_Co P a_stamps (cx_dR P R c) → z0 = 1)
    (h2 : cx_V P K a_stamps (cx_dR P R c) → ¬ cx_Sa P f_mode f_threshold a_values a_lows a_highs (cx_dR P R c) → z0 = 2) (h3 : cx_V P K a_stamps (cx_dR P R c) → cx_Sa P f_mode f_threshold a_values a_lows a_highs (cx_dR P R c) → z0 = 3)
    (hk : ((x27 = 0 → (∀ y : Int32, y = nI c + (-1) → (J423 x16 x17 x18 x19 x21 x23 y))) ∧ (¬ x27 = 0 → (∀ y16 : Int32, y16 = x16 + 1 → (((x28 = 0 → (((nI c = nI (cx_cs R K P) → (∃ fu774 : Nat, wL_law_774 post L xs J170 J423 (nI P) (nI R) (nI (R ^ P)) f_mode f_threshold x8 x9 (nI (K 0)) (nI (K 1)) (nI (K 2)) (nI (K 3)) (nI (cx_cs R K P)) (nI (cx_lv K)) y16 x17 x18 x19 x21 x23 (nI c) kc ks (nI P) f_maxEvents f_messages f_mode f_threshold f_witnessCut f_pathSteps a_counts a_values a_stamps a_senders a_sendSlots a_received a_lows a_highs a_path a_avoidable fu774 1 0)) ∧ (¬ nI c = nI (cx_cs R K P) → (∃ fu774 : Nat, wL_law_774 post L xs J170 J423 (nI P) (nI R) (nI (R ^ P)) f_mode f_threshold x8 x9 (nI (K 0)) (nI (K 1)) (nI (K 2)) (nI (K 3)) (nI (cx_cs R K P)) (nI (cx_lv K)) y16 x17 x18 x19 x21 x23 (nI c) kc ks (nI P) f_maxEvents f_messages f_mode f_threshold f_witnessCut f_pathSteps a_counts a_values a_stamps a_senders a_sendSlots a_received a_lows a_highs a_path a_avoidable fu774 0 0))))) ∧ (¬ x28 = 0 → (∀ y17 : Int32, y17 = x17 + 1 → (∃ fu675 : Nat, wL_law_675 post L xs J170 J423 (nI P) (nI R) (nI (R ^ P)) f_mode f_threshold x8 x9 (nI (K 0)) (nI (K 1)) (nI (K 2)) (nI (K 3)) (nI (cx_cs R K P)) (nI (cx_lv K)) y16 y17 x18 x19 x21 x23 (nI c) kc ks (nI P) f_maxEvents f_messages f_mode f_threshold f_witnessCut f_pathSteps a_counts a_values a_stamps a_senders a_sendSlots a_received a_lows a_highs a_path a_avoidable fu675 0 0 0))))))))) :
    wL_law_608 post L xs J170 J423 (nI P) (nI R) (nI (R ^ P)) f_mode f_threshold x8 x9 (nI (K 0)) (nI (K 1)) (nI (K 2)) (nI (K 3)) (nI (cx_cs R K P)) (nI (cx_lv K)) x16 x17 x18 x19 x21 x23 (nI c) x27 x28 z0 kc ks (nI P) f_maxEvents f_messages f_mode f_threshold f_witnessCut f_pathSteps a_counts a_values a_stamps a_senders a_sendSlots a_received a_lows a_highs a_path a_avoidable := by
  obtain ⟨hL, hb, hcn, hKR, hz, hva, hlh, hst⟩ := id E
  obtain ⟨b1, b2, b3, b4, b5, b6⟩ := cx_PR_b hb
  have g := cx_dR_Dg (P := P) (R := R) (c := c) (by omega)
  have h8 : ∀ p, p < 4 → cx_dR P R c p < 8 := fun p _ => by
    by_cases e : p < P
    · have := g.1 p e
      omega
    · rw [g.2 p (by omega)]
      omega
  unfold wL_law_608
  refine la_compD (p := 0) hb hc (by omega) (la_compD (p := 1) hb hc (by omega) (la_compD (p := 2) hb hc (by omega) (la_compD (p := 3) hb hc (by omega) ?_)))
  exact xw_cut b2 hcn (cx_Env_6 E) h8 (fun p hp => g.2 p (by omega)) (fun a => br_t (h0 a).symm hk) (fun a b => br_t (h1 a b).symm hk) (fun a b => br_t (h2 a b).symm hk) (fun a b => br_t (h3 a b).symm hk)
theorem la_553 (E : cx_Env L xs P R K a_counts a_values a_stamps a_lows a_highs) (hc : c < R ^ P)
    (hbit : ∀ j, c < j → j < R ^ P → (cx_bt x21 x23 j = true ↔ cx_R (cx_G P K a_stamps f_mode f_threshold a_values a_lows a_highs) K P (cx_dR P R j)))
    (kI : ¬ cx_V P K a_stamps (cx_dR P R c) → J423 x16 x17 x18 x19 x21 x23 (nI c + (-1)))
    (kS1 : cx_V P K a_stamps (cx_dR P R c) → cx_Sa P f_mode f_threshold a_values a_lows a_highs (cx_dR P R c) → x19 ≤ lN (cx_ky P R (cx_dR P R c)) → J423 (x16 + 1) (x17 + 1) x18 x19 x21 x23 (nI c + (-1)))
    (kS2 : cx_V P K a_stamps (cx_dR P R c) → cx_Sa P f_mode f_threshold a_values a_lows a_highs (cx_dR P R c) → ¬ x19 ≤ lN (cx_ky P R (cx_dR P R c)) → J423 (x16 + 1) (x17 + 1) (nI c) (lN (cx_ky P R (cx_dR P R c))) x21 x23 (nI c + (-1)))
    (k1 : cx_G P K a_stamps f_mode f_threshold a_values a_lows a_highs (cx_dR P R c) → cx_R (cx_G P K a_stamps f_mode f_threshold a_values a_lows a_highs) K P (cx_dR P R c) → ∀ a b : Int64, (∀ j, j < 128 → cx_bt a b j = (cx_bt x21 x23 j || decide (j = c))) → J423 (x16 + 1) x17 x18 x19 a b (nI c + (-1)))
    (k0 : cx_G P K a_stamps f_mode f_threshold a_values a_lows a_highs (cx_dR P R c) → ¬ cx_R (cx_G P K a_stamps f_mode f_threshold a_values a_lows a_highs) K P (cx_dR P R c) → J423 (x16 + 1) x17 x18 x19 x21 x23 (nI c + (-1))) :
    (¬ cx_Va K (cx_dR P R c) → wL_law_553 post L xs J170 J423 (nI P) (nI R) (nI (R ^ P)) f_mode f_threshold x8 x9 (nI (K 0)) (nI (K 1)) (nI (K 2)) (nI (K 3)) (nI (cx_cs R K P)) (nI (cx_lv K)) x16 x17 x18 x19 x21 x23 (nI c) 0 0 kc ks (nI P) f_maxEvents f_messages f_mode f_threshold f_witnessCut f_pathSteps a_counts a_values a_stamps a_senders a_sendSlots a_received a_lows a_highs a_path a_avoidable) ∧ (cx_Va K (cx_dR P R c) → ¬ cx_Co P a_stamps (cx_dR P R c) → wL_law_553 post L xs J170 J423 (nI P) (nI R) (nI (R ^ P)) f_mode f_threshold x8 x9 (nI (K 0)) (nI (K 1)) (nI (K 2)) (nI (K 3)) (nI (cx_cs R K P)) (nI (cx_lv K)) x16 x17 x18 x19 x21 x23 (nI c) 1 0 kc ks (nI P) f_maxEvents f_messages f_mode f_threshold f_witnessCut f_pathSteps a_counts a_values a_stamps a_senders a_sendSlots a_received a_lows a_highs a_path a_avoidable) ∧
    (cx_V P K a_stamps (cx_dR P R c) → wL_law_553 post L xs J170 J423 (nI P) (nI R) (nI (R ^ P)) f_mode f_threshold x8 x9 (nI (K 0)) (nI (K 1)) (nI (K 2)) (nI (K 3)) (nI (cx_cs R K P)) (nI (cx_lv K)) x16 x17 x18 x19 x21 x23 (nI c) 1 1 kc ks (nI P) f_maxEvents f_messages f_mode f_threshold f_witnessCut f_pathSteps a_counts a_values a_stamps a_senders a_sendSlots a_received a_lows a_highs a_path a_avoidable) := by
  obtain ⟨hL, hb, hcn, hKR, hz, hva, hlh, hst⟩ := id E
  obtain ⟨b1, b2, b3, b4, b5, b6⟩ := cx_PR_b hb
  refine ⟨fun nv => ?_, fun v nc => ?_, fun v => ?_⟩
  · unfold wL_law_553 wL_law_577 wL_law_578
    exact br_t rfl (br_t rfl (la_608 E hc (fun _ => rfl) (fun v => absurd v nv) (fun v => absurd v.1 nv) (fun v => absurd v.1 nv) (br_t rfl (nm_e (kI (fun v => nv v.1))))))
  · unfold wL_law_553 wL_law_577 wL_law_578
    exact br_t rfl (br_f xw_10 (br_t rfl (la_608 E hc (fun n => absurd v n) (fun _ _ => rfl) (fun w => absurd w.2 nc) (fun w => absurd w.2 nc) (br_t rfl (nm_e (kI (fun v => nc v.2)))))))
  · unfold wL_law_553
    refine br_f xw_10 (la_sat hL hb hc (va := a_values) (lo := a_lows) (hi := a_highs) (fun p hp => hva p hp _ (v.1 p (by omega))) (fun p hp => (hlh p hp).1) (fun p hp => (hlh p hp).2) (fun s => br_f xw_10 ?_) (fun s => br_t rfl ?_))
    · unfold wL_law_578
      refine br_f xw_10 (br_f xw_10 (br_f xw_10 (la_608 E hc (fun n => absurd v.1 n) (fun _ n => absurd v.2 n) (fun _ n => absurd s n) (fun _ _ => rfl) ?_)))
      exact br_f xw_10 (nm_e (br_f xw_10 (nm_e (la_675 hb hc (kS1 v s) (kS2 v s)))))
    · unfold wL_law_577 wL_law_578
      refine br_f xw_10 (br_f xw_10 (br_t rfl (la_608 E hc (fun n => absurd v.1 n) (fun _ n => absurd v.2 n) (fun _ _ => rfl) (fun _ z => absurd z s) ?_)))
      have H := la_774 (kc := kc) (ks := ks) (post := post) (L := L) (xs := xs) (J170 := J170) (J423 := J423) (x8 := x8) (x9 := x9) (x16 := x16 + 1) (x17 := x17) (x18 := x18) (x19 := x19) (x21 := x21) (x23 := x23) (f_maxEvents := f_maxEvents) (f_messages := f_messages) (f_mode := f_mode) (f_threshold := f_threshold) (f_witnessCut := f_witnessCut) (f_pathSteps := f_pathSteps) (a_counts := a_counts) (a_values := a_values) (a_stamps := a_stamps) (a_senders := a_senders) (a_sendSlots := a_sendSlots) (a_received := a_received) (a_lows := a_lows) (a_highs := a_highs) (a_path := a_path) (a_avoidable := a_avoidable)
        (G := cx_G P K a_stamps f_mode f_threshold a_values a_lows a_highs) hb hc hKR hz cx_G_K ⟨v, s⟩ hbit (k1 ⟨v, s⟩) (k0 ⟨v, s⟩)
      have cl := (cx_dR_of hb (d := K) ⟨fun p _ => hKR p, hz⟩).2
      refine br_f xw_10 (nm_e (br_t rfl (cx_eq (by omega) (by omega) (fun e => ?_) (fun ne => ?_))))
      · rw [cx_i_t e] at H
        exact H
      · rw [cx_i_f ne] at H
        exact H
theorem la_434 (E : cx_Env L xs P R K a_counts a_values a_stamps a_lows a_highs) (hc : c < R ^ P)
    (H : (¬ cx_Va K (cx_dR P R c) → wL_law_553 post L xs J170 J423 (nI P) (nI R) (nI (R ^ P)) f_mode f_threshold x8 x9 (nI (K 0)) (nI (K 1)) (nI (K 2)) (nI (K 3)) (nI (cx_cs R K P)) (nI (cx_lv K)) x16 x17 x18 x19 x21 x23 (nI c) 0 0 kc ks (nI P) f_maxEvents f_messages f_mode f_threshold f_witnessCut f_pathSteps a_counts a_values a_stamps a_senders a_sendSlots a_received a_lows a_highs a_path a_avoidable) ∧ (cx_Va K (cx_dR P R c) → ¬ cx_Co P a_stamps (cx_dR P R c) → wL_law_553 post L xs J170 J423 (nI P) (nI R) (nI (R ^ P)) f_mode f_threshold x8 x9 (nI (K 0)) (nI (K 1)) (nI (K 2)) (nI (K 3)) (nI (cx_cs R K P)) (nI (cx_lv K)) x16 x17 x18 x19 x21 x23 (nI c) 1 0 kc ks (nI P) f_maxEvents f_messages f_mode f_threshold f_witnessCut f_pathSteps a_counts a_values a_stamps a_senders a_sendSlots a_received a_lows a_highs a_path a_avoidable) ∧
      (cx_V P K a_stamps (cx_dR P R c) → wL_law_553 post L xs J170 J423 (nI P) (nI R) (nI (R ^ P)) f_mode f_threshold x8 x9 (nI (K 0)) (nI (K 1)) (nI (K 2)) (nI (K 3)) (nI (cx_cs R K P)) (nI (cx_lv K)) x16 x17 x18 x19 x21 x23 (nI c) 1 1 kc ks (nI P) f_maxEvents f_messages f_mode f_threshold f_witnessCut f_pathSteps a_counts a_values a_stamps a_senders a_sendSlots a_received a_lows a_highs a_path a_avoidable)) :
    ∃ n, wL_law_434 post L xs J170 J423 (nI P) (nI R) (nI (R ^ P)) f_mode f_threshold x8 x9 (nI (K 0)) (nI (K 1)) (nI (K 2)) (nI (K 3)) (nI (cx_cs R K P)) (nI (cx_lv K)) x16 x17 x18 x19 x21 x23 (nI c) kc ks (nI P) f_maxEvents f_messages f_mode f_threshold f_witnessCut f_pathSteps a_counts a_values a_stamps a_senders a_sendSlots a_received a_lows a_highs a_path a_avoidable n 1 0 := by
  obtain ⟨hL, hb, hcn, hKR, hz, hva, hlh, hst⟩ := id E
  obtain ⟨b1, b2, b3, b4, b5, b6⟩ := cx_PR_b hb
  obtain ⟨H1, H2, H3⟩ := H
  have g := cx_dR_Dg (P := P) (R := R) (c := c) (by omega)
  have hK6 := cx_Env_6 E
  have F := cx_fold (fun n i s => wL_law_434 post L xs J170 J423 (nI P) (nI R) (nI (R ^ P)) f_mode f_threshold x8 x9 (nI (K 0)) (nI (K 1)) (nI (K 2)) (nI (K 3)) (nI (cx_cs R K P)) (nI (cx_lv K)) x16 x17 x18 x19 x21 x23 (nI c) kc ks (nI P) f_maxEvents f_messages f_mode f_threshold f_witnessCut f_pathSteps a_counts a_values a_stamps a_senders a_sendSlots a_received a_lows a_highs a_path a_avoidable n s (nI i)) P (fun i => cx_i (∀ p, p < i → cx_dR P R c p ≤ K p))
    (fun n => br_t (nI_le (Nat.le_refl P) (by omega)) ?_) (fun n i hi k => br_f (nI_ge hi (by omega)) (la_compD hb hc (by omega) (la_pick (by omega) ?_)))
  · obtain ⟨n, hn⟩ := F
    have hn' : wL_law_434 post L xs J170 J423 (nI P) (nI R) (nI (R ^ P)) f_mode f_threshold x8 x9 (nI (K 0)) (nI (K 1)) (nI (K 2)) (nI (K 3)) (nI (cx_cs R K P)) (nI (cx_lv K)) x16 x17 x18 x19 x21 x23 (nI c) kc ks (nI P) f_maxEvents f_messages f_mode f_threshold f_witnessCut f_pathSteps a_counts a_values a_stamps a_senders a_sendSlots a_received a_lows a_highs a_path a_avoidable n (cx_i (∀ p, p < 0 → cx_dR P R c p ≤ K p)) 0 := hn
    rw [cx_i_t (fun p hp => absurd hp (Nat.not_lt_zero p))] at hn'
    exact ⟨n, hn'⟩
  · by_cases v : cx_Va K (cx_dR P R c)
    · have e : cx_i (∀ p, p < P → cx_dR P R c p ≤ K p) = 1 := cx_i_t (fun p hp => v p (by omega))
      rw [e]
      refine br_f xw_10 ?_
      have F2 := cx_fold (fun n i s => wL_law_485 post L xs J170 J423 (nI P) (nI R) (nI (R ^ P)) f_mode f_threshold x8 x9 (nI (K 0)) (nI (K 1)) (nI (K 2)) (nI (K 3)) (nI (cx_cs R K P)) (nI (cx_lv K)) x16 x17 x18 x19 x21 x23 (nI c) 1 kc ks (nI P) f_maxEvents f_messages f_mode f_threshold f_witnessCut f_pathSteps a_counts a_values a_stamps a_senders a_sendSlots a_received a_lows a_highs a_path a_avoidable n s (nI i)) P (fun i => cx_i (∀ p, p < i → ∀ q, q < P → a_stamps ((p * 7 + cx_dR P R c p) * 4 + q) ≤ nI (cx_dR P R c q)))
        (fun n => br_t (nI_le (Nat.le_refl P) (by omega)) ?_) (fun n i hi k => br_f (nI_ge hi (by omega)) (la_compD hb hc (by omega) ?_))
      · obtain ⟨n, hn⟩ := F2
        have hn' : wL_law_485 post L xs J170 J423 (nI P) (nI R) (nI (R ^ P)) f_mode f_threshold x8 x9 (nI (K 0)) (nI (K 1)) (nI (K 2)) (nI (K 3)) (nI (cx_cs R K P)) (nI (cx_lv K)) x16 x17 x18 x19 x21 x23 (nI c) 1 kc ks (nI P) f_maxEvents f_messages f_mode f_threshold f_witnessCut f_pathSteps a_counts a_values a_stamps a_senders a_sendSlots a_received a_lows a_highs a_path a_avoidable n (cx_i (∀ p, p < 0 → ∀ q, q < P → a_stamps ((p * 7 + cx_dR P R c p) * 4 + q) ≤ nI (cx_dR P R c q))) 0 := hn
        rw [cx_i_t (fun p hp => absurd hp (Nat.not_lt_zero p))] at hn'
        exact ⟨n, hn'⟩
      · by_cases co : cx_Co P a_stamps (cx_dR P R c)
        · have e : cx_i (∀ p, p < P → ∀ q, q < P → a_stamps ((p * 7 + cx_dR P R c p) * 4 + q) ≤ nI (cx_dR P R c q)) = 1 := cx_i_t co
          rw [e]
          exact H3 ⟨v, co⟩
        · have e : cx_i (∀ p, p < P → ∀ q, q < P → a_stamps ((p * 7 + cx_dR P R c p) * 4 + q) ≤ nI (cx_dR P R c q)) = 0 := cx_i_f co
          rw [e]
          exact H2 v co
      · have gi := g.1 i hi
        have vi := v i (by omega)
        refine pk_lt (cx_dR P R c i) 1 (fun h => nm_r (nI_1 i) ?_) (fun h => ?_)
        · have e0 : cx_dR P R c i = 0 := by omega
          have e := cx_i_s (B := fun p => ∀ q, q < P → a_stamps ((p * 7 + cx_dR P R c p) * 4 + q) ≤ nI (cx_dR P R c q)) (i := i) (fun q hq => by
            rw [e0, hst i hi q hq]
            have := g.1 q hq
            exact nI_pos' (by omega))
          show wL_law_485 post L xs J170 J423 (nI P) (nI R) (nI (R ^ P)) f_mode f_threshold x8 x9 (nI (K 0)) (nI (K 1)) (nI (K 2)) (nI (K 3)) (nI (cx_cs R K P)) (nI (cx_lv K)) x16 x17 x18 x19 x21 x23 (nI c) 1 kc ks (nI P) f_maxEvents f_messages f_mode f_threshold f_witnessCut f_pathSteps a_counts a_values a_stamps a_senders a_sendSlots a_received a_lows a_highs a_path a_avoidable n (cx_i (∀ p, p < i → ∀ q, q < P → a_stamps ((p * 7 + cx_dR P R c p) * 4 + q) ≤ nI (cx_dR P R c q))) (nI (i + 1))
          rw [e]
          exact k
        · obtain ⟨kk, hkk⟩ : ∃ kk, cx_dR P R c i = kk + 1 := ⟨cx_dR P R c i - 1, by omega⟩
          have F3 := cx_fold (fun m j s => wL_law_510 post L xs J170 J423 (wL_law_485 post L xs J170 J423 (nI P) (nI R) (nI (R ^ P)) f_mode f_threshold x8 x9 (nI (K 0)) (nI (K 1)) (nI (K 2)) (nI (K 3)) (nI (cx_cs R K P)) (nI (cx_lv K)) x16 x17 x18 x19 x21 x23 (nI c) 1 kc ks (nI P) f_maxEvents f_messages f_mode f_threshold f_witnessCut f_pathSteps a_counts a_values a_stamps a_senders a_sendSlots a_received a_lows a_highs a_path a_avoidable n) (nI P) (nI R) (nI (R ^ P)) f_mode f_threshold x8 x9 (nI (K 0)) (nI (K 1)) (nI (K 2)) (nI (K 3)) (nI (cx_cs R K P)) (nI (cx_lv K)) x16 x17 x18 x19 x21 x23 (nI c) 1 (nI i) (nI (cx_dR P R c i)) kc ks (nI P) f_maxEvents f_messages f_mode f_threshold f_witnessCut f_pathSteps a_counts a_values a_stamps a_senders a_sendSlots a_received a_lows a_highs a_path a_avoidable m s (nI j)) P
            (fun j => cx_i ((∀ p, p < i → ∀ q, q < P → a_stamps ((p * 7 + cx_dR P R c p) * 4 + q) ≤ nI (cx_dR P R c q)) ∧ ∀ q, q < j → a_stamps ((i * 7 + cx_dR P R c i) * 4 + q) ≤ nI (cx_dR P R c q)))
            (fun m => br_t (nI_le (Nat.le_refl P) (by omega)) (nm_r (nI_1 i) ?_)) (fun m j hj k' => br_f (nI_ge hj (by omega)) ?_)
          · obtain ⟨m, hm⟩ := F3
            have hm' : wL_law_510 post L xs J170 J423 (wL_law_485 post L xs J170 J423 (nI P) (nI R) (nI (R ^ P)) f_mode f_threshold x8 x9 (nI (K 0)) (nI (K 1)) (nI (K 2)) (nI (K 3)) (nI (cx_cs R K P)) (nI (cx_lv K)) x16 x17 x18 x19 x21 x23 (nI c) 1 kc ks (nI P) f_maxEvents f_messages f_mode f_threshold f_witnessCut f_pathSteps a_counts a_values a_stamps a_senders a_sendSlots a_received a_lows a_highs a_path a_avoidable n) (nI P) (nI R) (nI (R ^ P)) f_mode f_threshold x8 x9 (nI (K 0)) (nI (K 1)) (nI (K 2)) (nI (K 3)) (nI (cx_cs R K P)) (nI (cx_lv K)) x16 x17 x18 x19 x21 x23 (nI c) 1 (nI i) (nI (cx_dR P R c i)) kc ks (nI P) f_maxEvents f_messages f_mode f_threshold f_witnessCut f_pathSteps a_counts a_values a_stamps a_senders a_sendSlots a_received a_lows a_highs a_path a_avoidable m (cx_i ((∀ p, p < i → ∀ q, q < P → a_stamps ((p * 7 + cx_dR P R c p) * 4 + q) ≤ nI (cx_dR P R c q)) ∧ ∀ q, q < 0 → a_stamps ((i * 7 + cx_dR P R c i) * 4 + q) ≤ nI (cx_dR P R c q))) 0 := hm
            have e : cx_i ((∀ p, p < i → ∀ q, q < P → a_stamps ((p * 7 + cx_dR P R c p) * 4 + q) ≤ nI (cx_dR P R c q)) ∧ ∀ q, q < 0 → a_stamps ((i * 7 + cx_dR P R c i) * 4 + q) ≤ nI (cx_dR P R c q)) = cx_i (∀ p, p < i → ∀ q, q < P → a_stamps ((p * 7 + cx_dR P R c p) * 4 + q) ≤ nI (cx_dR P R c q)) := cx_i_c ⟨fun z => z.1, fun z => ⟨z, fun q hq => absurd hq (Nat.not_lt_zero q)⟩⟩
            rw [e] at hm'
            exact ⟨m, hm'⟩
          · have e : cx_i ((∀ p, p < i → ∀ q, q < P → a_stamps ((p * 7 + cx_dR P R c p) * 4 + q) ≤ nI (cx_dR P R c q)) ∧ ∀ q, q < P → a_stamps ((i * 7 + cx_dR P R c i) * 4 + q) ≤ nI (cx_dR P R c q)) = cx_i (∀ p, p < i + 1 → ∀ q, q < P → a_stamps ((p * 7 + cx_dR P R c p) * 4 + q) ≤ nI (cx_dR P R c q)) := cx_i_c ⟨fun z => lt_s z.1 z.2, fun z => ⟨fun p hp => z p (by omega), z i (by omega)⟩⟩
            rw [e]
            exact k
          · have gj := g.1 j hj
            have st := xo_stamp (post := fun r => wpL_comp (fun r_284 => (((r ≤ r_284 → (∀ x30 : Int32, x30 = nI j + 1 → (wL_law_510 post L xs J170 J423 (wL_law_485 post L xs J170 J423 (nI P) (nI R) (nI (R ^ P)) f_mode f_threshold x8 x9 (nI (K 0)) (nI (K 1)) (nI (K 2)) (nI (K 3)) (nI (cx_cs R K P)) (nI (cx_lv K)) x16 x17 x18 x19 x21 x23 (nI c) 1 kc ks (nI P) f_maxEvents f_messages f_mode f_threshold f_witnessCut f_pathSteps a_counts a_values a_stamps a_senders a_sendSlots a_received a_lows a_highs a_path a_avoidable n) (nI P) (nI R) (nI (R ^ P)) f_mode f_threshold x8 x9 (nI (K 0)) (nI (K 1)) (nI (K 2)) (nI (K 3)) (nI (cx_cs R K P)) (nI (cx_lv K)) x16 x17 x18 x19 x21 x23 (nI c) 1 (nI i) (nI (cx_dR P R c i)) kc ks (nI P) f_maxEvents f_messages f_mode f_threshold f_witnessCut f_pathSteps a_counts a_values a_stamps a_senders a_sendSlots a_received a_lows a_highs a_path a_avoidable m (cx_i ((∀ p, p < i → ∀ q, q < P → a_stamps ((p * 7 + cx_dR P R c p) * 4 + q) ≤ nI (cx_dR P R c q)) ∧ ∀ q, q < j → a_stamps ((i * 7 + cx_dR P R c i) * 4 + q) ≤ nI (cx_dR P R c q))) x30))) ∧ (¬ r ≤ r_284 → (∀ x30 : Int32, x30 = nI j + 1 → (wL_law_510 post L xs J170 J423 (wL_law_485 post L xs J170 J423 (nI P) (nI R) (nI (R ^ P)) f_mode f_threshold x8 x9 (nI (K 0)) (nI (K 1)) (nI (K 2)) (nI (K 3)) (nI (cx_cs R K P)) (nI (cx_lv K)) x16 x17 x18 x19 x21 x23 (nI c) 1 kc ks (nI P) f_maxEvents f_messages f_mode f_threshold f_witnessCut f_pathSteps a_counts a_values a_stamps a_senders a_sendSlots a_received a_lows a_highs a_path a_avoidable n) (nI P) (nI R) (nI (R ^ P)) f_mode f_threshold x8 x9 (nI (K 0)) (nI (K 1)) (nI (K 2)) (nI (K 3)) (nI (cx_cs R K P)) (nI (cx_lv K)) x16 x17 x18 x19 x21 x23 (nI c) 1 (nI i) (nI (cx_dR P R c i)) kc ks (nI P) f_maxEvents f_messages f_mode f_threshold f_witnessCut f_pathSteps a_counts a_values a_stamps a_senders a_sendSlots a_received a_lows a_highs a_path a_avoidable m 0 x30)))))) () (nI c) (nI j) (nI R))
              (f_maxEvents := f_maxEvents) (f_messages := f_messages) (f_mode := f_mode) (f_threshold := f_threshold) (f_witnessCut := f_witnessCut) (f_pathSteps := f_pathSteps) (a_counts := a_counts) (a_values := a_values) (a_stamps := a_stamps) (a_senders := a_senders) (a_sendSlots := a_sendSlots) (a_received := a_received) (a_lows := a_lows) (a_highs := a_highs) (a_path := a_path) (a_avoidable := a_avoidable)
              (K := K) (k := kk) hi b2 hj hcn (by omega) (hK6 i (by omega)) (la_compD hb hc (by omega) ?_)
            · rw [← hkk] at st
              exact st
            · rw [← hkk]
              refine br_c (fun le => nm_r (nI_1 j) ?_) (fun nle => nm_r (nI_1 j) ?_)
              · have e : cx_i ((∀ p, p < i → ∀ q, q < P → a_stamps ((p * 7 + cx_dR P R c p) * 4 + q) ≤ nI (cx_dR P R c q)) ∧ ∀ q, q < j → a_stamps ((i * 7 + cx_dR P R c i) * 4 + q) ≤ nI (cx_dR P R c q)) = cx_i ((∀ p, p < i → ∀ q, q < P → a_stamps ((p * 7 + cx_dR P R c p) * 4 + q) ≤ nI (cx_dR P R c q)) ∧ ∀ q, q < j + 1 → a_stamps ((i * 7 + cx_dR P R c i) * 4 + q) ≤ nI (cx_dR P R c q)) := cx_i_c ⟨fun z => ⟨z.1, lt_s z.2 le⟩, fun z => ⟨z.1, fun q hq => z.2 q (by omega)⟩⟩
                rw [e]
                exact k'
              · have e : (0 : Int32) = cx_i ((∀ p, p < i → ∀ q, q < P → a_stamps ((p * 7 + cx_dR P R c p) * 4 + q) ≤ nI (cx_dR P R c q)) ∧ ∀ q, q < j + 1 → a_stamps ((i * 7 + cx_dR P R c i) * 4 + q) ≤ nI (cx_dR P R c q)) := (cx_i_f (fun z => nle (z.2 j (by omega)))).symm
                rw [e]
                exact k'
    · have e : cx_i (∀ p, p < P → cx_dR P R c p ≤ K p) = 0 := cx_i_f (fun z => v (fun p hp => by
        by_cases ep : p < P
        · exact z p ep
        · rw [g.2 p (by omega)]
          exact Nat.zero_le _))
      rw [e]
      exact br_t rfl (H1 v)
  · have gi := g.1 i hi
    have ki := hKR i
    refine cx_le (by omega) (by omega) (fun le => nm_r (nI_1 i) ?_) (fun nle => nm_r (nI_1 i) ?_)
    · have e := cx_i_s (B := fun p => cx_dR P R c p ≤ K p) (i := i) le
      show wL_law_434 post L xs J170 J423 (nI P) (nI R) (nI (R ^ P)) f_mode f_threshold x8 x9 (nI (K 0)) (nI (K 1)) (nI (K 2)) (nI (K 3)) (nI (cx_cs R K P)) (nI (cx_lv K)) x16 x17 x18 x19 x21 x23 (nI c) kc ks (nI P) f_maxEvents f_messages f_mode f_threshold f_witnessCut f_pathSteps a_counts a_values a_stamps a_senders a_sendSlots a_received a_lows a_highs a_path a_avoidable n (cx_i (∀ p, p < i → cx_dR P R c p ≤ K p)) (nI (i + 1))
      rw [e]
      exact k
    · have e := cx_i_n (B := fun p => cx_dR P R c p ≤ K p) (i := i) nle
      rw [e]
      exact k
end
