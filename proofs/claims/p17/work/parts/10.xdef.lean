/-! definitely() on the component's side -/
section
variable {P : Nat} {K : Nat → Nat} {G : (Nat → Nat) → Prop} {f_procs f_maxEvents f_messages f_mode f_threshold f_witnessCut f_pathSteps : Int32} {a_counts a_values a_stamps a_senders a_sendSlots a_received a_lows a_highs a_path a_avoidable : Nat → Int32}
theorem xw_final {post : Int32 → Prop} {c : Nat} (hc : c < 4096) (hP : P ≤ 4) (hcn : ∀ i, a_counts i = nI (K i)) (hK : ∀ p, p < 4 → K p ≤ 6) (hT : (∀ p, p < P → cx_d8 c p = K p) → post 1) (hF : ¬ (∀ p, p < P → cx_d8 c p = K p) → post 0) :
    wpX_isFinal post (nI P, f_maxEvents, f_messages, f_mode, f_threshold, f_witnessCut, f_pathSteps, a_counts, a_values, a_stamps, a_senders, a_sendSlots, a_received, a_lows, a_highs, a_path, a_avoidable) (nI c) :=
  cx_all (fun n i => wX_isFinal_2 post (nI c) (nI P) f_maxEvents f_messages f_mode f_threshold f_witnessCut f_pathSteps a_counts a_values a_stamps a_senders a_sendSlots a_received a_lows a_highs a_path a_avoidable n (nI i)) P (fun p => cx_d8 c p = K p) hT hF
    (fun n t => br_t (nI_le (Nat.le_refl P) (by omega)) t)
    (fun n i hi t f => br_f (nI_ge hi (by omega)) (xw_index hc (by omega) ⟨vp_in_nI (by omega) (by omega), by
      rw [nI_clamp (n := i) (by omega), hcn]
      have := hK i (by omega)
      have := cx_8_lt c i
      exact cx_eq (by omega) (by omega) (fun h => nm_r (nI_1 i) (t h)) f⟩))
theorem xw_least {post : Int32 → Prop} {c : Nat} (hc : c < 4096) (hP : P ≤ 4) (hcn : ∀ i, a_counts i = nI (K i)) (hK : ∀ p, p < 4 → K p ≤ 6) (hav : ∀ c', c < c' → c' < 4096 → a_avoidable c' = cx_i (cx_R G K P (cx_d8 c')))
    (hS : ∀ p, cx_S G K P (cx_d8 c) p → (∀ j, j < p → ¬ cx_S G K P (cx_d8 c) j) → post (nI p)) (hN : (∀ p, ¬ cx_S G K P (cx_d8 c) p) → post (-1)) :
    wpX_leastAvoidingStep post (nI P, f_maxEvents, f_messages, f_mode, f_threshold, f_witnessCut, f_pathSteps, a_counts, a_values, a_stamps, a_senders, a_sendSlots, a_received, a_lows, a_highs, a_path, a_avoidable) (nI c) :=
  cx_fst (fun n i => wX_leastAvoidingStep_2 post (nI c) (nI P) f_maxEvents f_messages f_mode f_threshold f_witnessCut f_pathSteps a_counts a_values a_stamps a_senders a_sendSlots a_received a_lows a_highs a_path a_avoidable n (nI i)) P (cx_S G K P (cx_d8 c)) (F := fun p => post (nI p)) (N := post (-1))
    (fun i _ s l => hS i s l) (fun none => hN (fun p s => none p s.1 s))
    (fun n t => br_t (nI_le (Nat.le_refl P) (by omega)) t)
    (fun n i hi nb b => br_f (nI_ge hi (by omega)) (xw_index hc (by omega) ⟨vp_in_nI (by omega) (by omega), by
      rw [nI_clamp (n := i) (by omega), hcn]
      have k6 := hK i (by omega)
      have d8 := cx_8_lt c i
      refine cx_le (by omega) (by omega) (fun h => nm_r (nI_1 i) (nb (fun s => by have := s.2.1; omega))) (fun h => xw_step (by omega) ?_)
      have e := cx_8_step hc (p := i) (by omega) (by omega)
      refine ⟨vp_in_nI e.2 (by omega), ?_⟩
      have w0 : 0 < cx_w8 i := by
        unfold cx_w8
        repeat' split
        all_goals omega
      rw [nI_clamp (by omega), hav _ (by omega) e.2, e.1]
      exact ek_if cx_i_0 (fun z => nm_r (nI_1 i) (nb (fun s => z s.2.2))) (fun z => b ⟨hi, by omega, Classical.byContradiction z⟩)⟩))
/-! the answer of leastAvoidingStep on the least avoiding path's i-th cut -/
noncomputable def cx_xs (G : (Nat → Nat) → Prop) (K : Nat → Nat) (P i : Nat) : Int32 := if i < cx_lv K then nI (cx_ls (cx_S G K P (cx_D G K P i))) else -1
theorem xw_leastD {post : Int32 → Prop} {c i : Nat} (hG : ∀ d, G d → ∀ p, p < 4 → d p ≤ K p) (hc : c < 4096) (hP : P ≤ 4) (hcn : ∀ i, a_counts i = nI (K i)) (hK : ∀ p, p < 4 → K p ≤ 6) (hav : ∀ c', c' < 4096 → a_avoidable c' = cx_i (cx_R G K P (cx_d8 c')))
    (h0 : cx_R G K P (fun _ => 0)) (hi : i ≤ cx_lv K) (hd : cx_d8 c = cx_D G K P i) (h : post (cx_xs G K P i)) : wpX_leastAvoidingStep post (nI P, f_maxEvents, f_messages, f_mode, f_threshold, f_witnessCut, f_pathSteps, a_counts, a_values, a_stamps, a_senders, a_sendSlots, a_received, a_lows, a_highs, a_path, a_avoidable) (nI c) := by
  unfold cx_xs at h
  refine xw_least (G := G) hc hP hcn hK (fun c' _ h' => hav c' h') (fun p s l => ?_) (fun n => ?_)
  · rw [hd] at s l
    by_cases e : i < cx_lv K
    · rw [if_pos e, cx_ls_u s l] at h
      exact h
    · have e' : i = cx_lv K := by omega
      rw [e'] at s
      exact absurd s (cx_D_end hG hP hK h0 p)
  · rw [hd] at n
    by_cases e : i < cx_lv K
    · exact absurd (cx_D_st hG hP hK h0 e).1 (n _)
    · rw [if_neg e] at h
      exact h
theorem xw_record {post : St2 → Prop} (hG : ∀ d, G d → ∀ p, p < 4 → d p ≤ K p) (hP : P ≤ 4) (hcn : ∀ i, a_counts i = nI (K i)) (hK : ∀ p, p < 4 → K p ≤ 6) (hav : ∀ c', c' < 4096 → a_avoidable c' = cx_i (cx_R G K P (cx_d8 c')))
    (h0 : cx_R G K P (fun _ => 0)) (h : ∀ pa : Nat → Int32, (∀ j, j < cx_lv K → pa j = nI (cx_ls (cx_S G K P (cx_D G K P j)))) → post (nI P, f_maxEvents, f_messages, f_mode, f_threshold, f_witnessCut, nI (cx_lv K), a_counts, a_values, a_stamps, a_senders, a_sendSlots, a_received, a_lows, a_highs, pa, a_avoidable)) :
    wpX_recordPath post (nI P, f_maxEvents, f_messages, f_mode, f_threshold, f_witnessCut, f_pathSteps, a_counts, a_values, a_stamps, a_senders, a_sendSlots, a_received, a_lows, a_highs, a_path, a_avoidable) := by
  have T24 := cx_lv_6 hK
  have L : ∀ m i c (pa : Nat → Int32), i + m = cx_lv K → c < 4096 → cx_d8 c = cx_D G K P i → (∀ j, j < i → pa j = nI (cx_ls (cx_S G K P (cx_D G K P j)))) →
      wX_recordPath_10 post (nI P) f_maxEvents f_messages f_mode f_threshold f_witnessCut f_pathSteps (m + 1) (nI c) (nI i) (cx_xs G K P i) a_counts a_values a_stamps a_senders a_sendSlots a_received a_lows a_highs pa a_avoidable := by
    intro m
    induction m with
    | zero =>
      intro i c pa hi hc hd hp
      have e : i = cx_lv K := by omega
      subst e
      have ex : cx_xs G K P (cx_lv K) = -1 := if_neg (Nat.lt_irrefl _)
      rw [ex]
      exact br_t rfl (h pa hp)
    | succ m ih =>
      intro i c pa hi hc hd hp
      have hl : i < cx_lv K := by omega
      have ex : cx_xs G K P i = nI (cx_ls (cx_S G K P (cx_D G K P i))) := if_pos hl
      have s := (cx_D_st hG hP hK h0 hl).1
      have es := cx_D_s G K P i
      rw [ex]
      generalize hg : cx_ls (cx_S G K P (cx_D G K P i)) = l at s es ⊢
      have s1 := s.1
      have s2 := s.2.1
      have k6 := hK l (by omega)
      have e := cx_8_step hc (p := l) (by omega) (by rw [hd]; omega)
      refine br_f (cx_m1 (by omega)) (br_f (nI_ge (b := 24) (by omega) (by omega)) ⟨vp_in_nI (by omega) (by omega), ?_⟩)
      rw [nI_clamp (n := i) (by omega)]
      refine nm_e (nm_r (nI_1 i) (xw_step (by omega) ?_))
      refine xw_leastD hG e.2 hP hcn hK hav h0 (i := i + 1) (by omega) (by rw [e.1, hd, es]) ?_
      refine ih (i + 1) (c + cx_w8 l) _ (by omega) e.2 (by rw [e.1, hd, es]) (fun j hj => ?_)
      by_cases ej : j = i
      · rw [ej, pk_us, hg]
      · rw [pk_un ej]
        exact hp j (by omega)
  unfold wpX_recordPath
  refine xw_leastD hG (c := 0) (by omega) hP hcn hK hav h0 (i := 0) (by omega) cx_8_z ?_
  exact ⟨_, L (cx_lv K) 0 0 a_path (by omega) (by omega) cx_8_z (fun j hj => absurd hj (Nat.not_lt_zero j))⟩
end
section
variable {P : Nat} {K : Nat → Nat} {f_procs f_maxEvents f_messages f_mode f_threshold f_witnessCut f_pathSteps : Int32} {a_counts a_values a_stamps a_senders a_sendSlots a_received a_lows a_highs a_path a_avoidable : Nat → Int32}
theorem xw_definitely {post : Int32 → St2 → Prop} (hP : P ≤ 4) (hcn : ∀ i, a_counts i = nI (K i)) (hK : ∀ p, p < 4 → K p ≤ 6) (hz : ∀ p, P ≤ p → K p = 0)
    (hT : ¬ cx_R (cx_G P K a_stamps f_mode f_threshold a_values a_lows a_highs) K P (fun _ => 0) → ∀ av : Nat → Int32, post 1 (nI P, f_maxEvents, f_messages, f_mode, f_threshold, f_witnessCut, -1, a_counts, a_values, a_stamps, a_senders, a_sendSlots, a_received, a_lows, a_highs, a_path, av))
    (hF : cx_R (cx_G P K a_stamps f_mode f_threshold a_values a_lows a_highs) K P (fun _ => 0) → ∀ av pa : Nat → Int32, (∀ j, j < cx_lv K → pa j = nI (cx_ls (cx_S (cx_G P K a_stamps f_mode f_threshold a_values a_lows a_highs) K P (cx_D (cx_G P K a_stamps f_mode f_threshold a_values a_lows a_highs) K P j)))) →
      post 0 (nI P, f_maxEvents, f_messages, f_mode, f_threshold, f_witnessCut, nI (cx_lv K), a_counts, a_values, a_stamps, a_senders, a_sendSlots, a_received, a_lows, a_highs, pa, av)) :
    wpX_definitely post (nI P, f_maxEvents, f_messages, f_mode, f_threshold, f_witnessCut, f_pathSteps, a_counts, a_values, a_stamps, a_senders, a_sendSlots, a_received, a_lows, a_highs, a_path, a_avoidable) := by
  have hG := cx_G_K (P := P) (K := K) (st := a_stamps) (md := f_mode) (th := f_threshold) (va := a_values) (lo := a_lows) (hi := a_highs)
  have hg : ∀ d, cx_G P K a_stamps f_mode f_threshold a_values a_lows a_highs d ↔ (cx_V P K a_stamps d ∧ ¬ cx_Sa P f_mode f_threshold a_values a_lows a_highs d) := fun _ => Iff.rfl
  generalize cx_G P K a_stamps f_mode f_threshold a_values a_lows a_highs = G at hT hF hG hg
  refine cx_down (fun n x s => wX_definitely_4 post (nI P) f_maxEvents f_messages f_mode f_threshold f_witnessCut f_pathSteps n x a_counts a_values a_stamps a_senders a_sendSlots a_received a_lows a_highs a_path s) (fun m s => m ≤ 4096 ∧ ∀ c, m ≤ c → c < 4096 → s c = cx_i (cx_R G K P (cx_d8 c)))
    (fun n s I => br_t (by decide) ?_) (fun n i s I k => ?_) 4095 a_avoidable ⟨Nat.le_refl _, fun c h h' => absurd h (by omega)⟩
  · have hav : ∀ c, c < 4096 → s c = cx_i (cx_R G K P (cx_d8 c)) := fun c hc => I.2 c (Nat.zero_le c) hc
    have z := hav 0 (by omega)
    rw [cx_8_z] at z
    by_cases r : cx_R G K P (fun _ => 0)
    · rw [cx_i_t r] at z
      refine br_f (by rw [z]; decide) ?_
      exact xw_record hG hP hcn hK hav r (fun pa hp => hF r s pa hp)
    · rw [cx_i_f r] at z
      exact br_t z (hT r s)
  · have hi : i < 4096 := by have := I.1; omega
    have set0 : ¬ cx_R G K P (cx_d8 i) → (vp_in (nI i) 4096 ∧ ∀ a : Nat → Int32, a = upd s (nI i).toNatClampNeg 0 → (∀ x : Int32, x = nI i + (-1) → wX_definitely_4 post (nI P) f_maxEvents f_messages f_mode f_threshold f_witnessCut f_pathSteps n x a_counts a_values a_stamps a_senders a_sendSlots a_received a_lows a_highs a_path a)) := by
      intro r
      refine ⟨vp_in_nI hi (by omega), ?_⟩
      rw [nI_clamp (by omega)]
      refine nm_e (nm_e (k _ ⟨by omega, fun c h h' => ?_⟩))
      by_cases e : c = i
      · rw [e, pk_us, cx_i_f r]
      · rw [pk_un e]
        exact I.2 c (by omega) h'
    have set1 : cx_R G K P (cx_d8 i) → (vp_in (nI i) 4096 ∧ ∀ a : Nat → Int32, a = upd s (nI i).toNatClampNeg 1 → (∀ x : Int32, x = nI i + (-1) → wX_definitely_4 post (nI P) f_maxEvents f_messages f_mode f_threshold f_witnessCut f_pathSteps n x a_counts a_values a_stamps a_senders a_sendSlots a_received a_lows a_highs a_path a)) := by
      intro r
      refine ⟨vp_in_nI hi (by omega), ?_⟩
      rw [nI_clamp (by omega)]
      refine nm_e (nm_e (k _ ⟨by omega, fun c h h' => ?_⟩))
      by_cases e : c = i
      · rw [e, pk_us, cx_i_t r]
      · rw [pk_un e]
        exact I.2 c (by omega) h'
    have R := cx_R_iff hG hP hK (cx_d8 i)
    refine br_f (nI_pos (by omega)) (xw_state hi hP hcn hK ?_ ?_ ?_ ?_)
    · exact fun nv => br_f (by decide) (set0 (fun r => nv ((hg _).mp (R.mp r).1).1.1))
    · exact fun _ nc => br_f (by decide) (set0 (fun r => nc ((hg _).mp (R.mp r).1).1.2))
    · intro v ns
      refine br_t rfl (xw_final hi hP hcn hK (fun f => br_f xw_10 (set1 ?_)) (fun nf => br_t rfl ?_))
      · refine R.mpr ⟨(hg _).mpr ⟨v, ns⟩, Or.inl (fun p hp => ?_)⟩
        by_cases e : p < P
        · exact f p e
        · have a := v.1 p hp
          have b := hz p (by omega)
          omega
      · refine xw_least (G := G) hi hP hcn hK (fun c' h h' => I.2 c' (by omega) h') (fun p s l => ?_) (fun no => ?_)
        · exact br_f (cx_m1 (by have := s.1; omega)) (set1 (R.mpr ⟨(hg _).mpr ⟨v, ns⟩, Or.inr ⟨p, s.1, s.2.1, s.2.2⟩⟩))
        · refine br_t rfl (set0 (fun r => ?_))
          rcases (R.mp r).2 with f | ⟨p, a, b, c⟩
          · exact nf (fun p hp => f p (by omega))
          · exact no p ⟨a, b, c⟩
    · exact fun v sa => br_f (by decide) (set0 (fun r => ((hg _).mp (R.mp r).1).2 sa))
end
