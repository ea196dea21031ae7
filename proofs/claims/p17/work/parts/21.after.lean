/-! behind the walk over all cuts: path and witness -/
theorem cx_dR_0 (P R : Nat) : cx_dR P R 0 = fun _ => 0 := by
  funext p
  unfold cx_dR
  by_cases e : p < P
  · rw [if_pos e, Nat.zero_div, Nat.zero_mod]
  · rw [if_neg e]
section
variable {post : Int32 → Prop} {L P R kc ks : Nat} {K : Nat → Nat} {xs : Nat → Int32} {J170 : Int32 → Int32 → Int32 → Int32 → Int32 → Int32 → Int32 → Int32 → (Nat → Int32) → (Nat → Int32) → (Nat → Int32) → (Nat → Int32) → (Nat → Int32) → (Nat → Int32) → (Nat → Int32) → (Nat → Int32) → (Nat → Int32) → (Nat → Int32) → Prop} {x8 x9 : Int32} {x21 x23 : Int64} {G : (Nat → Nat) → Prop} {f_procs f_maxEvents f_messages f_mode f_threshold f_witnessCut f_pathSteps : Int32} {a_counts a_values a_stamps a_senders a_sendSlots a_received a_lows a_highs a_path a_avoidable : Nat → Int32}
theorem la_1021 (hb : cx_PR P R) (hKR : ∀ p, K p < R) (hz : ∀ p, P ≤ p → K p = 0) (hG : ∀ d, G d → ∀ p, p < 4 → d p ≤ K p)
    (hbit : ∀ j, j < R ^ P → (cx_bt x21 x23 j = true ↔ cx_R G K P (cx_dR P R j))) (h0 : cx_R G K P (fun _ => 0)) (hpa : ∀ j, j < cx_lv K → a_path j = nI (cx_ls (cx_S G K P (cx_D G K P j))))
    (hJ : J170 (x9 + 1) (nI P) f_maxEvents f_messages f_mode f_threshold f_witnessCut (nI (cx_lv K)) a_counts a_values a_stamps a_senders a_sendSlots a_received a_lows a_highs a_path a_avoidable) :
    ∃ n, wL_law_1021 post L xs J170 (nI P) (nI R) (nI (R ^ P)) f_mode f_threshold x8 x9 (nI (K 0)) (nI (K 1)) (nI (K 2)) (nI (K 3)) (nI (cx_lv K)) x21 x23 kc ks (nI P) f_maxEvents f_messages f_mode f_threshold f_witnessCut (nI (cx_lv K)) a_counts a_values a_stamps a_senders a_sendSlots a_received a_lows a_highs a_path a_avoidable n 0 0 := by
  obtain ⟨b1, b2, b3, b4, b5, b6⟩ := cx_PR_b hb
  have hK6 : ∀ p, p < 4 → K p ≤ 6 := fun p _ => by have := hKR p; omega
  have T24 := cx_lv_6 hK6
  have main : ∀ m i c, i + m = cx_lv K → c < R ^ P → cx_dR P R c = cx_D G K P i →
      wL_law_1021 post L xs J170 (nI P) (nI R) (nI (R ^ P)) f_mode f_threshold x8 x9 (nI (K 0)) (nI (K 1)) (nI (K 2)) (nI (K 3)) (nI (cx_lv K)) x21 x23 kc ks (nI P) f_maxEvents f_messages f_mode f_threshold f_witnessCut (nI (cx_lv K)) a_counts a_values a_stamps a_senders a_sendSlots a_received a_lows a_highs a_path a_avoidable (m + 1) (nI c) (nI i) := by
    intro m
    induction m with
    | zero =>
      intro i c hi hc hd
      have e : i = cx_lv K := by omega
      subst e
      exact br_t (nI_le (Nat.le_refl _) (by omega)) (xo_pathStepE T24 (br_t rfl (nm_e hJ)))
    | succ m ih =>
      intro i c hi hc hd
      have hl : i < cx_lv K := by omega
      have s := cx_D_st hG b2 hK6 h0 hl
      have es := cx_D_s G K P i
      have pi := hpa i hl
      rw [← hd] at s es pi
      generalize cx_ls (cx_S G K P (cx_dR P R c)) = l at s es pi
      have sl := s.1.1
      have kl := hKR l
      obtain ⟨st1, st2⟩ := cx_dR_step hb hc sl (by have := s.1.2.1; omega)
      refine br_f (nI_ge hl (by omega)) ?_
      have F := cx_fold (fun q p x => wL_law_1034 post L xs J170 (wL_law_1021 post L xs J170 (nI P) (nI R) (nI (R ^ P)) f_mode f_threshold x8 x9 (nI (K 0)) (nI (K 1)) (nI (K 2)) (nI (K 3)) (nI (cx_lv K)) x21 x23 kc ks (nI P) f_maxEvents f_messages f_mode f_threshold f_witnessCut (nI (cx_lv K)) a_counts a_values a_stamps a_senders a_sendSlots a_received a_lows a_highs a_path a_avoidable (m + 1)) (nI P) (nI R) (nI (R ^ P)) f_mode f_threshold x8 x9 (nI (K 0)) (nI (K 1)) (nI (K 2)) (nI (K 3)) (nI (cx_lv K)) x21 x23 (nI c) (nI i) kc ks (nI P) f_maxEvents f_messages f_mode f_threshold f_witnessCut (nI (cx_lv K)) a_counts a_values a_stamps a_senders a_sendSlots a_received a_lows a_highs a_path a_avoidable q x (nI p)) P (fun p => if l < p then nI l else -1)
        (fun q => br_t (nI_le (Nat.le_refl P) (by omega)) ?_) (fun q p hp k => br_f (nI_ge hp (by omega)) ?_)
      · exact F
      · rw [if_pos sl]
        refine br_f (nI_pos (by omega)) (xo_pathStep T24 hl (br_t pi (la_pw (by omega) ?_)))
        exact nm_r (nI_add _ _) (nm_r (nI_1 i) (ih (i + 1) (c + R ^ l) (by omega) st2 (by rw [st1, es])))
      · have k' : wL_law_1034 post L xs J170 (wL_law_1021 post L xs J170 (nI P) (nI R) (nI (R ^ P)) f_mode f_threshold x8 x9 (nI (K 0)) (nI (K 1)) (nI (K 2)) (nI (K 3)) (nI (cx_lv K)) x21 x23 kc ks (nI P) f_maxEvents f_messages f_mode f_threshold f_witnessCut (nI (cx_lv K)) a_counts a_values a_stamps a_senders a_sendSlots a_received a_lows a_highs a_path a_avoidable (m + 1)) (nI P) (nI R) (nI (R ^ P)) f_mode f_threshold x8 x9 (nI (K 0)) (nI (K 1)) (nI (K 2)) (nI (K 3)) (nI (cx_lv K)) x21 x23 (nI c) (nI i) kc ks (nI P) f_maxEvents f_messages f_mode f_threshold f_witnessCut (nI (cx_lv K)) a_counts a_values a_stamps a_senders a_sendSlots a_received a_lows a_highs a_path a_avoidable q (if l < p + 1 then nI l else -1) (nI (p + 1)) := k
        by_cases lp : l < p
        · rw [if_pos (by omega)] at k'
          rw [if_pos lp]
          exact br_t (nI_pos' (by omega)) (nm_r (nI_1 p) k')
        · rw [if_neg lp]
          have kn : ¬ (cx_S G K P (cx_dR P R c) p) → wL_law_1034 post L xs J170 (wL_law_1021 post L xs J170 (nI P) (nI R) (nI (R ^ P)) f_mode f_threshold x8 x9 (nI (K 0)) (nI (K 1)) (nI (K 2)) (nI (K 3)) (nI (cx_lv K)) x21 x23 kc ks (nI P) f_maxEvents f_messages f_mode f_threshold f_witnessCut (nI (cx_lv K)) a_counts a_values a_stamps a_senders a_sendSlots a_received a_lows a_highs a_path a_avoidable (m + 1)) (nI P) (nI R) (nI (R ^ P)) f_mode f_threshold x8 x9 (nI (K 0)) (nI (K 1)) (nI (K 2)) (nI (K 3)) (nI (cx_lv K)) x21 x23 (nI c) (nI i) kc ks (nI P) f_maxEvents f_messages f_mode f_threshold f_witnessCut (nI (cx_lv K)) a_counts a_values a_stamps a_senders a_sendSlots a_received a_lows a_highs a_path a_avoidable q (-1) (nI (p + 1)) := by
            intro z
            have ne : l ≠ p := fun e => z (by rw [← e]; exact s.1)
            rw [if_neg (by omega)] at k'
            exact k'
          have dl := (cx_dR_Dg (P := P) (R := R) (c := c) (by omega)).1 p hp
          have kp := hKR p
          refine br_f (by decide) (la_compD hb hc (by omega) (la_pick (by omega) ?_))
          refine cx_le (by omega) (by omega) (fun le => nm_r (nI_1 p) (kn (fun z => by have := z.2.1; omega))) (fun nle => la_pw (by omega) ?_)
          obtain ⟨s1, s2⟩ := cx_dR_step hb hc hp (by omega)
          have hb' := hbit (c + R ^ p) s2
          rw [s1] at hb'
          rw [nI_add]
          refine la_bit (by omega) (fun t => br_f xw_10 (nm_r (nI_1 p) ?_)) (fun f => br_t rfl (nm_r (nI_1 p) (kn (fun z => ?_))))
          · have sp : cx_S G K P (cx_dR P R c) p := ⟨hp, by omega, hb'.mp t⟩
            have e : l = p := by
              have : ¬ p < l := fun z => s.2 p z sp
              omega
            rw [if_pos (by omega), e] at k'
            exact k'
          · have t := hb'.mpr z.2.2
            rw [f] at t
            exact Bool.noConfusion t
  exact ⟨_, main (cx_lv K) 0 0 (by omega) (by omega) (cx_dR_0 P R)⟩
end
section
variable {post : Int32 → Prop} {L P R kc ks : Nat} {K : Nat → Nat} {xs : Nat → Int32} {J170 : Int32 → Int32 → Int32 → Int32 → Int32 → Int32 → Int32 → Int32 → (Nat → Int32) → (Nat → Int32) → (Nat → Int32) → (Nat → Int32) → (Nat → Int32) → (Nat → Int32) → (Nat → Int32) → (Nat → Int32) → (Nat → Int32) → (Nat → Int32) → Prop} {x8 x9 x17 x18 : Int32} {x21 x23 : Int64} {f_procs f_maxEvents f_messages f_mode f_threshold f_witnessCut f_pathSteps : Int32} {a_counts a_values a_stamps a_senders a_sendSlots a_received a_lows a_highs a_path a_avoidable : Nat → Int32}
theorem la_976 (E : cx_Env L xs P R K a_counts a_values a_stamps a_lows a_highs)
    (hbit : ∀ j, j < R ^ P → (cx_bt x21 x23 j = true ↔ cx_R (cx_G P K a_stamps f_mode f_threshold a_values a_lows a_highs) K P (cx_dR P R j)))
    (hJ : ∀ (wc ps : Int32) (pa av : Nat → Int32), J170 (x9 + 1) (nI P) f_maxEvents f_messages f_mode f_threshold wc ps a_counts a_values a_stamps a_senders a_sendSlots a_received a_lows a_highs pa av) :
    wL_law_976 post L xs J170 (nI P) (nI R) (nI (R ^ P)) f_mode f_threshold x8 x9 (nI (K 0)) (nI (K 1)) (nI (K 2)) (nI (K 3)) (nI (cx_lv K)) x21 x23 kc ks (nI P) f_maxEvents f_messages f_mode f_threshold f_witnessCut f_pathSteps a_counts a_values a_stamps a_senders a_sendSlots a_received a_lows a_highs a_path a_avoidable := by
  obtain ⟨hL, hb, hcn, hKR, hz, hva, hlh, hst⟩ := id E
  obtain ⟨b1, b2, b3, b4, b5, b6⟩ := cx_PR_b hb
  have hb0 := hbit 0 b6
  rw [cx_dR_0] at hb0
  unfold wL_law_976
  refine la_bit (i := 0) (by omega) (fun t => ?_) (fun f => ?_)
  · refine xw_definitely b2 hcn (cx_Env_6 E) hz (fun nr => absurd (hb0.mp t) nr) (fun r av pa hpa => ?_)
    refine br_f (by decide) (br_f xw_10 (br_t rfl ?_))
    exact la_1021 hb hKR hz cx_G_K hbit r hpa (hJ _ _ _ _)
  · refine xw_definitely b2 hcn (cx_Env_6 E) hz (fun nr av => ?_) (fun r => ?_)
    · exact br_f (by decide) (br_t rfl (br_t rfl (nm_e (hJ _ _ _ _))))
    · have t := hb0.mpr r
      rw [f] at t
      exact Bool.noConfusion t
theorem la_929 {b c8 : Nat} (hb : cx_PR P R) (hbT : b < R ^ P) (h8 : c8 < 4096) (e : cx_d8 c8 = cx_dR P R b) (h : wL_law_976 post L xs J170 (nI P) (nI R) (nI (R ^ P)) f_mode f_threshold x8 x9 (nI (K 0)) (nI (K 1)) (nI (K 2)) (nI (K 3)) (nI (cx_lv K)) x21 x23 kc ks (nI P) f_maxEvents f_messages f_mode f_threshold (nI c8) f_pathSteps a_counts a_values a_stamps a_senders a_sendSlots a_received a_lows a_highs a_path a_avoidable) :
    ∃ n, wL_law_929 post L xs J170 (nI P) (nI R) (nI (R ^ P)) f_mode f_threshold x8 x9 (nI (K 0)) (nI (K 1)) (nI (K 2)) (nI (K 3)) (nI (cx_lv K)) (nI b) x21 x23 kc ks (nI P) f_maxEvents f_messages f_mode f_threshold (nI c8) f_pathSteps a_counts a_values a_stamps a_senders a_sendSlots a_received a_lows a_highs a_path a_avoidable n 0 := by
  obtain ⟨b1, b2, b3, b4, b5, b6⟩ := cx_PR_b hb
  have F := cx_fold (σ := Unit) (fun n i _ => wL_law_929 post L xs J170 (nI P) (nI R) (nI (R ^ P)) f_mode f_threshold x8 x9 (nI (K 0)) (nI (K 1)) (nI (K 2)) (nI (K 3)) (nI (cx_lv K)) (nI b) x21 x23 kc ks (nI P) f_maxEvents f_messages f_mode f_threshold (nI c8) f_pathSteps a_counts a_values a_stamps a_senders a_sendSlots a_received a_lows a_highs a_path a_avoidable n (nI i)) P (fun _ => ()) (fun n => br_t (nI_le (Nat.le_refl P) (by omega)) h)
    (fun n i hi k => br_f (nI_ge hi (by omega)) (xo_witness h8 hi b2 (la_compD hb hbT (by omega) (br_t (by rw [e]) (nm_r (nI_1 i) k)))))
  exact F
end
