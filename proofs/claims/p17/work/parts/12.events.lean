section
variable {P p cs : Nat} {K : Nat → Nat} {v : Int32} {f_procs f_maxEvents f_messages f_mode f_threshold f_witnessCut f_pathSteps : Int32} {a_counts a_values a_stamps a_senders a_sendSlots a_received a_lows a_highs a_path a_avoidable : Nat → Int32}
theorem xw_event {post : St2 → Prop} (hp : p < P) (hP : P ≤ 4) (hk : K p < 6) (hcn : ∀ i, a_counts i = nI (K i)) (hcs : cs < 28) (hne : cs ≠ p * 7 + (K p + 1))
    (h : ∀ st' : Nat → Int32, (∀ s q, s ≠ p * 7 + (K p + 1) → q < 4 → st' (s * 4 + q) = a_stamps (s * 4 + q)) → st' ((p * 7 + (K p + 1)) * 4 + p) = nI (K p + 1) →
      (∀ q, q < P → q ≠ p → st' ((p * 7 + (K p + 1)) * 4 + q) = cx_mx (a_stamps ((p * 7 + K p) * 4 + q)) (a_stamps (cs * 4 + q))) →
      post (nI P, f_maxEvents, f_messages, f_mode, f_threshold, -1, -1, upd a_counts p (nI (K p + 1)), upd a_values (p * 7 + (K p + 1)) v, st', a_senders, a_sendSlots, a_received, a_lows, a_highs, a_path, a_avoidable)) :
    wpX_addEvent post (nI P, f_maxEvents, f_messages, f_mode, f_threshold, f_witnessCut, f_pathSteps, a_counts, a_values, a_stamps, a_senders, a_sendSlots, a_received, a_lows, a_highs, a_path, a_avoidable) (nI p) v (nI cs) := by
  unfold wpX_addEvent
  refine ⟨vp_in_nI (by omega) (by omega), ?_⟩
  rw [nI_clamp (n := p) (by omega), hcn]
  refine nm_r (nI_1 (K p)) (xw_slot ⟨vp_in_nI (by omega) (by omega), nm_e ⟨vp_in_nI (by omega) (by omega), ?_⟩⟩)
  rw [nI_clamp (n := p * 7 + (K p + 1)) (by omega)]
  refine nm_e ?_
  refine cx_inv (fun n i s => wX_addEvent_37 post (nI p) (nI cs) (nI (K p + 1)) (nI (p * 7 + (K p + 1))) (nI P) f_maxEvents f_messages f_mode f_threshold f_witnessCut f_pathSteps n (nI i) (upd a_counts p (nI (K p + 1))) (upd a_values (p * 7 + (K p + 1)) v) s a_senders a_sendSlots a_received a_lows a_highs a_path a_avoidable)
    (fun i s => (∀ t q, t ≠ p * 7 + (K p + 1) → q < 4 → s (t * 4 + q) = a_stamps (t * 4 + q)) ∧ (∀ q, q < i → s ((p * 7 + (K p + 1)) * 4 + q) = cx_mx (a_stamps ((p * 7 + K p) * 4 + q)) (a_stamps (cs * 4 + q)))) P a_stamps
    ⟨fun _ _ _ _ => rfl, fun q hq => absurd hq (Nat.not_lt_zero q)⟩ (fun n s I => br_t (nI_le (Nat.le_refl P) (by omega)) ?_) (fun n i s hi I k => br_f (nI_ge hi (by omega)) ?_)
  · rw [cx_st, nI_clamp (n := (p * 7 + (K p + 1)) * 4 + p) (by omega)]
    refine ⟨vp_in_nI (by omega) (by omega), nm_e ?_⟩
    unfold wpX_forgetResults
    refine h _ (fun t q ht hq => ?_) pk_us (fun q hq hn => ?_)
    · rw [pk_un (by omega)]
      exact I.1 t q ht hq
    · rw [pk_un (by omega)]
      exact I.2 q hq
  · have e1 : nI (p * 7 + (K p + 1)) - 1 = nI (p * 7 + K p) := nI_pred (p * 7 + K p)
    have J : ∀ x, x = cx_mx (a_stamps ((p * 7 + K p) * 4 + i)) (a_stamps (cs * 4 + i)) →
        ((∀ t q, t ≠ p * 7 + (K p + 1) → q < 4 → upd s ((p * 7 + (K p + 1)) * 4 + i) x (t * 4 + q) = a_stamps (t * 4 + q)) ∧ (∀ q, q < i + 1 → upd s ((p * 7 + (K p + 1)) * 4 + i) x ((p * 7 + (K p + 1)) * 4 + q) = cx_mx (a_stamps ((p * 7 + K p) * 4 + q)) (a_stamps (cs * 4 + q)))) := by
      intro x ex
      refine ⟨fun t q ht hq => ?_, fun q hq => ?_⟩
      · rw [pk_un (by omega)]
        exact I.1 t q ht hq
      · by_cases e : q = i
        · rw [e, pk_us]
          exact ex
        · rw [pk_un (by omega)]
          exact I.2 q (by omega)
    rw [e1, cx_st (p * 7 + K p) i, cx_st cs i, cx_st (p * 7 + (K p + 1)) i, nI_clamp (n := (p * 7 + K p) * 4 + i) (by omega), nI_clamp (n := cs * 4 + i) (by omega), nI_clamp (n := (p * 7 + (K p + 1)) * 4 + i) (by omega),
      I.1 (p * 7 + K p) i (by omega) (by omega), I.1 cs i hne (by omega)]
    refine ⟨vp_in_nI (by omega) (by omega), nm_e ⟨vp_in_nI (by omega) (by omega), nm_e (br_c (fun le => ?_) (fun nle => ?_))⟩⟩
    · exact ⟨vp_in_nI (by omega) (by omega), nm_e (nm_r (nI_1 i) (k _ (J _ (cx_mx_t le).symm)))⟩
    · exact ⟨vp_in_nI (by omega) (by omega), nm_e (nm_r (nI_1 i) (k _ (J _ (cx_mx_f nle).symm)))⟩
end
