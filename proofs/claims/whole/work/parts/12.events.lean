/-! a new event, on both sides -/
theorem cx_B_ev2 {P p0 : Nat} {K : Nat → Nat} {va st ni vl s6 st' s6' m : Nat → Int32} {v : Int32} (hP : P ≤ 4) (hK : ∀ p, p < P → K p ≤ 6) (hp0 : p0 < P) (hk0 : K p0 < 6) (h : cx_B P K va st ni vl s6)
    (h1 : ∀ s q, s ≠ p0 * 7 + (K p0 + 1) → q < 4 → st' (s * 4 + q) = st (s * 4 + q)) (h2 : st' ((p0 * 7 + (K p0 + 1)) * 4 + p0) = nI (K p0 + 1)) (h2' : ∀ q, q < P → q ≠ p0 → st' ((p0 * 7 + (K p0 + 1)) * 4 + q) = m q)
    (h3 : ∀ s q, s ≠ p0 * 6 + K p0 → q < 4 → s6' (s * 4 + q) = s6 (s * 4 + q)) (h4 : s6' ((p0 * 6 + K p0) * 4 + p0) = nI (K p0 + 1)) (h4' : ∀ q, q < P → q ≠ p0 → s6' ((p0 * 6 + K p0) * 4 + q) = m q) (hm : ∀ q, q < P → ¬ m q < 0) :
    cx_B P (cx_up K p0) (upd va (p0 * 7 + (K p0 + 1)) v) st' ni (upd vl (p0 * 6 + K p0) v) s6' := by
  refine cx_B_ev (w := fun q => if q = p0 then nI (K p0 + 1) else m q) hP hK hp0 hk0 h h1 (fun q hq => ?_) h3 (fun q hq => ?_) (fun q hq => ?_)
  · by_cases e : q = p0
    · rw [if_pos e, e]; exact h2
    · rw [if_neg e]; exact h2' q hq e
  · by_cases e : q = p0
    · rw [if_pos e, e]; exact h4
    · rw [if_neg e]; exact h4' q hq e
  · show ¬ (if q = p0 then nI (K p0 + 1) else m q) < 0
    by_cases e : q = p0
    · rw [if_pos e]; exact nI_pos (by omega)
    · rw [if_neg e]; exact hm q hq
def cx_bq (k p : Nat) (s6 : Nat → Int32) (q : Nat) : Int32 := if k = 0 then 0 else s6 ((p * 6 + (k - 1)) * 4 + q)
theorem cx_bq_eq {P p q : Nat} {K : Nat → Nat} {va st ni vl s6 : Nat → Int32} (h : cx_B P K va st ni vl s6) (hp : p < P) (hq : q < P) : cx_bq (K p) p s6 q = st ((p * 7 + K p) * 4 + q) := by
  unfold cx_bq
  have b := (h p hp).2.2 q hq
  by_cases e : K p = 0
  · rw [if_pos e, e]
    exact b.1.symm
  · rw [if_neg e]
    obtain ⟨k, hk⟩ : ∃ k, K p = k + 1 := ⟨K p - 1, by omega⟩
    have b2 := b.2.1 k (by omega)
    rw [hk]
    exact b2
theorem cx_st_nn {P p q : Nat} {K : Nat → Nat} {va st ni vl s6 : Nat → Int32} (h : cx_B P K va st ni vl s6) (hp : p < P) (hq : q < P) : ¬ st ((p * 7 + K p) * 4 + q) < 0 := ((h p hp).2.2 q hq).2.2 (K p) (Nat.le_refl _)
section
variable {P p cs : Nat} {K : Nat → Nat} {v : Int32} {f_procs f_maxEvents f_messages f_mode f_threshold f_witnessCut f_pathSteps : Int32} {a_counts a_values a_stamps a_senders a_sendSlots a_received a_lows a_highs a_path a_avoidable : Nat → Int32}
theorem xw_event {post : SX → Prop} (hp : p < P) (hP : P ≤ 4) (hk : K p < 6) (hcn : ∀ i, a_counts i = nI (K i)) (hcs : cs < 28) (hne : cs ≠ p * 7 + (K p + 1))
    (h : ∀ st' : Nat → Int32, (∀ s q, s ≠ p * 7 + (K p + 1) → q < 4 → st' (s * 4 + q) = a_stamps (s * 4 + q)) → st' ((p * 7 + (K p + 1)) * 4 + p) = nI (K p + 1) →
      (∀ q, q < P → q ≠ p → st' ((p * 7 + (K p + 1)) * 4 + q) = cx_mx (a_stamps ((p * 7 + K p) * 4 + q)) (a_stamps (cs * 4 + q))) →
      post (nI P, f_maxEvents, f_messages, f_mode, f_threshold, -1, -1, upd a_counts p (nI (K p + 1)), upd a_values (p * 7 + (K p + 1)) v, st', a_senders, a_sendSlots, a_received, a_lows, a_highs, a_path, a_avoidable)) :
    wpX_addEvent post (nI P, f_maxEvents, f_messages, f_mode, f_threshold, f_witnessCut, f_pathSteps, a_counts, a_values, a_stamps, a_senders, a_sendSlots, a_received, a_lows, a_highs, a_path, a_avoidable) (nI p) v (nI cs) := by
  unfold wpX_addEvent
  refine ⟨vp_in_nI (by omega) (by omega), ?_⟩
  rw [nI_clamp (n := p) (by omega), hcn]
  refine nm_r (nI_1 (K p)) (xw_slot ⟨vp_in_nI (by omega) (by omega), nm_e ⟨vp_in_nI (by omega) (by omega), ?_⟩⟩)
  rw [nI_clamp (n := p * 7 + (K p + 1)) (by omega)]
  refine nm_e ?_
  refine cx_inv (fun n i s => wX_addEvent_37 post (nI p) (nI cs) (nI (K p + 1)) (nI (p * 7 + (K p + 1))) (nI P) f_maxEvents f_messages f_mode f_threshold f_witnessCut f_pathSteps n (nI i) (upd a_counts p (nI (K p + 1))) (upd a_values (p * 7 + (K p + 1)) v) s a_senders a_sendSlots a_received a_lows a_highs a_path a_avoidable)
    (fun i s => (∀ t q, t ≠ p * 7 + (K p + 1) → q < 4 → s (t * 4 + q) = a_stamps (t * 4 + q)) ∧ (∀ q, q < i → s ((p * 7 + (K p + 1)) * 4 + q) = cx_mx (a_stamps ((p * 7 + K p) * 4 + q)) (a_stamps (cs * 4 + q)))) P a_stamps
    ⟨fun _ _ _ _ => rfl, fun q hq => absurd hq (Nat.not_lt_zero q)⟩ (fun n s I => br_t (nI_le (Nat.le_refl P) (by omega)) ?_) (fun n i s hi I k => br_f (nI_ge hi (by omega)) ?_)
  · rw [cx_st, nI_clamp (n := (p * 7 + (K p + 1)) * 4 + p) (by omega)]
    refine ⟨vp_in_nI (by omega) (by omega), nm_e ?_⟩
    unfold wpX_forgetResults
    refine h _ (fun t q ht hq => ?_) pk_us (fun q hq hn => ?_)
    · rw [pk_un (by omega)]
      exact I.1 t q ht hq
    · rw [pk_un (by omega)]
      exact I.2 q hq
  · have e1 : nI (p * 7 + (K p + 1)) - 1 = nI (p * 7 + K p) := nI_pred (p * 7 + K p)
    have J : ∀ x, x = cx_mx (a_stamps ((p * 7 + K p) * 4 + i)) (a_stamps (cs * 4 + i)) →
        ((∀ t q, t ≠ p * 7 + (K p + 1) → q < 4 → upd s ((p * 7 + (K p + 1)) * 4 + i) x (t * 4 + q) = a_stamps (t * 4 + q)) ∧ (∀ q, q < i + 1 → upd s ((p * 7 + (K p + 1)) * 4 + i) x ((p * 7 + (K p + 1)) * 4 + q) = cx_mx (a_stamps ((p * 7 + K p) * 4 + q)) (a_stamps (cs * 4 + q)))) := by
      intro x ex
      refine ⟨fun t q ht hq => ?_, fun q hq => ?_⟩
      · rw [pk_un (by omega)]
        exact I.1 t q ht hq
      · by_cases e : q = i
        · rw [e, pk_us]
          exact ex
        · rw [pk_un (by omega)]
          exact I.2 q (by omega)
    rw [e1, cx_st (p * 7 + K p) i, cx_st cs i, cx_st (p * 7 + (K p + 1)) i, nI_clamp (n := (p * 7 + K p) * 4 + i) (by omega), nI_clamp (n := cs * 4 + i) (by omega), nI_clamp (n := (p * 7 + (K p + 1)) * 4 + i) (by omega),
      I.1 (p * 7 + K p) i (by omega) (by omega), I.1 cs i hne (by omega)]
    refine ⟨vp_in_nI (by omega) (by omega), nm_e ⟨vp_in_nI (by omega) (by omega), nm_e (br_c (fun le => ?_) (fun nle => ?_))⟩⟩
    · exact ⟨vp_in_nI (by omega) (by omega), nm_e (nm_r (nI_1 i) (k _ (J _ (cx_mx_t le).symm)))⟩
    · exact ⟨vp_in_nI (by omega) (by omega), nm_e (nm_r (nI_1 i) (k _ (J _ (cx_mx_f nle).symm)))⟩
end
section
variable {P p : Nat} {K : Nat → Nat} {v mg : Int32} {w : Nat → Int32} {f_procs f_maxEv f_mode f_thr f_msgCount f_hasWit f_hasPath f_pathLen : Int32} {a_init a_lo a_hi a_cnt a_val a_st a_msgP a_msgK a_msgRecv a_wit a_path a_reach : Nat → Int32}
theorem yw_event {post : SY → Prop} (hp : p < 4) (hk : K p < 6) (hcn : ∀ i, a_cnt i = nI (K i))
    (hw : (mg = -1 ∧ ∀ q, q < 4 → w q = cx_bq (K p) p a_st q) ∨ ∃ m sp sk : Nat, m < 16 ∧ mg = nI m ∧ sp < 4 ∧ sk < 6 ∧ a_msgP m = nI sp ∧ a_msgK m = nI (sk + 1) ∧ sp * 6 + sk ≠ p * 6 + K p ∧ ∀ q, q < 4 → w q = cx_mx (cx_bq (K p) p a_st q) (a_st ((sp * 6 + sk) * 4 + q)))
    (h : ∀ s6 : Nat → Int32, (∀ s q, s ≠ p * 6 + K p → q < 4 → s6 (s * 4 + q) = a_st (s * 4 + q)) → s6 ((p * 6 + K p) * 4 + p) = nI (K p + 1) → (∀ q, q < 4 → q ≠ p → s6 ((p * 6 + K p) * 4 + q) = w q) →
      post (f_procs, f_maxEv, f_mode, f_thr, f_msgCount, 0, 0, f_pathLen, a_init, a_lo, a_hi, upd a_cnt p (nI (K p + 1)), upd a_val (p * 6 + K p) v, s6, a_msgP, a_msgK, a_msgRecv, a_wit, a_path, a_reach)) :
    wpY_addEvent post (f_procs, f_maxEv, f_mode, f_thr, f_msgCount, f_hasWit, f_hasPath, f_pathLen, a_init, a_lo, a_hi, a_cnt, a_val, a_st, a_msgP, a_msgK, a_msgRecv, a_wit, a_path, a_reach) (nI p) v mg := by
  unfold wpY_addEvent
  refine ⟨vp_in_nI (by omega) (by omega), ?_⟩
  rw [nI_clamp (n := p) (by omega), hcn]
  refine nm_r (nI_1 (K p)) ?_
  rw [cx_y6, nI_clamp (n := p * 6 + K p) (by omega)]
  refine ⟨vp_in_nI (by omega) (by omega), nm_e ?_⟩
  refine cx_inv (fun n i s => wY_addEvent_28 post (nI p) mg (nI (K p + 1)) f_procs f_maxEv f_mode f_thr f_msgCount f_hasWit f_hasPath f_pathLen n (nI i) a_init a_lo a_hi a_cnt (upd a_val (p * 6 + K p) v) s a_msgP a_msgK a_msgRecv a_wit a_path a_reach)
    (fun i s => (∀ t q, t ≠ p * 6 + K p → q < 4 → s (t * 4 + q) = a_st (t * 4 + q)) ∧ (∀ q, q < i → s ((p * 6 + K p) * 4 + q) = w q)) 4 a_st
    ⟨fun _ _ _ _ => rfl, fun q hq => absurd hq (Nat.not_lt_zero q)⟩ (fun n s I => br_t (nI_le (a := 4) (b := 4) (Nat.le_refl _) (by omega)) ?_) (fun n i s hi I k => br_f (nI_ge (b := 4) hi (by omega)) ?_)
  · refine yw_idx ⟨vp_in_nI (by omega) (by omega), ?_⟩
    rw [nI_clamp (n := (p * 6 + K p) * 4 + p) (by omega)]
    refine nm_e ⟨vp_in_nI (by omega) (by omega), ?_⟩
    rw [nI_clamp (n := p) (by omega)]
    refine nm_e ?_
    unfold wpY_clearResults
    refine h _ (fun t q ht hq => ?_) pk_us (fun q hq hn => ?_)
    · rw [pk_un (by omega)]
      exact I.1 t q ht hq
    · rw [pk_un (by omega)]
      exact I.2 q hq
  · have H101 : ∀ x, x = w i → wY_addEvent_101 post (wY_addEvent_28 post (nI p) mg (nI (K p + 1)) f_procs f_maxEv f_mode f_thr f_msgCount f_hasWit f_hasPath f_pathLen n) (nI p) mg (nI (K p + 1)) (nI i) x f_procs f_maxEv f_mode f_thr f_msgCount f_hasWit f_hasPath f_pathLen a_init a_lo a_hi a_cnt (upd a_val (p * 6 + K p) v) s a_msgP a_msgK a_msgRecv a_wit a_path a_reach := by
      intro x ex
      unfold wY_addEvent_101
      refine yw_idx ⟨vp_in_nI (by omega) (by omega), ?_⟩
      rw [nI_clamp (n := (p * 6 + K p) * 4 + i) (by omega)]
      refine nm_e (nm_r (nI_1 i) (k _ ⟨fun t q ht hq => ?_, fun q hq => ?_⟩))
      · rw [pk_un (by omega)]
        exact I.1 t q ht hq
      · by_cases e : q = i
        · rw [e, pk_us]
          exact ex
        · rw [pk_un (by omega)]
          exact I.2 q (by omega)
    have H61 : wY_addEvent_61 post (wY_addEvent_28 post (nI p) mg (nI (K p + 1)) f_procs f_maxEv f_mode f_thr f_msgCount f_hasWit f_hasPath f_pathLen n) (nI p) mg (nI (K p + 1)) (nI i) (cx_bq (K p) p a_st i) f_procs f_maxEv f_mode f_thr f_msgCount f_hasWit f_hasPath f_pathLen a_init a_lo a_hi a_cnt (upd a_val (p * 6 + K p) v) s a_msgP a_msgK a_msgRecv a_wit a_path a_reach := by
      rcases hw with ⟨em, hw⟩ | ⟨m, sp, sk, hm, em, hsp, hsk, e1, e2, hne, hw⟩
      · refine br_t (by rw [em]; decide) (H101 _ (hw i hi).symm)
      · refine br_f (by rw [em]; exact nI_pos (by omega)) ⟨by rw [em]; exact vp_in_nI hm (by omega), by rw [em]; exact vp_in_nI hm (by omega), ?_⟩
        have cl : mg.toNatClampNeg = m := by rw [em]; exact nI_clamp (by omega)
        rw [cl, e1, e2]
        refine yw_idx ⟨vp_in_nI (by omega) (by omega), ?_⟩
        rw [nI_clamp (n := (sp * 6 + sk) * 4 + i) (by omega), I.1 (sp * 6 + sk) i hne hi]
        exact nm_e (br_c (fun le => H101 _ (by rw [hw i hi]; exact (cx_mx_t le).symm)) (fun nle => H101 _ (by rw [hw i hi]; exact (cx_mx_f nle).symm)))
    refine pk_le (K p + 1) 1 (fun le => ?_) (fun lt => ?_)
    · have e0 : K p = 0 := by omega
      have eb : cx_bq (K p) p a_st i = 0 := if_pos e0
      rw [eb] at H61
      exact H61
    · obtain ⟨kk, hkk⟩ : ∃ kk, K p = kk + 1 := ⟨K p - 1, by omega⟩
      have eb : cx_bq (K p) p a_st i = a_st ((p * 6 + kk) * 4 + i) := by
        unfold cx_bq
        rw [if_neg (by omega), hkk]
        rfl
      have ep : nI (K p + 1) - 1 = nI (kk + 1) := by rw [hkk]; exact nI_pred (kk + 1)
      rw [ep]
      refine yw_idx ⟨vp_in_nI (by omega) (by omega), ?_⟩
      rw [nI_clamp (n := (p * 6 + kk) * 4 + i) (by omega), I.1 (p * 6 + kk) i (by omega) hi, ← eb]
      exact nm_e H61
end
