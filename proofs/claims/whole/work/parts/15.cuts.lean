/-! the owed statements over cuts -/
theorem cx_dd (a b c e : Nat) : ∃ d : Nat → Nat, d 0 = a ∧ d 1 = b ∧ d 2 = c ∧ d 3 = e ∧ ∀ p, 4 ≤ p → d p = 0 :=
  ⟨fun p => if p = 0 then a else if p = 1 then b else if p = 2 then c else if p = 3 then e else 0, rfl, rfl, rfl, rfl, fun p hp => by
    show (if p = 0 then a else if p = 1 then b else if p = 2 then c else if p = 3 then e else 0) = 0
    rw [if_neg (by omega), if_neg (by omega), if_neg (by omega), if_neg (by omega)]⟩
section
variable {P : Nat} {K : Nat → Nat} {x0 x1 x2 x3 : Int32} {f_procs f_maxEvents f_messages f_mode f_threshold f_witnessCut f_pathSteps : Int32} {a_counts a_values a_stamps a_senders a_sendSlots a_received a_lows a_highs a_path a_avoidable : Nat → Int32}
theorem xw_cut0 {post : Int32 → Prop} (h : ¬ (cx_Ok x0 7 ∧ cx_Ok x1 7 ∧ cx_Ok x2 7 ∧ cx_Ok x3 7)) (h0 : post 0) : wpX_cutState post (f_procs, f_maxEvents, f_messages, f_mode, f_threshold, f_witnessCut, f_pathSteps, a_counts, a_values, a_stamps, a_senders, a_sendSlots, a_received, a_lows, a_highs, a_path, a_avoidable) x0 x1 x2 x3 := by
  unfold wpX_cutState
  refine xw_fits (fun o0 => br_f xw_10 ?_) (fun _ => br_t rfl h0)
  refine xw_fits (fun o1 => br_f xw_10 ?_) (fun _ => br_t rfl h0)
  refine xw_fits (fun o2 => br_f xw_10 ?_) (fun _ => br_t rfl h0)
  exact xw_fits (fun o3 => absurd ⟨o0, o1, o2, o3⟩ h) (fun _ => br_t rfl h0)
theorem xw_cut {post : Int32 → Prop} {d : Nat → Nat} (hP : P ≤ 4) (hcn : ∀ i, a_counts i = nI (K i)) (hK : ∀ p, p < 4 → K p ≤ 6) (h8 : ∀ p, p < 4 → d p < 8) (h4 : ∀ p, 4 ≤ p → d p = 0)
    (h0 : ¬ cx_Va K d → post 0) (h1 : cx_Va K d → ¬ cx_Co P a_stamps d → post 1)
    (h2 : cx_V P K a_stamps d → ¬ cx_Sa P f_mode f_threshold a_values a_lows a_highs d → post 2) (h3 : cx_V P K a_stamps d → cx_Sa P f_mode f_threshold a_values a_lows a_highs d → post 3) :
    wpX_cutState post (nI P, f_maxEvents, f_messages, f_mode, f_threshold, f_witnessCut, f_pathSteps, a_counts, a_values, a_stamps, a_senders, a_sendSlots, a_received, a_lows, a_highs, a_path, a_avoidable) (nI (d 0)) (nI (d 1)) (nI (d 2)) (nI (d 3)) := by
  have d0 := h8 0 (by omega)
  have d1 := h8 1 (by omega)
  have d2 := h8 2 (by omega)
  have d3 := h8 3 (by omega)
  have hc := cx_c8_lt h8
  have hd := cx_8_of h8 h4
  unfold wpX_cutState
  refine xw_fits (fun _ => br_f xw_10 ?_) (fun n => absurd ⟨d 0, by omega, rfl⟩ n)
  refine xw_fits (fun _ => br_f xw_10 ?_) (fun n => absurd ⟨d 1, by omega, rfl⟩ n)
  refine xw_fits (fun _ => br_f xw_10 ?_) (fun n => absurd ⟨d 2, by omega, rfl⟩ n)
  refine xw_fits (fun _ => br_f xw_10 ?_) (fun n => absurd ⟨d 3, by omega, rfl⟩ n)
  have sh : ∀ {n : Nat}, n < 4096 → nI n <<< ((3 : Int32) &&& 31) = nI (n * 8) := fun {n} hn => pk_shlN (n := n) _ 3 (by decide) (by omega)
  refine nm_r (e' := nI (d 0 * 8 + d 1)) (by rw [sh (by omega), nI_add]) ?_
  refine nm_r (e' := nI ((d 0 * 8 + d 1) * 8 + d 2)) (by rw [sh (by omega), nI_add]) ?_
  refine nm_r (e' := nI (cx_c8 d)) (by rw [sh (by omega), nI_add]; exact congrArg nI (by unfold cx_c8; omega)) ?_
  refine xw_state hc hP hcn hK ?_ ?_ ?_ ?_
  · rw [hd]; exact h0
  · rw [hd]; exact h1
  · rw [hd]; exact h2
  · rw [hd]; exact h3
end
section
variable {P : Nat} {K : Nat → Nat} {va st : Nat → Int32} {x0 x1 x2 x3 : Int32} {f_procs f_maxEv f_mode f_thr f_msgCount f_hasWit f_hasPath f_pathLen : Int32} {a_init a_lo a_hi a_cnt a_val a_st a_msgP a_msgK a_msgRecv a_wit a_path a_reach : Nat → Int32}
theorem yw_cut0 {post : Int32 → Prop} (hcn : ∀ i, a_cnt i = nI (K i)) (hK : ∀ p, p < 4 → K p ≤ 6) (h : ¬ (cx_Ok x0 (K 0) ∧ cx_Ok x1 (K 1) ∧ cx_Ok x2 (K 2) ∧ cx_Ok x3 (K 3))) (h0 : post 0) : wpY_cutState post (f_procs, f_maxEv, f_mode, f_thr, f_msgCount, f_hasWit, f_hasPath, f_pathLen, a_init, a_lo, a_hi, a_cnt, a_val, a_st, a_msgP, a_msgK, a_msgRecv, a_wit, a_path, a_reach) x0 x1 x2 x3 := by
  have k0 := hK 0 (by omega)
  have k1 := hK 1 (by omega)
  have k2 := hK 2 (by omega)
  have k3 := hK 3 (by omega)
  unfold wpY_cutState
  dsimp only
  rw [hcn 0, hcn 1, hcn 2, hcn 3]
  refine br_c (fun _ => h0) (fun a0 => br_c (fun _ => h0) (fun b0 => br_c (fun _ => h0) (fun a1 => br_c (fun b1 => ?_) (fun _ => h0))))
  refine br_c (fun _ => h0) (fun a2 => br_c (fun _ => h0) (fun b2 => br_c (fun _ => h0) (fun a3 => br_c (fun b3 => ?_) (fun _ => h0))))
  exact absurd ⟨cx_ok (by omega) a0 b0, cx_ok (by omega) a1 (Int32.not_lt.mpr b1), cx_ok (by omega) a2 b2, cx_ok (by omega) a3 (Int32.not_lt.mpr b3)⟩ h
theorem yw_cut {post : Int32 → Prop} {d : Nat → Nat} (hP : P ≤ 4) (hcn : ∀ i, a_cnt i = nI (K i)) (hK : ∀ p, p < 4 → K p ≤ 6) (hB : cx_B P K va st a_init a_val a_st) (h4 : ∀ p, 4 ≤ p → d p = 0) (hv : cx_Va K d)
    (h1 : ¬ cx_Co P st d → post 1) (h2 : cx_Co P st d → ¬ cx_Sa P f_mode f_thr va a_lo a_hi d → post 2) (h3 : cx_Co P st d → cx_Sa P f_mode f_thr va a_lo a_hi d → post 3) :
    wpY_cutState post (nI P, f_maxEv, f_mode, f_thr, f_msgCount, f_hasWit, f_hasPath, f_pathLen, a_init, a_lo, a_hi, a_cnt, a_val, a_st, a_msgP, a_msgK, a_msgRecv, a_wit, a_path, a_reach) (nI (d 0)) (nI (d 1)) (nI (d 2)) (nI (d 3)) := by
  have k0 := hK 0 (by omega)
  have k1 := hK 1 (by omega)
  have k2 := hK 2 (by omega)
  have k3 := hK 3 (by omega)
  have v0 := hv 0 (by omega)
  have v1 := hv 1 (by omega)
  have v2 := hv 2 (by omega)
  have v3 := hv 3 (by omega)
  have h7 : ∀ p, p < 4 → d p < 7 := fun p hp => by have a := hv p hp; have b := hK p hp; omega
  have hc := cx_c7_lt h7
  have hd := cx_7_of h7 h4
  have hv' : cx_Va K (cx_d7 (cx_c7 d)) := by rw [hd]; exact hv
  unfold wpY_cutState
  dsimp only
  rw [hcn 0, hcn 1, hcn 2, hcn 3]
  refine br_f (nI_pos (by omega)) (br_f (nI_nlt (by omega) (by omega)) (br_f (nI_pos (by omega)) (br_t (nI_le (by omega) (by omega)) ?_)))
  refine br_f (nI_pos (by omega)) (br_f (nI_nlt (by omega) (by omega)) (br_f (nI_pos (by omega)) (br_t (nI_le (by omega) (by omega)) ?_)))
  have e0 : nI (d 0) * 343 = nI (d 0 * 343) := pk_mul (d 0) 343
  have e1 : nI (d 1) * 49 = nI (d 1 * 49) := pk_mul (d 1) 49
  have e2 : nI (d 2) * 7 = nI (d 2 * 7) := pk_mul (d 2) 7
  refine nm_r (e' := nI (cx_c7 d)) (by rw [e0, e1, e2, nI_add, nI_add, nI_add]; exact congrArg nI (by unfold cx_c7; omega)) ?_
  refine yw_cons hc hP hB hv' (fun co => br_f xw_10 ?_) (fun nc => br_t rfl (h1 (by rw [hd] at nc; exact nc)))
  rw [hd] at co
  exact yw_sat hc hP hB hv' (fun s => br_f xw_10 (h3 co (by rw [hd] at s; exact s))) (fun s => br_t rfl (h2 co (by rw [hd] at s; exact s)))
end
theorem cx_ok_7 {x : Int32} {k : Nat} (h : cx_Ok x k) (hk : k ≤ 6) : cx_Ok x 7 := by
  obtain ⟨j, hj, e⟩ := h
  exact ⟨j, by omega, e⟩
theorem cx_ok_n {a k : Nat} (h : cx_Ok (nI a) k) (ha : a < 8) (hk : k ≤ 6) : a ≤ k := by
  obtain ⟨j, hj, e⟩ := h
  rw [nI_eq (by omega) (by omega)] at e
  omega
theorem i_vc_cutState {k : Nat} {u : SX} {v : SY} (I : i_Rel k u v) (hk : k + 5 ≤ 2562) (v1 : Int32) (v2 : Int32) (v3 : Int32) (v4 : Int32) : wpX_cutState (fun r => wpY_cutState (fun r' => r' = r ∧ i_Rel (k + 5) u v) v v1 v2 v3 v4) u v1 v2 v3 v4 := by
  obtain ⟨P, E, M, K, md, th, wc, ps, hw, hp, pl, cn, va, st, sp, ss, rc, lo, hi, pa, av, ni, vl, s6, mk, wt, py, rh, rfl, rfl, hcn, hN, hB, hC, hW, hPt⟩ := I
  obtain ⟨n1, n2, n3, n4, n5, n6⟩ := id hN
  have hK : ∀ p, p < 4 → K p ≤ 6 := fun p _ => cx_N_6 hN p
  have rel : i_Rel (k + 5) (nI P, nI E, nI M, md, th, wc, ps, cn, va, st, sp, ss, rc, lo, hi, pa, av) (nI P, nI E, md, th, nI M, hw, hp, pl, ni, lo, hi, cn, vl, s6, sp, mk, rc, wt, py, rh) := cx_mk hcn hN hB hC hW hPt
  by_cases o : cx_Ok v1 7 ∧ cx_Ok v2 7 ∧ cx_Ok v3 7 ∧ cx_Ok v4 7
  · obtain ⟨⟨a, ha, rfl⟩, ⟨b, hb, rfl⟩, ⟨c, hc, rfl⟩, ⟨e, he, rfl⟩⟩ := o
    obtain ⟨d, rfl, rfl, rfl, rfl, h4⟩ := cx_dd a b c e
    have h8 : ∀ p, p < 4 → d p < 8 := fun p hp => by rcases cx_p4 hp with rfl | rfl | rfl | rfl <;> omega
    refine xw_cut n2 hcn hK h8 h4 (fun nv => ?_) (fun v nc => ?_) (fun v ns => ?_) (fun v s => ?_)
    · refine yw_cut0 hcn hK (fun z => nv (fun p hp => ?_)) ⟨rfl, rel⟩
      rcases cx_p4 hp with rfl | rfl | rfl | rfl
      · exact cx_ok_n z.1 (by omega) (hK 0 (by omega))
      · exact cx_ok_n z.2.1 (by omega) (hK 1 (by omega))
      · exact cx_ok_n z.2.2.1 (by omega) (hK 2 (by omega))
      · exact cx_ok_n z.2.2.2 (by omega) (hK 3 (by omega))
    · exact yw_cut n2 hcn hK hB h4 v (fun _ => ⟨rfl, rel⟩) (fun co _ => absurd co nc) (fun co _ => absurd co nc)
    · exact yw_cut n2 hcn hK hB h4 v.1 (fun nc => absurd v.2 nc) (fun _ _ => ⟨rfl, rel⟩) (fun _ s => absurd s ns)
    · exact yw_cut n2 hcn hK hB h4 v.1 (fun nc => absurd v.2 nc) (fun _ ns => absurd s ns) (fun _ _ => ⟨rfl, rel⟩)
  · refine xw_cut0 o (yw_cut0 hcn hK (fun z => o ?_) ⟨rfl, rel⟩)
    exact ⟨cx_ok_7 z.1 (hK 0 (by omega)), cx_ok_7 z.2.1 (hK 1 (by omega)), cx_ok_7 z.2.2.1 (hK 2 (by omega)), cx_ok_7 z.2.2.2 (hK 3 (by omega))⟩
theorem i_vc_countConsistent {k : Nat} {u : SX} {v : SY} (I : i_Rel k u v) (hk : k + 5 ≤ 2562) : wpX_countConsistent (fun r => wpY_countConsistent (fun r' => r' = r ∧ i_Rel (k + 5) u v) v) u := by
  obtain ⟨P, E, M, K, md, th, wc, ps, hw, hp, pl, cn, va, st, sp, ss, rc, lo, hi, pa, av, ni, vl, s6, mk, wt, py, rh, rfl, rfl, hcn, hN, hB, hC, hW, hPt⟩ := I
  obtain ⟨n1, n2, n3, n4, n5, n6⟩ := id hN
  have hK : ∀ p, p < 4 → K p ≤ 6 := fun p _ => cx_N_6 hN p
  have rel : i_Rel (k + 5) (nI P, nI E, nI M, md, th, wc, ps, cn, va, st, sp, ss, rc, lo, hi, pa, av) (nI P, nI E, md, th, nI M, hw, hp, pl, ni, lo, hi, cn, vl, s6, sp, mk, rc, wt, py, rh) := cx_mk hcn hN hB hC hW hPt
  refine xw_cc n2 hcn hK (yw_cc n2 hcn hK hB ⟨?_, rel⟩)
  exact congrArg nI (cx_n_87 (cx_V P K st) (cx_V_7 hK)).symm
theorem i_vc_countSatisfying {k : Nat} {u : SX} {v : SY} (I : i_Rel k u v) (hk : k + 5 ≤ 2562) : wpX_countSatisfying (fun r => wpY_countSatisfying (fun r' => r' = r ∧ i_Rel (k + 5) u v) v) u := by
  obtain ⟨P, E, M, K, md, th, wc, ps, hw, hp, pl, cn, va, st, sp, ss, rc, lo, hi, pa, av, ni, vl, s6, mk, wt, py, rh, rfl, rfl, hcn, hN, hB, hC, hW, hPt⟩ := I
  obtain ⟨n1, n2, n3, n4, n5, n6⟩ := id hN
  have hK : ∀ p, p < 4 → K p ≤ 6 := fun p _ => cx_N_6 hN p
  have rel : i_Rel (k + 5) (nI P, nI E, nI M, md, th, wc, ps, cn, va, st, sp, ss, rc, lo, hi, pa, av) (nI P, nI E, md, th, nI M, hw, hp, pl, ni, lo, hi, cn, vl, s6, sp, mk, rc, wt, py, rh) := cx_mk hcn hN hB hC hW hPt
  refine xw_cs n2 hcn hK (yw_cs n2 hcn hK hB ⟨?_, rel⟩)
  exact congrArg nI (cx_n_87 (cx_Q P K st md th va lo hi) (cx_Q_7 hK)).symm
theorem i_vc_possibly {k : Nat} {u : SX} {v : SY} (I : i_Rel k u v) (hk : k + 5 ≤ 2562) : wpX_possibly (fun r u' => wpY_possibly (fun r' v' => r' = r ∧ i_Rel (k + 5) u' v') v) u := by
  obtain ⟨P, E, M, K, md, th, wc, ps, hw, hp, pl, cn, va, st, sp, ss, rc, lo, hi, pa, av, ni, vl, s6, mk, wt, py, rh, rfl, rfl, hcn, hN, hB, hC, hW, hPt⟩ := I
  obtain ⟨n1, n2, n3, n4, n5, n6⟩ := id hN
  have hK : ∀ p, p < 4 → K p ≤ 6 := fun p _ => cx_N_6 hN p
  refine xw_possibly n2 hcn hK (fun none => ?_) (fun b hb => ?_)
  · have none7 := (cx_no_87 (cx_Q_7 hK)).mp none
    exact yw_possibly n2 hcn hK hB (fun _ => ⟨rfl, cx_mk hcn hN hB hC (cx_Wt_0 _) hPt⟩) (fun b' _ hb' _ => absurd hb'.2.1 (none7 b' hb'.1))
  · refine yw_possibly n2 hcn hK hB (fun none7 => ?_) (fun b' wt' hb' hw' => ⟨rfl, cx_mk hcn hN hB hC (Or.inr ⟨b, hb.1, rfl, rfl, fun p hp => ?_⟩) hPt⟩)
    · exact absurd hb.2.1 ((cx_no_87 (cx_Q_7 hK)).mpr none7 b hb.1)
    · rw [hw' p hp, cx_bst_eq (cx_Q_7 hK) hb hb']
theorem i_vc_witness {k : Nat} {u : SX} {v : SY} (I : i_Rel k u v) (hk : k + 5 ≤ 2562) (v1 : Int32) : wpX_witness (fun r => wpY_witness (fun r' => r' = r ∧ i_Rel (k + 5) u v) v v1) u v1 := by
  obtain ⟨P, E, M, K, md, th, wc, ps, hw, hp, pl, cn, va, st, sp, ss, rc, lo, hi, pa, av, ni, vl, s6, mk, wt, py, rh, rfl, rfl, hcn, hN, hB, hC, hW, hPt⟩ := I
  obtain ⟨n1, n2, n3, n4, n5, n6⟩ := id hN
  have hK : ∀ p, p < 4 → K p ≤ 6 := fun p _ => cx_N_6 hN p
  have rel : i_Rel (k + 5) (nI P, nI E, nI M, md, th, wc, ps, cn, va, st, sp, ss, rc, lo, hi, pa, av) (nI P, nI E, md, th, nI M, hw, hp, pl, ni, lo, hi, cn, vl, s6, sp, mk, rc, wt, py, rh) := cx_mk hcn hN hB hC hW hPt
  unfold wpX_witness
  rcases hW with ⟨e1, e2⟩ | ⟨c, hc, e1, e2, hw'⟩
  · refine br_t e1 ?_
    unfold wpY_witness
    exact br_t e2 ⟨rfl, rel⟩
  · have h1 : ¬ hw = 0 := by rw [e2]; decide
    subst e1
    refine br_f (cx_m1 (by omega)) (xw_isProc n2 (fun j hj e => br_f xw_10 ?_) (fun o => br_t rfl ?_))
    · subst e
      refine xw_index hc (by omega) ?_
      unfold wpY_witness
      refine br_f h1 (cx_inn hj (by omega) ⟨vp_in_nI (by omega) (by omega), ?_, rel⟩)
      rw [nI_clamp (n := j) (by omega)]
      exact hw' j (by omega)
    · unfold wpY_witness
      exact br_f h1 (cx_out o ⟨rfl, rel⟩)
theorem i_vc_definitely {k : Nat} {u : SX} {v : SY} (I : i_Rel k u v) (hk : k + 5 ≤ 2562) : wpX_definitely (fun r u' => wpY_definitely (fun r' v' => r' = r ∧ i_Rel (k + 5) u' v') v) u := by
  obtain ⟨P, E, M, K, md, th, wc, ps, hw, hp, pl, cn, va, st, sp, ss, rc, lo, hi, pa, av, ni, vl, s6, mk, wt, py, rh, rfl, rfl, hcn, hN, hB, hC, hW, hPt⟩ := I
  obtain ⟨n1, n2, n3, n4, n5, n6⟩ := id hN
  have hK : ∀ p, p < 4 → K p ≤ 6 := fun p _ => cx_N_6 hN p
  refine xw_definitely n2 hcn hK n6 (fun nr av' => ?_) (fun r av' pa' hpa => ?_)
  · exact yw_definitely n2 hcn hK n6 hB (fun _ rh' => ⟨rfl, cx_mk hcn hN hB hC hW (cx_Pt_0 _ _ _)⟩) (fun r => absurd r nr)
  · refine yw_definitely n2 hcn hK n6 hB (fun nr => absurd r nr) (fun _ rh' py' hpy => ⟨rfl, cx_mk hcn hN hB hC hW (Or.inr ⟨cx_lv K, cx_lv_6 hK, rfl, rfl, rfl, fun j hj => ?_⟩)⟩)
    rw [hpa j hj, hpy j hj]
