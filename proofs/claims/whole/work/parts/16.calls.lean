/-! the owed statements that add an event -/
theorem cx_B_lm {P E M j : Nat} {K : Nat → Nat} {va st ni vl s6 st' s6' : Nat → Int32} {v : Int32} (hN : cx_N P E M K) (hB : cx_B P K va st ni vl s6) (hj : j < P) (hl : K j < E)
    (a : ∀ s q, s ≠ j * 7 + (K j + 1) → q < 4 → st' (s * 4 + q) = st (s * 4 + q)) (b : st' ((j * 7 + (K j + 1)) * 4 + j) = nI (K j + 1))
    (c : ∀ q, q < P → q ≠ j → st' ((j * 7 + (K j + 1)) * 4 + q) = cx_mx (st ((j * 7 + K j) * 4 + q)) (st (0 * 4 + q)))
    (a' : ∀ s q, s ≠ j * 6 + K j → q < 4 → s6' (s * 4 + q) = s6 (s * 4 + q)) (b' : s6' ((j * 6 + K j) * 4 + j) = nI (K j + 1))
    (c' : ∀ q, q < 4 → q ≠ j → s6' ((j * 6 + K j) * 4 + q) = cx_bq (K j) j s6 q) :
    cx_B P (cx_up K j) (upd va (j * 7 + (K j + 1)) v) st' ni (upd vl (j * 6 + K j) v) s6' := by
  obtain ⟨n1, n2, n3, n4, n5, n6⟩ := id hN
  refine cx_B_ev2 (m := fun q => st ((j * 7 + K j) * 4 + q)) n2 (fun p _ => cx_N_6 hN p) hj (by omega) hB a b (fun q hq hn => ?_) a' b' (fun q hq hn => ?_) (fun q hq => cx_st_nn hB hj hq)
  · have z : st (0 * 4 + q) = 0 := ((hB 0 (by omega)).2.2 q hq).1
    rw [c q hq hn, z]
    exact cx_mx_0 (cx_st_nn hB hj hq)
  · rw [c' q (by omega) hn]
    exact cx_bq_eq hB hj hq
theorem cx_B_rc {P E M j p' k' : Nat} {K : Nat → Nat} {va st ni vl s6 st' s6' : Nat → Int32} {v : Int32} (hN : cx_N P E M K) (hB : cx_B P K va st ni vl s6) (hj : j < P) (hl : K j < E) (hp' : p' < P) (hk' : k' < K p')
    (a : ∀ s q, s ≠ j * 7 + (K j + 1) → q < 4 → st' (s * 4 + q) = st (s * 4 + q)) (b : st' ((j * 7 + (K j + 1)) * 4 + j) = nI (K j + 1))
    (c : ∀ q, q < P → q ≠ j → st' ((j * 7 + (K j + 1)) * 4 + q) = cx_mx (st ((j * 7 + K j) * 4 + q)) (st ((p' * 7 + (k' + 1)) * 4 + q)))
    (a' : ∀ s q, s ≠ j * 6 + K j → q < 4 → s6' (s * 4 + q) = s6 (s * 4 + q)) (b' : s6' ((j * 6 + K j) * 4 + j) = nI (K j + 1))
    (c' : ∀ q, q < 4 → q ≠ j → s6' ((j * 6 + K j) * 4 + q) = cx_mx (cx_bq (K j) j s6 q) (s6 ((p' * 6 + k') * 4 + q))) :
    cx_B P (cx_up K j) (upd va (j * 7 + (K j + 1)) v) st' ni (upd vl (j * 6 + K j) v) s6' := by
  obtain ⟨n1, n2, n3, n4, n5, n6⟩ := id hN
  refine cx_B_ev2 (m := fun q => cx_mx (st ((j * 7 + K j) * 4 + q)) (st ((p' * 7 + (k' + 1)) * 4 + q))) n2 (fun p _ => cx_N_6 hN p) hj (by omega) hB a b c a' b' (fun q hq hn => ?_) (fun q hq => cx_mx_nn (cx_st_nn hB hj hq))
  rw [c' q (by omega) hn, cx_bq_eq hB hj hq, ((hB p' hp').2.2 q hq).2.1 k' hk']
theorem cx_N_M {P E M M' : Nat} {K : Nat → Nat} (h : cx_N P E M K) (hM : M' ≤ 16) : cx_N P E M' K := ⟨h.1, h.2.1, h.2.2.1, hM, h.2.2.2.2⟩
theorem cx_ne {a b : Nat} (h : a < b) (hb : b ≤ 6) : ¬ nI a = nI b := by
  rw [nI_eq (by omega) (by omega)]
  omega
theorem i_vc_local {k : Nat} {u : SX} {v : SY} (I : i_Rel k u v) (hk : k + 5 ≤ 2562) (v1 : Int32) (v2 : Int32) : wpX_local (fun r u' => wpY_local (fun r' v' => r' = r ∧ i_Rel (k + 5) u' v') v v1 v2) u v1 v2 := by
  obtain ⟨P, E, M, K, md, th, wc, ps, hw, hp, pl, cn, va, st, sp, ss, rc, lo, hi, pa, av, ni, vl, s6, mk, wt, py, rh, rfl, rfl, hcn, hN, hB, hC, hW, hPt⟩ := I
  obtain ⟨n1, n2, n3, n4, n5, n6⟩ := id hN
  have hK : ∀ p, p < 4 → K p ≤ 6 := fun p _ => cx_N_6 hN p
  have rel : i_Rel (k + 5) (nI P, nI E, nI M, md, th, wc, ps, cn, va, st, sp, ss, rc, lo, hi, pa, av) (nI P, nI E, md, th, nI M, hw, hp, pl, ni, lo, hi, cn, vl, s6, sp, mk, rc, wt, py, rh) := cx_mk hcn hN hB hC hW hPt
  unfold wpX_local
  refine xw_room n2 n3 hcn n5 (fun j hj e hl => br_f xw_10 ?_) (fun o => br_t rfl ?_) (fun j hj e hE => br_t rfl ?_)
  · subst e
    refine xw_event (cs := 0) hj n2 (by omega) hcn (by omega) (by omega) (fun st' a b c => ?_)
    refine ⟨vp_in_nI (by omega) (by omega), ?_⟩
    rw [nI_clamp (n := j) (by omega), pk_us (f := cn)]
    unfold wpY_local
    refine cx_inn hj (by omega) ⟨vp_in_nI (by omega) (by omega), ?_⟩
    rw [nI_clamp (n := j) (by omega), hcn]
    refine br_f (cx_ne hl n3) (yw_event (w := cx_bq (K j) j s6) (by omega) (by omega) hcn (Or.inl ⟨rfl, fun _ _ => rfl⟩) (fun s6' a' b' c' => ?_))
    refine ⟨vp_in_nI (by omega) (by omega), pk_us (f := cn), ?_⟩
    exact cx_mk (cx_cn_up hcn j) (cx_N_up hN hj hl) (cx_B_lm hN hB hj hl a b c a' b' c') (cx_C_up j hC) (cx_Wt_0 _) (cx_Pt_0 _ _ _)
  · unfold wpY_local
    exact cx_out o ⟨rfl, rel⟩
  · subst e
    unfold wpY_local
    refine cx_inn hj (by omega) ⟨vp_in_nI (by omega) (by omega), ?_⟩
    rw [nI_clamp (n := j) (by omega), hcn]
    exact br_t (by rw [hE]) ⟨rfl, rel⟩
theorem i_vc_send {k : Nat} {u : SX} {v : SY} (I : i_Rel k u v) (hk : k + 5 ≤ 2562) (v1 : Int32) (v2 : Int32) : wpX_send (fun r u' => wpY_send (fun r' v' => r' = r ∧ i_Rel (k + 5) u' v') v v1 v2) u v1 v2 := by
  obtain ⟨P, E, M, K, md, th, wc, ps, hw, hp, pl, cn, va, st, sp, ss, rc, lo, hi, pa, av, ni, vl, s6, mk, wt, py, rh, rfl, rfl, hcn, hN, hB, hC, hW, hPt⟩ := I
  obtain ⟨n1, n2, n3, n4, n5, n6⟩ := id hN
  have hK : ∀ p, p < 4 → K p ≤ 6 := fun p _ => cx_N_6 hN p
  have rel : i_Rel (k + 5) (nI P, nI E, nI M, md, th, wc, ps, cn, va, st, sp, ss, rc, lo, hi, pa, av) (nI P, nI E, md, th, nI M, hw, hp, pl, ni, lo, hi, cn, vl, s6, sp, mk, rc, wt, py, rh) := cx_mk hcn hN hB hC hW hPt
  unfold wpX_send
  refine xw_room n2 n3 hcn n5 (fun j hj e hl => br_f xw_10 ?_) (fun o => br_t rfl ?_) (fun j hj e hE => br_t rfl ?_)
  · subst e
    refine pk_lt M 16 (fun lt => ?_) (fun ge => ?_)
    · refine xw_event (cs := 0) hj n2 (by omega) hcn (by omega) (by omega) (fun st' a b c => ?_)
      refine ⟨vp_in_nI (by omega) (by omega), ?_⟩
      rw [nI_clamp (n := M) (by omega)]
      refine nm_e ⟨vp_in_nI (by omega) (by omega), ?_⟩
      rw [nI_clamp (n := j) (by omega), pk_us (f := cn)]
      refine xw_slot ⟨vp_in_nI (by omega) (by omega), ?_⟩
      refine nm_e (nm_r (nI_1 M) ?_)
      unfold wpY_send
      refine cx_inn hj (by omega) ⟨vp_in_nI (by omega) (by omega), ?_⟩
      rw [nI_clamp (n := j) (by omega), hcn]
      refine br_f (cx_ne hl n3) (br_t (nI_lt (b := 16) lt (by omega)) ?_)
      refine yw_event (w := cx_bq (K j) j s6) (by omega) (by omega) hcn (Or.inl ⟨rfl, fun _ _ => rfl⟩) (fun s6' a' b' c' => ?_)
      refine ⟨vp_in_nI (by omega) (by omega), ?_⟩
      rw [nI_clamp (n := M) (by omega), pk_us (f := cn), cx_nar0, cx_upd_id (hC.2 M (Nat.le_refl M))]
      refine nm_e ⟨vp_in_nI (by omega) (by omega), vp_in_nI (by omega) (by omega), nm_e ⟨vp_in_nI (by omega) (by omega), nm_e (nm_r (nI_1 M) ⟨rfl, ?_⟩)⟩⟩
      exact cx_mk (cx_cn_up hcn j) (cx_N_M (cx_N_up hN hj hl) (by omega)) (cx_B_lm hN hB hj hl a b c a' b' c') (cx_C_send hj hC) (cx_Wt_0 _) (cx_Pt_0 _ _ _)
    · unfold wpY_send
      refine cx_inn hj (by omega) ⟨vp_in_nI (by omega) (by omega), ?_⟩
      rw [nI_clamp (n := j) (by omega), hcn]
      exact br_f (cx_ne hl n3) (br_f (nI_nlt (b := 16) ge (by omega)) ⟨rfl, rel⟩)
  · unfold wpY_send
    exact cx_out o ⟨rfl, rel⟩
  · subst e
    unfold wpY_send
    refine cx_inn hj (by omega) ⟨vp_in_nI (by omega) (by omega), ?_⟩
    rw [nI_clamp (n := j) (by omega), hcn]
    exact br_t (by rw [hE]) ⟨rfl, rel⟩
theorem i_vc_receive {k : Nat} {u : SX} {v : SY} (I : i_Rel k u v) (hk : k + 5 ≤ 2562) (v1 : Int32) (v2 : Int32) (v3 : Int32) : wpX_receive (fun r u' => wpY_receive (fun r' v' => r' = r ∧ i_Rel (k + 5) u' v') v v1 v2 v3) u v1 v2 v3 := by
  obtain ⟨P, E, M, K, md, th, wc, ps, hw, hp, pl, cn, va, st, sp, ss, rc, lo, hi, pa, av, ni, vl, s6, mk, wt, py, rh, rfl, rfl, hcn, hN, hB, hC, hW, hPt⟩ := I
  obtain ⟨n1, n2, n3, n4, n5, n6⟩ := id hN
  have hK : ∀ p, p < 4 → K p ≤ 6 := fun p _ => cx_N_6 hN p
  have rel : i_Rel (k + 5) (nI P, nI E, nI M, md, th, wc, ps, cn, va, st, sp, ss, rc, lo, hi, pa, av) (nI P, nI E, md, th, nI M, hw, hp, pl, ni, lo, hi, cn, vl, s6, sp, mk, rc, wt, py, rh) := cx_mk hcn hN hB hC hW hPt
  unfold wpX_receive
  refine xw_room n2 n3 hcn n5 (fun j hj e hl => br_f xw_10 ?_) (fun o => br_t rfl ?_) (fun j hj e hE => br_t rfl ?_)
  · subst e
    refine xw_pending n4 (fun m hm e0 er => br_f xw_10 ?_) (fun o => br_t rfl ?_) (fun m hm e0 er => br_t rfl ?_)
    · subst e0
      obtain ⟨p', k', hp', hk', es, ess, emk⟩ := hC.1 m hm
      have k6 := cx_N_6 hN p'
      have hne7 : p' * 7 + (k' + 1) ≠ j * 7 + (K j + 1) := by
        by_cases e : p' = j
        · subst e
          omega
        · omega
      have hne6 : p' * 6 + k' ≠ j * 6 + K j := by
        by_cases e : p' = j
        · subst e
          omega
        · omega
      refine ⟨vp_in_nI (by omega) (by omega), ?_⟩
      rw [nI_clamp (n := m) (by omega)]
      refine br_c (fun z => ?_) (fun nz => ⟨vp_in_nI (by omega) (by omega), ?_⟩)
      · unfold wpY_receive
        refine cx_inn hj (by omega) ⟨vp_in_nI (by omega) (by omega), ?_⟩
        rw [nI_clamp (n := j) (by omega), hcn]
        refine br_f (cx_ne hl n3) (cx_inn hm n4 ⟨vp_in_nI (by omega) (by omega), ?_⟩)
        rw [nI_clamp (n := m) (by omega)]
        exact br_t er ⟨vp_in_nI (by omega) (by omega), br_t z ⟨rfl, rel⟩⟩
      · rw [ess, cx_nar1]
        refine nm_e ⟨vp_in_nI (by omega) (by omega), xw_event (cs := p' * 7 + (k' + 1)) hj n2 (by omega) hcn (by omega) hne7 (fun st' a b c => ?_)⟩
        refine ⟨vp_in_nI (by omega) (by omega), ?_⟩
        rw [nI_clamp (n := j) (by omega), pk_us (f := cn)]
        unfold wpY_receive
        refine cx_inn hj (by omega) ⟨vp_in_nI (by omega) (by omega), ?_⟩
        rw [nI_clamp (n := j) (by omega), hcn]
        refine br_f (cx_ne hl n3) (cx_inn hm n4 ⟨vp_in_nI (by omega) (by omega), ?_⟩)
        rw [nI_clamp (n := m) (by omega)]
        refine br_t er ⟨vp_in_nI (by omega) (by omega), br_f nz ⟨vp_in_nI (by omega) (by omega), ?_⟩⟩
        rw [cx_nar1]
        refine nm_e (yw_event (w := fun q => cx_mx (cx_bq (K j) j s6 q) (s6 ((p' * 6 + k') * 4 + q))) (by omega) (by omega) hcn (Or.inr ⟨m, p', k', by omega, rfl, by omega, by omega, es, emk, hne6, fun _ _ => rfl⟩) (fun s6' a' b' c' => ?_))
        refine ⟨vp_in_nI (by omega) (by omega), ?_, ?_⟩
        · exact pk_us (f := cn)
        · exact cx_mk (cx_cn_up hcn j) (cx_N_up hN hj hl) (cx_B_rc hN hB hj hl hp' hk' a b c a' b' c') (cx_C_rec hm (cx_C_up j hC)) (cx_Wt_0 _) (cx_Pt_0 _ _ _)
    · unfold wpY_receive
      refine cx_inn hj (by omega) ⟨vp_in_nI (by omega) (by omega), ?_⟩
      rw [nI_clamp (n := j) (by omega), hcn]
      exact br_f (cx_ne hl n3) (cx_out o ⟨rfl, rel⟩)
    · subst e0
      unfold wpY_receive
      refine cx_inn hj (by omega) ⟨vp_in_nI (by omega) (by omega), ?_⟩
      rw [nI_clamp (n := j) (by omega), hcn]
      refine br_f (cx_ne hl n3) (cx_inn hm n4 ⟨vp_in_nI (by omega) (by omega), ?_⟩)
      rw [nI_clamp (n := m) (by omega)]
      exact br_f er ⟨rfl, rel⟩
  · unfold wpY_receive
    exact cx_out o ⟨rfl, rel⟩
  · subst e
    unfold wpY_receive
    refine cx_inn hj (by omega) ⟨vp_in_nI (by omega) (by omega), ?_⟩
    rw [nI_clamp (n := j) (by omega), hcn]
    exact br_t (by rw [hE]) ⟨rfl, rel⟩
