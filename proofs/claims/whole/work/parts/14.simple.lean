/-! the owed statements, first those that need little -/
theorem i_up {k : Nat} {u : SX} {v : SY} (h : i_Rel k u v) : i_Rel (k + 5) u v := h
def cx_it (v : Int32) : Nat → Nat → Int32
  | 0 => fun _ => 0
  | n + 1 => upd (cx_it v n) n v
theorem xw_clamp {post : Int32 → Prop} {x y : Int32} {m j : Nat} (c : cx_Cl x m j) (hy : y = nI m) (h : post (nI j)) : wpX_clamp post x y := by
  unfold wpX_clamp
  exact cx_Cl_w c hy (fun e => by rw [e]; exact h) (fun e => by rw [hy, ← e]; exact h) (fun e => by rw [e] at h; exact h)
theorem i_vc0 (k0 : Int32) (k1 : Int32) : wpX_init (fun u => wpY_init (fun v => i_Rel 2 u v) k0 k1) k0 k1 := by
  obtain ⟨P, p1, p2, cp⟩ := cx_Cl_ex k0 (m := 4) (by omega) (by omega)
  obtain ⟨E, e1, e2, ce⟩ := cx_Cl_ex k1 (m := 6) (by omega) (by omega)
  have R : i_Rel 2 (nI P, nI E, nI (0), 0, 0, -1, -1, (fun _ => 0), (fun _ => 0), (fun _ => 0), (fun _ => 0), (fun _ => 0), (fun _ => 0), cx_it (-2147483648) 4, cx_it 2147483647 4, (fun _ => 0), (fun _ => 0))
      (nI P, nI E, 0, 0, nI (0), 0, 0, 0, (fun _ => 0), cx_it (-2147483648) 4, cx_it 2147483647 4, (fun _ => 0), (fun _ => 0), (fun _ => 0), (fun _ => 0), (fun _ => 0), (fun _ => 0), (fun _ => 0), (fun _ => 0), (fun _ => 0)) := by
    refine cx_mk (K := fun _ => 0) (ss := fun _ => 0) (fun _ => rfl) ⟨p1, p2, e2, by omega, fun _ => Nat.zero_le _, fun _ _ => rfl⟩ (fun p hp => ⟨rfl, fun k hk => absurd hk (Nat.not_lt_zero k), fun q hq => ⟨rfl, fun k hk => absurd hk (Nat.not_lt_zero k), fun k hk => by decide⟩⟩)
      ⟨fun m hm => absurd hm (Nat.not_lt_zero m), fun _ _ => rfl⟩ (cx_Wt_0 _) (cx_Pt_0 _ _ _)
  unfold wpX_init
  refine xw_clamp cp rfl (xw_clamp ce rfl ?_)
  refine cx_fold (σ := (Nat → Int32) × (Nat → Int32)) (fun n i s => wX_init_128 (fun u => wpY_init (fun v => i_Rel 2 u v) k0 k1) (nI P) (nI E) 0 0 0 (-1) (-1) n (nI i) (fun _ => 0) (fun _ => 0) (fun _ => 0) (fun _ => 0) (fun _ => 0) (fun _ => 0) s.1 s.2 (fun _ => 0) (fun _ => 0)) 4
    (fun i => (cx_it (-2147483648) i, cx_it 2147483647 i)) (fun n => br_t (nI_le (a := 4) (b := 4) (Nat.le_refl _) (by omega)) ?_) (fun n i hi k => br_f (nI_ge (b := 4) hi (by omega)) ⟨vp_in_nI hi (by omega), ?_⟩)
  · have Y : ∃ n, wY_init_146 (fun v => i_Rel 2 (nI P, nI E, nI (0), 0, 0, -1, -1, (fun _ => 0), (fun _ => 0), (fun _ => 0), (fun _ => 0), (fun _ => 0), (fun _ => 0), cx_it (-2147483648) 4, cx_it 2147483647 4, (fun _ => 0), (fun _ => 0)) v)
        (nI P) (nI E) 0 0 0 0 0 0 n 0 (fun _ => 0) (fun _ => 0) (fun _ => 0) (fun _ => 0) (fun _ => 0) (fun _ => 0) (fun _ => 0) (fun _ => 0) (fun _ => 0) (fun _ => 0) (fun _ => 0) (fun _ => 0) := by
      refine cx_fold (σ := (Nat → Int32) × (Nat → Int32)) (fun n i s => wY_init_146 (fun v => i_Rel 2 (nI P, nI E, nI (0), 0, 0, -1, -1, (fun _ => 0), (fun _ => 0), (fun _ => 0), (fun _ => 0), (fun _ => 0), (fun _ => 0), cx_it (-2147483648) 4, cx_it 2147483647 4, (fun _ => 0), (fun _ => 0)) v)
        (nI P) (nI E) 0 0 0 0 0 0 n (nI i) (fun _ => 0) s.1 s.2 (fun _ => 0) (fun _ => 0) (fun _ => 0) (fun _ => 0) (fun _ => 0) (fun _ => 0) (fun _ => 0) (fun _ => 0) (fun _ => 0)) 4
        (fun i => (cx_it (-2147483648) i, cx_it 2147483647 i)) (fun n => br_t (nI_le (a := 4) (b := 4) (Nat.le_refl _) (by omega)) R) (fun n i hi k => br_f (nI_ge (b := 4) hi (by omega)) ⟨vp_in_nI hi (by omega), ?_⟩)
      rw [nI_clamp (n := i) (by omega)]
      exact nm_e ⟨vp_in_nI hi (by omega), nm_e (nm_r (nI_1 i) k)⟩
    have Z : wY_init_116 (fun v => i_Rel 2 (nI P, nI E, nI (0), 0, 0, -1, -1, (fun _ => 0), (fun _ => 0), (fun _ => 0), (fun _ => 0), (fun _ => 0), (fun _ => 0), cx_it (-2147483648) 4, cx_it 2147483647 4, (fun _ => 0), (fun _ => 0)) v)
        k1 (nI P) 0 0 0 0 0 0 0 0 (fun _ => 0) (fun _ => 0) (fun _ => 0) (fun _ => 0) (fun _ => 0) (fun _ => 0) (fun _ => 0) (fun _ => 0) (fun _ => 0) (fun _ => 0) (fun _ => 0) (fun _ => 0) := by
      unfold wY_init_116
      exact cx_Cl_w ce rfl (fun e => by rw [e]; exact Y) (fun e => by subst e; exact Y) (fun e => by subst e; exact Y)
    show wpY_init _ k0 k1
    unfold wpY_init
    exact cx_Cl_w cp rfl (fun e => by rw [e]; exact Z) (fun e => by subst e; exact Z) (fun e => by subst e; exact Z)
  · rw [nI_clamp (n := i) (by omega)]
    exact nm_e ⟨vp_in_nI hi (by omega), nm_e (nm_r (nI_1 i) k)⟩
theorem i_vc_setInitial {k : Nat} {u : SX} {v : SY} (I : i_Rel k u v) (hk : k + 5 ≤ 2562) (v1 : Int32) (v2 : Int32) : wpX_setInitial (fun r u' => wpY_setInitial (fun r' v' => r' = r ∧ i_Rel (k + 5) u' v') v v1 v2) u v1 v2 := by
  obtain ⟨P, E, M, K, md, th, wc, ps, hw, hp, pl, cn, va, st, sp, ss, rc, lo, hi, pa, av, ni, vl, s6, mk, wt, py, rh, rfl, rfl, hcn, hN, hB, hC, hW, hPt⟩ := I
  obtain ⟨n1, n2, n3, n4, n5, n6⟩ := id hN
  have hK : ∀ p, p < 4 → K p ≤ 6 := fun p _ => cx_N_6 hN p
  unfold wpX_setInitial
  refine xw_isProc n2 (fun j hj e => br_f xw_10 ?_) (fun o => br_t rfl ?_)
  · subst e
    have k6 := cx_N_6 hN j
    refine ⟨vp_in_nI (by omega) (by omega), ?_⟩
    rw [nI_clamp (n := j) (by omega), hcn]
    refine pk_lt (K j) 1 (fun l => ?_) (fun g => ?_)
    · refine xw_slot (k := 0) ⟨vp_in_nI (by omega) (by omega), ?_⟩
      rw [nI_clamp (n := j * 7 + 0) (by omega)]
      refine nm_e ?_
      unfold wpX_forgetResults wpY_setInitial
      refine cx_inn hj (by omega) ⟨vp_in_nI (by omega) (by omega), ?_⟩
      rw [nI_clamp (n := j) (by omega), hcn]
      refine br_t (nI_lt (b := 1) l (by omega)) ⟨vp_in_nI (by omega) (by omega), nm_e ?_⟩
      unfold wpY_clearResults
      refine ⟨rfl, cx_mk hcn hN ?_ hC (cx_Wt_0 _) (cx_Pt_0 _ _ _)⟩
      intro p hp
      obtain ⟨b1, b2, b3⟩ := hB p hp
      have kp := cx_N_6 hN p
      refine ⟨?_, fun k hk => ?_, b3⟩
      · by_cases e : p = j
        · rw [e, pk_us, pk_us]
        · rw [pk_un e, pk_un (by omega)]
          exact b1
      · rw [pk_un (by omega)]
        exact b2 k hk
    · unfold wpY_setInitial
      refine cx_inn hj (by omega) ⟨vp_in_nI (by omega) (by omega), ?_⟩
      rw [nI_clamp (n := j) (by omega), hcn]
      exact br_f (nI_nlt (b := 1) g (by omega)) ⟨rfl, cx_mk hcn hN hB hC hW hPt⟩
  · unfold wpY_setInitial
    exact cx_out o ⟨rfl, cx_mk hcn hN hB hC hW hPt⟩
theorem i_vc_setBounds {k : Nat} {u : SX} {v : SY} (I : i_Rel k u v) (hk : k + 5 ≤ 2562) (v1 : Int32) (v2 : Int32) (v3 : Int32) : wpX_setBounds (fun r u' => wpY_setBounds (fun r' v' => r' = r ∧ i_Rel (k + 5) u' v') v v1 v2 v3) u v1 v2 v3 := by
  obtain ⟨P, E, M, K, md, th, wc, ps, hw, hp, pl, cn, va, st, sp, ss, rc, lo, hi, pa, av, ni, vl, s6, mk, wt, py, rh, rfl, rfl, hcn, hN, hB, hC, hW, hPt⟩ := I
  obtain ⟨n1, n2, n3, n4, n5, n6⟩ := id hN
  have hK : ∀ p, p < 4 → K p ≤ 6 := fun p _ => cx_N_6 hN p
  unfold wpX_setBounds
  refine xw_isProc n2 (fun j hj e => br_f xw_10 ?_) (fun o => br_t rfl ?_)
  · subst e
    refine ⟨vp_in_nI (by omega) (by omega), ?_⟩
    rw [nI_clamp (n := j) (by omega)]
    refine nm_e ⟨vp_in_nI (by omega) (by omega), nm_e ?_⟩
    unfold wpX_forgetResults wpY_setBounds
    refine cx_inn hj (by omega) ⟨vp_in_nI (by omega) (by omega), ?_⟩
    rw [nI_clamp (n := j) (by omega)]
    refine nm_e ⟨vp_in_nI (by omega) (by omega), nm_e ?_⟩
    unfold wpY_clearResults
    exact ⟨rfl, cx_mk hcn hN hB hC (cx_Wt_0 _) (cx_Pt_0 _ _ _)⟩
  · unfold wpY_setBounds
    exact cx_out o ⟨rfl, cx_mk hcn hN hB hC hW hPt⟩
theorem i_vc_setPredicate {k : Nat} {u : SX} {v : SY} (I : i_Rel k u v) (hk : k + 5 ≤ 2562) (v1 : Int32) (v2 : Int32) : wpX_setPredicate (fun r u' => wpY_setPredicate (fun r' v' => r' = r ∧ i_Rel (k + 5) u' v') v v1 v2) u v1 v2 := by
  obtain ⟨P, E, M, K, md, th, wc, ps, hw, hp, pl, cn, va, st, sp, ss, rc, lo, hi, pa, av, ni, vl, s6, mk, wt, py, rh, rfl, rfl, hcn, hN, hB, hC, hW, hPt⟩ := I
  obtain ⟨n1, n2, n3, n4, n5, n6⟩ := id hN
  have hK : ∀ p, p < 4 → K p ≤ 6 := fun p _ => cx_N_6 hN p
  unfold wpX_setPredicate
  have ok : (v1 = 0 ∨ v1 = 1 ∨ v1 = 2) → wX_setPredicate_16 (fun r u' => wpY_setPredicate (fun r' v' => r' = r ∧ i_Rel (k + 5) u' v') (nI P, nI E, md, th, nI M, hw, hp, pl, ni, lo, hi, cn, vl, s6, sp, mk, rc, wt, py, rh) v1 v2) v1 v2 (nI P) (nI E) (nI M) md th wc ps cn va st sp ss rc lo hi pa av := by
    intro o
    unfold wX_setPredicate_16 wpX_forgetResults wpY_setPredicate
    have ok2 : wY_setPredicate_16 (fun r' v' => r' = 1 ∧ i_Rel (k + 5) (nI P, nI E, nI M, v1, v2, -1, -1, cn, va, st, sp, ss, rc, lo, hi, pa, av) v') v1 v2 (nI P) (nI E) md th (nI M) hw hp pl ni lo hi cn vl s6 sp mk rc wt py rh := by
      unfold wY_setPredicate_16 wpY_clearResults
      exact ⟨rfl, cx_mk hcn hN hB hC (cx_Wt_0 _) (cx_Pt_0 _ _ _)⟩
    exact br_c (fun _ => ok2) (fun a => br_c (fun _ => ok2) (fun b => br_c (fun _ => ok2) (fun c => (o.elim (fun z => absurd z a) (fun z => z.elim (fun z => absurd z b) (fun z => absurd z c))))))
  refine br_c (fun a => ok (Or.inl a)) (fun a => br_c (fun b => ok (Or.inr (Or.inl b))) (fun b => br_c (fun c => ok (Or.inr (Or.inr c))) (fun c => ?_)))
  unfold wpY_setPredicate
  exact br_f a (br_f b (br_f c ⟨rfl, cx_mk hcn hN hB hC hW hPt⟩))
theorem i_vc_eventCount {k : Nat} {u : SX} {v : SY} (I : i_Rel k u v) (hk : k + 5 ≤ 2562) (v1 : Int32) : wpX_eventCount (fun r => wpY_eventCount (fun r' => r' = r ∧ i_Rel (k + 5) u v) v v1) u v1 := by
  obtain ⟨P, E, M, K, md, th, wc, ps, hw, hp, pl, cn, va, st, sp, ss, rc, lo, hi, pa, av, ni, vl, s6, mk, wt, py, rh, rfl, rfl, hcn, hN, hB, hC, hW, hPt⟩ := I
  obtain ⟨n1, n2, n3, n4, n5, n6⟩ := id hN
  have hK : ∀ p, p < 4 → K p ≤ 6 := fun p _ => cx_N_6 hN p
  unfold wpX_eventCount
  refine xw_isProc n2 (fun j hj e => br_f xw_10 ?_) (fun o => br_t rfl ?_)
  · subst e
    refine ⟨vp_in_nI (by omega) (by omega), ?_⟩
    unfold wpY_eventCount
    exact cx_inn hj (by omega) ⟨vp_in_nI (by omega) (by omega), rfl, cx_mk hcn hN hB hC hW hPt⟩
  · unfold wpY_eventCount
    exact cx_out o ⟨rfl, cx_mk hcn hN hB hC hW hPt⟩
theorem i_vc_stamp {k : Nat} {u : SX} {v : SY} (I : i_Rel k u v) (hk : k + 5 ≤ 2562) (v1 : Int32) (v2 : Int32) (v3 : Int32) : wpX_stamp (fun r => wpY_stamp (fun r' => r' = r ∧ i_Rel (k + 5) u v) v v1 v2 v3) u v1 v2 v3 := by
  obtain ⟨P, E, M, K, md, th, wc, ps, hw, hp, pl, cn, va, st, sp, ss, rc, lo, hi, pa, av, ni, vl, s6, mk, wt, py, rh, rfl, rfl, hcn, hN, hB, hC, hW, hPt⟩ := I
  obtain ⟨n1, n2, n3, n4, n5, n6⟩ := id hN
  have hK : ∀ p, p < 4 → K p ≤ 6 := fun p _ => cx_N_6 hN p
  have rel : i_Rel (k + 5) (nI P, nI E, nI M, md, th, wc, ps, cn, va, st, sp, ss, rc, lo, hi, pa, av) (nI P, nI E, md, th, nI M, hw, hp, pl, ni, lo, hi, cn, vl, s6, sp, mk, rc, wt, py, rh) := cx_mk hcn hN hB hC hW hPt
  unfold wpX_stamp
  refine xw_isProc n2 (fun j hj e => br_f xw_10 (xw_isProc n2 (fun l hl e2 => br_f xw_10 ?_) (fun o => br_t rfl ?_))) (fun o => br_t rfl ?_)
  · subst e
    subst e2
    have k6 := cx_N_6 hN j
    refine br_c (fun a => ?_) (fun a => ⟨vp_in_nI (by omega) (by omega), ?_⟩)
    · unfold wpY_stamp
      exact cx_inn hj (by omega) (br_t a ⟨rfl, rel⟩)
    · obtain ⟨m, hm, rfl⟩ := cx_pos a
      rw [nI_clamp (n := j) (by omega), hcn]
      refine cx_le (by omega) (by omega) (fun le => xw_slot ?_) (fun nle => ?_)
      · rw [cx_st, nI_clamp (n := (j * 7 + (m + 1)) * 4 + l) (by omega)]
        refine ⟨vp_in_nI (by omega) (by omega), ?_⟩
        unfold wpY_stamp
        refine cx_inn hj (by omega) (br_f a ⟨vp_in_nI (by omega) (by omega), ?_⟩)
        rw [nI_clamp (n := j) (by omega), hcn]
        refine br_t (nI_le le (by omega)) (cx_inn hl (by omega) (yw_idx ⟨vp_in_nI (by omega) (by omega), ?_⟩))
        rw [nI_clamp (n := (j * 6 + m) * 4 + l) (by omega)]
        exact ⟨((hB j hj).2.2 l hl).2.1 m (by omega), rel⟩
      · unfold wpY_stamp
        refine cx_inn hj (by omega) (br_f a ⟨vp_in_nI (by omega) (by omega), ?_⟩)
        rw [nI_clamp (n := j) (by omega), hcn]
        exact br_f (nI_ge (by omega) (by omega)) ⟨rfl, rel⟩
  · subst e
    unfold wpY_stamp
    exact cx_inn hj (by omega) (br_c (fun _ => ⟨rfl, rel⟩) (fun _ => ⟨vp_in_nI (by omega) (by omega), br_c (fun _ => cx_out o ⟨rfl, rel⟩) (fun _ => ⟨rfl, rel⟩)⟩))
  · unfold wpY_stamp
    exact cx_out o ⟨rfl, rel⟩
theorem i_vc_pathLength {k : Nat} {u : SX} {v : SY} (I : i_Rel k u v) (hk : k + 5 ≤ 2562) : wpX_pathLength (fun r => wpY_pathLength (fun r' => r' = r ∧ i_Rel (k + 5) u v) v) u := by
  obtain ⟨P, E, M, K, md, th, wc, ps, hw, hp, pl, cn, va, st, sp, ss, rc, lo, hi, pa, av, ni, vl, s6, mk, wt, py, rh, rfl, rfl, hcn, hN, hB, hC, hW, hPt⟩ := I
  obtain ⟨n1, n2, n3, n4, n5, n6⟩ := id hN
  have hK : ∀ p, p < 4 → K p ≤ 6 := fun p _ => cx_N_6 hN p
  have rel : i_Rel (k + 5) (nI P, nI E, nI M, md, th, wc, ps, cn, va, st, sp, ss, rc, lo, hi, pa, av) (nI P, nI E, md, th, nI M, hw, hp, pl, ni, lo, hi, cn, vl, s6, sp, mk, rc, wt, py, rh) := cx_mk hcn hN hB hC hW hPt
  unfold wpX_pathLength wpY_pathLength
  rcases hPt with ⟨e1, e2⟩ | ⟨L, hL, e1, e2, e3, hp⟩
  · exact br_t e2 ⟨e1.symm, rel⟩
  · exact br_f (by rw [e2]; decide) ⟨by rw [e1, e3], rel⟩
theorem i_vc_pathStep {k : Nat} {u : SX} {v : SY} (I : i_Rel k u v) (hk : k + 5 ≤ 2562) (v1 : Int32) : wpX_pathStep (fun r => wpY_pathStep (fun r' => r' = r ∧ i_Rel (k + 5) u v) v v1) u v1 := by
  obtain ⟨P, E, M, K, md, th, wc, ps, hw, hp, pl, cn, va, st, sp, ss, rc, lo, hi, pa, av, ni, vl, s6, mk, wt, py, rh, rfl, rfl, hcn, hN, hB, hC, hW, hPt⟩ := I
  obtain ⟨n1, n2, n3, n4, n5, n6⟩ := id hN
  have hK : ∀ p, p < 4 → K p ≤ 6 := fun p _ => cx_N_6 hN p
  have rel : i_Rel (k + 5) (nI P, nI E, nI M, md, th, wc, ps, cn, va, st, sp, ss, rc, lo, hi, pa, av) (nI P, nI E, md, th, nI M, hw, hp, pl, ni, lo, hi, cn, vl, s6, sp, mk, rc, wt, py, rh) := cx_mk hcn hN hB hC hW hPt
  unfold wpX_pathStep
  rcases hPt with ⟨e1, e2⟩ | ⟨L, hL, e1, e2, e3, hpp⟩
  · have y : wpY_pathStep (fun r' => r' = -1 ∧ i_Rel (k + 5) (nI P, nI E, nI M, md, th, wc, ps, cn, va, st, sp, ss, rc, lo, hi, pa, av) (nI P, nI E, md, th, nI M, hw, hp, pl, ni, lo, hi, cn, vl, s6, sp, mk, rc, wt, py, rh)) (nI P, nI E, md, th, nI M, hw, hp, pl, ni, lo, hi, cn, vl, s6, sp, mk, rc, wt, py, rh) v1 := by
      unfold wpY_pathStep
      exact br_t e2 ⟨rfl, rel⟩
    exact br_c (fun _ => y) (fun n => br_t (by rw [e1]; exact cx_m1le n) y)
  · have h1 : ¬ hp = 0 := by rw [e2]; decide
    subst e1
    subst e3
    refine br_c (fun l => ?_) (fun nl => br_c (fun le => ?_) (fun nle => ?_))
    · unfold wpY_pathStep
      exact br_f h1 (cx_out (Or.inl l) ⟨rfl, rel⟩)
    · unfold wpY_pathStep
      exact br_f h1 (cx_out (Or.inr le) ⟨rfl, rel⟩)
    · rcases pk_ix v1 (n := L) (by omega) with a | b | ⟨j, hj, rfl⟩
      · exact absurd a nl
      · exact absurd b nle
      · refine ⟨vp_in_nI (by omega) (by omega), ?_⟩
        unfold wpY_pathStep
        rw [nI_clamp (n := j) (by omega)]
        refine br_f h1 (br_f nl (br_t (nI_lt hj (by omega)) ⟨vp_in_nI (by omega) (by omega), ?_, rel⟩))
        exact (hpp j hj).symm
