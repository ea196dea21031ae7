/-! the reference's reading methods, each with a general post, over the component's picture -/
def cx_pl (d : Nat → Nat) : Nat → Nat
  | 0 => 0
  | n + 1 => cx_pl d n + d n
theorem cx_pl_4 (d : Nat → Nat) : cx_pl d 4 = cx_lv d := by
  show 0 + d 0 + d 1 + d 2 + d 3 = d 0 + d 1 + d 2 + d 3
  omega
theorem xw_level {post : Int32 → Prop} {c : Nat} (hc : c < 4096) (h : post (nI (cx_lv (cx_d8 c)))) : wpX_levelOf post (nI c) := by
  rw [← cx_pl_4] at h
  exact cx_fold (fun n i s => wX_levelOf_4 post (nI c) n s (nI i)) 4 (fun i => nI (cx_pl (cx_d8 c) i))
    (fun n => br_t (nI_le (a := 4) (b := 4) (Nat.le_refl _) (by omega)) h)
    (fun n i hi k => br_f (nI_ge (b := 4) hi (by omega)) (xw_index hc hi (nm_r (nI_add _ _) (nm_r (nI_1 i) k))))
section
variable {P : Nat} {K : Nat → Nat} {va st : Nat → Int32} {f_procs f_maxEv f_mode f_thr f_msgCount f_hasWit f_hasPath f_pathLen : Int32} {a_init a_lo a_hi a_cnt a_val a_st a_msgP a_msgK a_msgRecv a_wit a_path a_reach : Nat → Int32}
theorem yw_weight {post : Int32 → Prop} {p : Nat} (hp : p < 4) (h : post (nI (cx_w7 p))) : wpY_weight post (f_procs, f_maxEv, f_mode, f_thr, f_msgCount, f_hasWit, f_hasPath, f_pathLen, a_init, a_lo, a_hi, a_cnt, a_val, a_st, a_msgP, a_msgK, a_msgRecv, a_wit, a_path, a_reach) (nI p) := by
  unfold wpY_weight
  rcases cx_p4 hp with rfl | rfl | rfl | rfl
  · have e : nI (cx_w7 0) = 343 := by decide
    rw [e] at h
    exact br_t rfl h
  · have e : nI (cx_w7 1) = 49 := by decide
    rw [e] at h
    exact br_f (by decide) (br_t rfl h)
  · have e : nI (cx_w7 2) = 7 := by decide
    rw [e] at h
    exact br_f (by decide) (br_f (by decide) (br_t rfl h))
  · have e : nI (cx_w7 3) = 1 := by decide
    rw [e] at h
    exact br_f (by decide) (br_f (by decide) (br_f (by decide) h))
theorem yw_digit {post : Int32 → Prop} {c p : Nat} (hc : c < 2401) (hp : p < 4) (h : post (nI (cx_d7 c p))) : wpY_digit post (f_procs, f_maxEv, f_mode, f_thr, f_msgCount, f_hasWit, f_hasPath, f_pathLen, a_init, a_lo, a_hi, a_cnt, a_val, a_st, a_msgP, a_msgK, a_msgRecv, a_wit, a_path, a_reach) (nI c) (nI p) := by
  unfold wpY_digit
  refine yw_weight hp ⟨nI_ne0 (cx_w7_pos p).1 (cx_w7_pos p).2, by decide, ?_⟩
  rw [cx_dg hc hp]
  exact h
theorem yw_idx {post : Int32 → Prop} {p k q : Nat} (h : post (nI ((p * 6 + k) * 4 + q))) : wpY_idx post (f_procs, f_maxEv, f_mode, f_thr, f_msgCount, f_hasWit, f_hasPath, f_pathLen, a_init, a_lo, a_hi, a_cnt, a_val, a_st, a_msgP, a_msgK, a_msgRecv, a_wit, a_path, a_reach) (nI p) (nI (k + 1)) (nI q) := by
  show post (((((nI p * 6) + nI (k + 1)) - 1) * 4) + nI q)
  rw [cx_yi]
  exact h
theorem yw_valid {post : Int32 → Prop} {c : Nat} (hc : c < 2401) (hcn : ∀ i, a_cnt i = nI (K i)) (hK : ∀ p, p < 4 → K p ≤ 6) (hT : cx_Va K (cx_d7 c) → post 1) (hF : ¬ cx_Va K (cx_d7 c) → post 0) :
    wpY_valid post (f_procs, f_maxEv, f_mode, f_thr, f_msgCount, f_hasWit, f_hasPath, f_pathLen, a_init, a_lo, a_hi, a_cnt, a_val, a_st, a_msgP, a_msgK, a_msgRecv, a_wit, a_path, a_reach) (nI c) :=
  cx_all (fun n i => wY_valid_2 post (nI c) f_procs f_maxEv f_mode f_thr f_msgCount f_hasWit f_hasPath f_pathLen a_init a_lo a_hi a_cnt a_val a_st a_msgP a_msgK a_msgRecv a_wit a_path a_reach n (nI i)) 4 (fun p => cx_d7 c p ≤ K p) hT hF
    (fun n t => br_t (nI_le (a := 4) (b := 4) (Nat.le_refl _) (by omega)) t)
    (fun n i hi t f => br_f (nI_ge (b := 4) hi (by omega)) (yw_digit hc hi ⟨vp_in_nI hi (by omega), by
      rw [nI_clamp (n := i) (by omega), hcn]
      have := hK i hi
      have := cx_7_lt c i
      exact cx_le (by omega) (by omega) (fun h => nm_r (nI_1 i) (t h)) f⟩))
theorem yw_cons {post : Int32 → Prop} {c : Nat} (hc : c < 2401) (hP : P ≤ 4) (hB : cx_B P K va st a_init a_val a_st) (hv : cx_Va K (cx_d7 c)) (hT : cx_Co P st (cx_d7 c) → post 1) (hF : ¬ cx_Co P st (cx_d7 c) → post 0) :
    wpY_consistent post (nI P, f_maxEv, f_mode, f_thr, f_msgCount, f_hasWit, f_hasPath, f_pathLen, a_init, a_lo, a_hi, a_cnt, a_val, a_st, a_msgP, a_msgK, a_msgRecv, a_wit, a_path, a_reach) (nI c) :=
  cx_all (fun n i => wY_consistent_2 post (nI c) (nI P) f_maxEv f_mode f_thr f_msgCount f_hasWit f_hasPath f_pathLen a_init a_lo a_hi a_cnt a_val a_st a_msgP a_msgK a_msgRecv a_wit a_path a_reach n (nI i)) P (fun p => ∀ q, q < P → st ((p * 7 + cx_d7 c p) * 4 + q) ≤ nI (cx_d7 c q)) hT hF
    (fun n t => br_t (nI_le (Nat.le_refl P) (by omega)) t)
    (fun n i hi t f => br_f (nI_ge hi (by omega)) (yw_digit hc (by omega) (by
      have l7 := cx_7_lt c i
      have hvi := hv i (by omega)
      refine pk_lt (cx_d7 c i) 1 (fun h => ?_) (fun h => ?_)
      · refine nm_r (nI_1 i) (t (fun q hq => ?_))
        have e : cx_d7 c i = 0 := by omega
        rw [e]
        exact cx_Co_0 hB hi hq (by have := cx_7_lt c q; omega)
      · obtain ⟨k, hk⟩ : ∃ k, cx_d7 c i = k + 1 := ⟨cx_d7 c i - 1, by omega⟩
        refine cx_all (fun m j => wY_consistent_25 post (wY_consistent_2 post (nI c) (nI P) f_maxEv f_mode f_thr f_msgCount f_hasWit f_hasPath f_pathLen a_init a_lo a_hi a_cnt a_val a_st a_msgP a_msgK a_msgRecv a_wit a_path a_reach n) (nI c) (nI i) (nI (cx_d7 c i)) (nI P) f_maxEv f_mode f_thr f_msgCount f_hasWit f_hasPath f_pathLen a_init a_lo a_hi a_cnt a_val a_st a_msgP a_msgK a_msgRecv a_wit a_path a_reach m (nI j)) P
          (fun q => st ((i * 7 + cx_d7 c i) * 4 + q) ≤ nI (cx_d7 c q)) t f
          (fun m t' => br_t (nI_le (Nat.le_refl P) (by omega)) (nm_r (nI_1 i) t'))
          (fun m j hj t' f' => br_f (nI_ge hj (by omega)) ?_)
        have hs := ((hB i hi).2.2 j hj).2.1 k (by omega)
        rw [hk] at t' f' ⊢
        refine yw_idx ⟨vp_in_nI (by omega) (by omega), yw_digit hc (by omega) ?_⟩
        rw [nI_clamp (by omega), hs]
        exact br_c (fun h => nm_r (nI_1 j) (t' h)) f')))
theorem yw_xval {post : Int32 → Prop} {c p : Nat} (hc : c < 2401) (hp : p < P) (hP : P ≤ 4) (hB : cx_B P K va st a_init a_val a_st) (hv : cx_Va K (cx_d7 c)) (h : post (va (p * 7 + cx_d7 c p))) :
    wpY_xval post (nI P, f_maxEv, f_mode, f_thr, f_msgCount, f_hasWit, f_hasPath, f_pathLen, a_init, a_lo, a_hi, a_cnt, a_val, a_st, a_msgP, a_msgK, a_msgRecv, a_wit, a_path, a_reach) (nI c) (nI p) := by
  have l7 := cx_7_lt c p
  have hvp := hv p (by omega)
  unfold wpY_xval
  refine yw_digit hc (by omega) (pk_eq (cx_d7 c p) 0 (fun e => ?_) (fun e => ?_))
  · refine ⟨vp_in_nI (by omega) (by omega), ?_⟩
    rw [nI_clamp (by omega), (hB p hp).1]
    rw [e] at h
    exact h
  · obtain ⟨k, hk⟩ : ∃ k, cx_d7 c p = k + 1 := ⟨cx_d7 c p - 1, by omega⟩
    rw [hk] at h ⊢
    rw [cx_y6, nI_clamp (by omega), (hB p hp).2.1 k (by omega)]
    exact ⟨vp_in_nI (by omega) (by omega), h⟩
theorem yw_sat {post : Int32 → Prop} {c : Nat} (hc : c < 2401) (hP : P ≤ 4) (hB : cx_B P K va st a_init a_val a_st) (hv : cx_Va K (cx_d7 c)) (hT : cx_Sa P f_mode f_thr va a_lo a_hi (cx_d7 c) → post 1)
    (hF : ¬ cx_Sa P f_mode f_thr va a_lo a_hi (cx_d7 c) → post 0) : wpY_sat post (nI P, f_maxEv, f_mode, f_thr, f_msgCount, f_hasWit, f_hasPath, f_pathLen, a_init, a_lo, a_hi, a_cnt, a_val, a_st, a_msgP, a_msgK, a_msgRecv, a_wit, a_path, a_reach) (nI c) := by
  unfold wpY_sat
  refine br_c (fun m0 => ?_) (fun m0 => ?_)
  · refine cx_all (fun n i => wY_sat_9 post (nI c) (nI P) f_maxEv f_mode f_thr f_msgCount f_hasWit f_hasPath f_pathLen a_init a_lo a_hi a_cnt a_val a_st a_msgP a_msgK a_msgRecv a_wit a_path a_reach n (nI i)) P (fun p => ¬ va (p * 7 + cx_d7 c p) < a_lo p ∧ va (p * 7 + cx_d7 c p) ≤ a_hi p)
      (fun w => hT ⟨fun _ => w, fun n => absurd m0 n⟩) (fun w => hF (fun s => w (s.1 m0)))
      (fun n t => br_t (nI_le (Nat.le_refl P) (by omega)) t)
      (fun n i hi t f => br_f (nI_ge hi (by omega)) (yw_xval hc hi hP hB hv ⟨vp_in_nI (by omega) (by omega), ?_⟩))
    rw [nI_clamp (n := i) (by omega)]
    exact br_c (fun h => f (fun z => z.1 h)) (fun h => ⟨vp_in_nI (by omega) (by omega), br_c (fun h2 => nm_r (nI_1 i) (t ⟨h, h2⟩)) (fun h2 => f (fun z => h2 z.2))⟩)
  · refine cx_fold (fun n i s => wY_sat_59 post (nI c) (nI P) f_maxEv f_mode f_thr f_msgCount f_hasWit f_hasPath f_pathLen a_init a_lo a_hi a_cnt a_val a_st a_msgP a_msgK a_msgRecv a_wit a_path a_reach n s (nI i)) P (cx_Sm va (cx_d7 c))
      (fun n => br_t (nI_le (Nat.le_refl P) (by omega)) (br_c (fun m1 => ?_) (fun m1 => ?_)))
      (fun n i hi k => br_f (nI_ge hi (by omega)) (yw_xval hc hi hP hB hv (nm_e (nm_r (nI_1 i) k))))
    · exact br_c (fun l => hF (fun s => (s.2 m0).1 m1 l)) (fun l => hT ⟨fun z => absurd z m0, fun _ => ⟨fun _ => l, fun n => absurd m1 n⟩⟩)
    · exact br_c (fun l => hF (fun s => (s.2 m0).2 m1 l)) (fun l => hT ⟨fun z => absurd z m0, fun _ => ⟨fun z => absurd z m1, fun _ => l⟩⟩)
theorem yw_level {post : Int32 → Prop} {c : Nat} (hc : c < 2401) (h : post (nI (cx_lv (cx_d7 c)))) : wpY_level post (f_procs, f_maxEv, f_mode, f_thr, f_msgCount, f_hasWit, f_hasPath, f_pathLen, a_init, a_lo, a_hi, a_cnt, a_val, a_st, a_msgP, a_msgK, a_msgRecv, a_wit, a_path, a_reach) (nI c) := by
  rw [← cx_pl_4] at h
  exact cx_fold (fun n i s => wY_level_4 post (nI c) f_procs f_maxEv f_mode f_thr f_msgCount f_hasWit f_hasPath f_pathLen a_init a_lo a_hi a_cnt a_val a_st a_msgP a_msgK a_msgRecv a_wit a_path a_reach n s (nI i)) 4 (fun i => nI (cx_pl (cx_d7 c) i))
    (fun n => br_t (nI_le (a := 4) (b := 4) (Nat.le_refl _) (by omega)) h)
    (fun n i hi k => br_f (nI_ge (b := 4) hi (by omega)) (yw_digit hc hi (nm_r (nI_add _ _) (nm_r (nI_1 i) k))))
theorem yw_good {post : Int32 → Prop} {c : Nat} (hc : c < 2401) (hP : P ≤ 4) (hcn : ∀ i, a_cnt i = nI (K i)) (hK : ∀ p, p < 4 → K p ≤ 6) (hB : cx_B P K va st a_init a_val a_st)
    (hT : cx_G P K st f_mode f_thr va a_lo a_hi (cx_d7 c) → post 1) (hF : ¬ cx_G P K st f_mode f_thr va a_lo a_hi (cx_d7 c) → post 0) : wpY_good post (nI P, f_maxEv, f_mode, f_thr, f_msgCount, f_hasWit, f_hasPath, f_pathLen, a_init, a_lo, a_hi, a_cnt, a_val, a_st, a_msgP, a_msgK, a_msgRecv, a_wit, a_path, a_reach) (nI c) := by
  unfold wpY_good
  refine yw_valid hc hcn hK (fun v => br_f xw_10 ?_) (fun nv => br_t rfl (hF (fun g => nv g.1.1)))
  refine yw_cons hc hP hB v (fun co => br_f xw_10 ?_) (fun nc => br_t rfl (hF (fun g => nc g.1.2)))
  exact yw_sat hc hP hB v (fun s => br_f xw_10 (hF (fun g => g.2 s))) (fun s => br_t rfl (hT ⟨⟨v, co⟩, s⟩))
end
