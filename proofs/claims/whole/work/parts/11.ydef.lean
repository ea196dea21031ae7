/-! definitely() on the reference's side -/
section
variable {P : Nat} {K : Nat → Nat} {G A : (Nat → Nat) → Prop} {va st : Nat → Int32} {f_procs f_maxEv f_mode f_thr f_msgCount f_hasWit f_hasPath f_pathLen : Int32} {a_init a_lo a_hi a_cnt a_val a_st a_msgP a_msgK a_msgRecv a_wit a_path a_reach : Nat → Int32}
theorem yw_succ {post : Int32 → Prop} {c : Nat} (hc : c < 2401) (hP : P ≤ 4) (hcn : ∀ i, a_cnt i = nI (K i)) (hK : ∀ p, p < 4 → K p ≤ 6) (hr : ∀ c', c < c' → c' < 2401 → a_reach c' = cx_i (A (cx_d7 c')))
    (hT : (∃ p, p < P ∧ cx_d7 c p < K p ∧ A (cx_up (cx_d7 c) p)) → post 1) (hF : ¬ (∃ p, p < P ∧ cx_d7 c p < K p ∧ A (cx_up (cx_d7 c) p)) → post 0) :
    wpY_succReach post (nI P, f_maxEv, f_mode, f_thr, f_msgCount, f_hasWit, f_hasPath, f_pathLen, a_init, a_lo, a_hi, a_cnt, a_val, a_st, a_msgP, a_msgK, a_msgRecv, a_wit, a_path, a_reach) (nI c) :=
  cx_fst (fun n i => wY_succReach_2 post (nI c) (nI P) f_maxEv f_mode f_thr f_msgCount f_hasWit f_hasPath f_pathLen a_init a_lo a_hi a_cnt a_val a_st a_msgP a_msgK a_msgRecv a_wit a_path a_reach n (nI i)) P (fun p => cx_d7 c p < K p ∧ A (cx_up (cx_d7 c) p)) (F := fun _ => post 1) (N := post 0)
    (fun i hi s _ => hT ⟨i, hi, s⟩) (fun none => hF (fun z => by obtain ⟨p, hp, s⟩ := z; exact none p hp s))
    (fun n t => br_t (nI_le (Nat.le_refl P) (by omega)) t)
    (fun n i hi nb b => br_f (nI_ge hi (by omega)) (yw_digit hc (by omega) ⟨vp_in_nI (by omega) (by omega), by
      rw [nI_clamp (n := i) (by omega), hcn]
      have k6 := hK i (by omega)
      have d7 := cx_7_lt c i
      refine cx_le (by omega) (by omega) (fun h => nm_r (nI_1 i) (nb (fun s => by have := s.1; omega))) (fun h => yw_weight (by omega) ?_)
      have e := cx_7_step hc (p := i) (by omega) (by omega)
      have w0 := (cx_w7_pos i).1
      rw [nI_add]
      refine ⟨vp_in_nI e.2 (by omega), ?_⟩
      rw [nI_clamp (by omega), hr _ (by omega) e.2, e.1]
      exact ek_if cx_i_0 (fun z => nm_r (nI_1 i) (nb (fun s => z s.2))) (fun z => b ⟨by omega, Classical.byContradiction z⟩)⟩))
theorem yw_path {post : Int32 → SY → Prop} (hG : ∀ d, G d → ∀ p, p < 4 → d p ≤ K p) (hP : P ≤ 4) (hcn : ∀ i, a_cnt i = nI (K i)) (hK : ∀ p, p < 4 → K p ≤ 6) (hr : ∀ c', c' < 2401 → a_reach c' = cx_i (cx_R G K P (cx_d7 c')))
    (h0 : cx_R G K P (fun _ => 0)) (h : ∀ pa : Nat → Int32, (∀ j, j < cx_lv K → pa j = nI (cx_ls (cx_S G K P (cx_D G K P j)))) → post 0 (nI P, f_maxEv, f_mode, f_thr, f_msgCount, f_hasWit, 1, nI (cx_lv K), a_init, a_lo, a_hi, a_cnt, a_val, a_st, a_msgP, a_msgK, a_msgRecv, a_wit, pa, a_reach)) :
    ∃ n, wY_definitely_176 post (nI (cx_lv K)) (nI P) f_maxEv f_mode f_thr f_msgCount f_hasWit f_hasPath f_pathLen n 0 0 a_init a_lo a_hi a_cnt a_val a_st a_msgP a_msgK a_msgRecv a_wit a_path a_reach := by
  have T24 := cx_lv_6 hK
  have L : ∀ m i c (pa : Nat → Int32), i + m = cx_lv K → c < 2401 → cx_d7 c = cx_D G K P i → (∀ j, j < i → pa j = nI (cx_ls (cx_S G K P (cx_D G K P j)))) →
      wY_definitely_176 post (nI (cx_lv K)) (nI P) f_maxEv f_mode f_thr f_msgCount f_hasWit f_hasPath f_pathLen (m + 1) (nI c) (nI i) a_init a_lo a_hi a_cnt a_val a_st a_msgP a_msgK a_msgRecv a_wit pa a_reach := by
    intro m
    induction m with
    | zero =>
      intro i c pa hi hc hd hp
      have e : i = cx_lv K := by omega
      subst e
      exact br_t (nI_le (Nat.le_refl _) (by omega)) (h pa hp)
    | succ m ih =>
      intro i c pa hi hc hd hp'
      have hl : i < cx_lv K := by omega
      have s := cx_D_st hG hP hK h0 hl
      have es := cx_D_s G K P i
      rw [← hd] at s es
      refine br_f (nI_ge hl (by omega)) ?_
      refine cx_fst (fun q p => wY_definitely_185 post (wY_definitely_176 post (nI (cx_lv K)) (nI P) f_maxEv f_mode f_thr f_msgCount f_hasWit f_hasPath f_pathLen (m + 1)) (nI (cx_lv K)) (nI c) (nI i) (nI P) f_maxEv f_mode f_thr f_msgCount f_hasWit f_hasPath f_pathLen a_init a_lo a_hi a_cnt a_val a_st a_msgP a_msgK a_msgRecv a_wit pa a_reach q (nI p)) P (cx_S G K P (cx_d7 c)) (N := False)
        (F := fun p => (vp_in (nI i) 24 ∧ ∀ a : Nat → Int32, a = upd pa (nI i).toNatClampNeg (nI p) → (wpY_weight (fun r => (∀ x3 : Int32, x3 = nI c + r → (∀ x4 : Int32, x4 = nI i + 1 → (wY_definitely_176 post (nI (cx_lv K)) (nI P) f_maxEv f_mode f_thr f_msgCount f_hasWit f_hasPath f_pathLen (m + 1) x3 x4 a_init a_lo a_hi a_cnt a_val a_st a_msgP a_msgK a_msgRecv a_wit a a_reach)))) (nI P, f_maxEv, f_mode, f_thr, f_msgCount, f_hasWit, f_hasPath, f_pathLen, a_init, a_lo, a_hi, a_cnt, a_val, a_st, a_msgP, a_msgK, a_msgRecv, a_wit, a, a_reach) (nI p))))
        (fun p hp sp lp => ?_) (fun none => none _ s.1.1 s.1) (fun _ f => f.elim) (fun q p hp nb b => br_f (nI_ge hp (by omega)) (yw_digit hc (by omega) ⟨vp_in_nI (by omega) (by omega), ?_⟩))
      · have el := cx_ls_u sp lp
        rw [el] at es
        have k6 := hK p (by omega)
        have d7 := sp.2.1
        have e := cx_7_step hc (p := p) (by omega) (by omega)
        refine ⟨vp_in_nI (by omega) (by omega), ?_⟩
        rw [nI_clamp (n := i) (by omega)]
        refine nm_e (yw_weight (by omega) (nm_r (nI_add _ _) (nm_r (nI_1 i) (ih (i + 1) _ _ (by omega) e.2 (by rw [e.1, es]) (fun j hj => ?_)))))
        by_cases ej : j = i
        · rw [ej, pk_us, ← hd, el]
        · rw [pk_un ej]
          exact hp' j (by omega)
      · rw [nI_clamp (n := p) (by omega), hcn]
        have k6 := hK p (by omega)
        have d7 := cx_7_lt c p
        refine cx_le (by omega) (by omega) (fun h => nm_r (nI_1 p) (nb (fun s => by have := s.2.1; omega))) (fun h => yw_weight (by omega) ?_)
        have e := cx_7_step hc (p := p) (by omega) (by omega)
        rw [nI_add]
        refine ⟨vp_in_nI e.2 (by omega), ?_⟩
        have cl : (nI (c + cx_w7 p)).toNatClampNeg = c + cx_w7 p := nI_clamp (by omega)
        rw [cl, hr _ e.2, e.1]
        exact ek_if cx_i_0 (fun z => nm_r (nI_1 p) (nb (fun s => z s.2.2))) (fun z => b ⟨hp, by omega, Classical.byContradiction z⟩)
  exact ⟨_, L (cx_lv K) 0 0 a_path (by omega) (by omega) cx_7_z (fun j hj => absurd hj (Nat.not_lt_zero j))⟩
end
theorem cx_fin {K : Nat → Nat} {c : Nat} (hc : c < 2401) (hK : ∀ p, p < 4 → K p ≤ 6) (hz : ∀ p, 4 ≤ p → K p = 0) : c = cx_c7 K ↔ (∀ p, p < 4 → cx_d7 c p = K p) := by
  constructor
  · intro e p _
    rw [e, cx_7_of (fun p hp => Nat.lt_succ_of_le (hK p hp)) hz]
  · intro f
    have e := cx_7_c hc
    have f0 := f 0 (by omega)
    have f1 := f 1 (by omega)
    have f2 := f 2 (by omega)
    have f3 := f 3 (by omega)
    unfold cx_c7 at e ⊢
    omega
section
variable {P : Nat} {K : Nat → Nat} {va st : Nat → Int32} {f_procs f_maxEv f_mode f_thr f_msgCount f_hasWit f_hasPath f_pathLen : Int32} {a_init a_lo a_hi a_cnt a_val a_st a_msgP a_msgK a_msgRecv a_wit a_path a_reach : Nat → Int32}
theorem yw_fin (hcn : ∀ i, a_cnt i = nI (K i)) : (((a_cnt 0 * 343) + (a_cnt 1 * 49)) + (a_cnt 2 * 7)) + a_cnt 3 = nI (cx_c7 K) := by
  have e0 : nI (K 0) * 343 = nI (K 0 * 343) := pk_mul (K 0) 343
  have e1 : nI (K 1) * 49 = nI (K 1 * 49) := pk_mul (K 1) 49
  have e2 : nI (K 2) * 7 = nI (K 2 * 7) := pk_mul (K 2) 7
  rw [hcn, hcn, hcn, hcn, e0, e1, e2, nI_add, nI_add, nI_add]
  refine congrArg nI ?_
  unfold cx_c7
  omega
theorem yw_definitely {post : Int32 → SY → Prop} (hP : P ≤ 4) (hcn : ∀ i, a_cnt i = nI (K i)) (hK : ∀ p, p < 4 → K p ≤ 6) (hz : ∀ p, P ≤ p → K p = 0) (hB : cx_B P K va st a_init a_val a_st)
    (hT : ¬ cx_R (cx_G P K st f_mode f_thr va a_lo a_hi) K P (fun _ => 0) → ∀ rh : Nat → Int32, post 1 (nI P, f_maxEv, f_mode, f_thr, f_msgCount, f_hasWit, 0, f_pathLen, a_init, a_lo, a_hi, a_cnt, a_val, a_st, a_msgP, a_msgK, a_msgRecv, a_wit, a_path, rh))
    (hF : cx_R (cx_G P K st f_mode f_thr va a_lo a_hi) K P (fun _ => 0) → ∀ rh pa : Nat → Int32, (∀ j, j < cx_lv K → pa j = nI (cx_ls (cx_S (cx_G P K st f_mode f_thr va a_lo a_hi) K P (cx_D (cx_G P K st f_mode f_thr va a_lo a_hi) K P j)))) →
      post 0 (nI P, f_maxEv, f_mode, f_thr, f_msgCount, f_hasWit, 1, nI (cx_lv K), a_init, a_lo, a_hi, a_cnt, a_val, a_st, a_msgP, a_msgK, a_msgRecv, a_wit, pa, rh)) :
    wpY_definitely post (nI P, f_maxEv, f_mode, f_thr, f_msgCount, f_hasWit, f_hasPath, f_pathLen, a_init, a_lo, a_hi, a_cnt, a_val, a_st, a_msgP, a_msgK, a_msgRecv, a_wit, a_path, a_reach) := by
  have T24 := cx_lv_6 hK
  have F24 : cx_c7 K < 2401 := cx_c7_lt (fun p hp => Nat.lt_succ_of_le (hK p hp))
  have hG := cx_G_K (P := P) (K := K) (st := st) (md := f_mode) (th := f_thr) (va := va) (lo := a_lo) (hi := a_hi)
  refine nm_r (yw_total hcn) (nm_r (yw_fin hcn) ?_)
  refine cx_inv (fun n i s => wY_definitely_68 post (nI (cx_lv K)) (nI (cx_c7 K)) (nI P) f_maxEv f_mode f_thr f_msgCount f_hasWit f_hasPath f_pathLen n (nI i) a_init a_lo a_hi a_cnt a_val a_st a_msgP a_msgK a_msgRecv a_wit a_path s) (fun i s => ∀ c, c < i → s c = 0) 2401 a_reach (fun c h => absurd h (Nat.not_lt_zero c))
    (fun n s I => br_t (nI_le (a := 2401) (b := 2401) (Nat.le_refl _) (by omega)) ?_) (fun n i s hi I k => br_f (nI_ge (b := 2401) hi (by omega)) ⟨vp_in_nI hi (by omega), ?_⟩)
  · refine cx_inv (fun n m s => wY_definitely_90 post (nI (cx_lv K)) (nI (cx_c7 K)) (nI P) f_maxEv f_mode f_thr f_msgCount f_hasWit f_hasPath f_pathLen n (nI m) a_init a_lo a_hi a_cnt a_val a_st a_msgP a_msgK a_msgRecv a_wit a_path s)
      (fun m s => ∀ c, c < 2401 → s c = cx_i (cx_A (cx_G P K st f_mode f_thr va a_lo a_hi) K P m (cx_d7 c))) 26 s (fun c hc => by rw [I c hc]; exact (cx_i_f (fun z => z)).symm)
      (fun n s I => br_t (nI_le (a := 26) (b := 26) (Nat.le_refl _) (by omega)) ?_) (fun n m s hm I k => br_f (nI_ge (b := 26) hm (by omega)) ?_)
    · have hr : ∀ c, c < 2401 → s c = cx_i (cx_R (cx_G P K st f_mode f_thr va a_lo a_hi) K P (cx_d7 c)) := I
      have z := hr 0 (by omega)
      rw [cx_7_z] at z
      by_cases r : cx_R (cx_G P K st f_mode f_thr va a_lo a_hi) K P (fun _ => 0)
      · rw [cx_i_t r] at z
        refine br_f (by rw [z]; decide) ?_
        exact yw_path hG hP hcn hK hr r (fun pa hp => hF r s pa hp)
      · rw [cx_i_f r] at z
        exact br_t z (hT r s)
    · refine cx_inv (fun q c s' => wY_definitely_99 post (wY_definitely_90 post (nI (cx_lv K)) (nI (cx_c7 K)) (nI P) f_maxEv f_mode f_thr f_msgCount f_hasWit f_hasPath f_pathLen n) (nI (cx_lv K)) (nI (cx_c7 K)) (nI m) (nI P) f_maxEv f_mode f_thr f_msgCount f_hasWit f_hasPath f_pathLen q (nI c) a_init a_lo a_hi a_cnt a_val a_st a_msgP a_msgK a_msgRecv a_wit a_path s')
        (fun c s' => (∀ c', c' < c → s' c' = cx_i (cx_A (cx_G P K st f_mode f_thr va a_lo a_hi) K P (m + 1) (cx_d7 c'))) ∧ (∀ c', c ≤ c' → c' < 2401 → s' c' = cx_i (cx_A (cx_G P K st f_mode f_thr va a_lo a_hi) K P m (cx_d7 c')))) 2401 s
        ⟨fun c h => absurd h (Nat.not_lt_zero c), fun c _ h => I c h⟩
        (fun q s' J => br_t (nI_le (a := 2401) (b := 2401) (Nat.le_refl _) (by omega)) (nm_r (nI_1 m) (k s' J.1)))
        (fun q c s' hc J k' => br_f (nI_ge (b := 2401) hc (by omega)) ?_)
      have Ai := cx_A_s (cx_G P K st f_mode f_thr va a_lo a_hi) K P m (cx_d7 c)
      have fi := cx_fin hc hK (fun p hp => hz p (by omega))
      have set0 : ¬ cx_A (cx_G P K st f_mode f_thr va a_lo a_hi) K P (m + 1) (cx_d7 c) → (vp_in (nI c) 2401 ∧ ∀ a : Nat → Int32, a = upd s' (nI c).toNatClampNeg (vp_nar .boolean 0) → (∀ x : Int32, x = nI c + 1 →
          wY_definitely_99 post (wY_definitely_90 post (nI (cx_lv K)) (nI (cx_c7 K)) (nI P) f_maxEv f_mode f_thr f_msgCount f_hasWit f_hasPath f_pathLen n) (nI (cx_lv K)) (nI (cx_c7 K)) (nI m) (nI P) f_maxEv f_mode f_thr f_msgCount f_hasWit f_hasPath f_pathLen q x a_init a_lo a_hi a_cnt a_val a_st a_msgP a_msgK a_msgRecv a_wit a_path a)) := by
        intro r
        refine ⟨vp_in_nI hc (by omega), ?_⟩
        rw [nI_clamp (n := c) (by omega), cx_nar0]
        refine nm_e (nm_r (nI_1 c) (k' _ ⟨fun c' h => ?_, fun c' h h' => ?_⟩))
        · by_cases e : c' = c
          · rw [e, pk_us, cx_i_f r]
          · rw [pk_un e]
            exact J.1 c' (by omega)
        · rw [pk_un (by omega)]
          exact J.2 c' (by omega) h'
      have set1 : cx_A (cx_G P K st f_mode f_thr va a_lo a_hi) K P (m + 1) (cx_d7 c) → (vp_in (nI c) 2401 ∧ ∀ a : Nat → Int32, a = upd s' (nI c).toNatClampNeg (vp_nar .boolean 1) → (∀ x : Int32, x = nI c + 1 →
          wY_definitely_99 post (wY_definitely_90 post (nI (cx_lv K)) (nI (cx_c7 K)) (nI P) f_maxEv f_mode f_thr f_msgCount f_hasWit f_hasPath f_pathLen n) (nI (cx_lv K)) (nI (cx_c7 K)) (nI m) (nI P) f_maxEv f_mode f_thr f_msgCount f_hasWit f_hasPath f_pathLen q x a_init a_lo a_hi a_cnt a_val a_st a_msgP a_msgK a_msgRecv a_wit a_path a)) := by
        intro r
        refine ⟨vp_in_nI hc (by omega), ?_⟩
        rw [nI_clamp (n := c) (by omega), cx_nar1]
        refine nm_e (nm_r (nI_1 c) (k' _ ⟨fun c' h => ?_, fun c' h h' => ?_⟩))
        · by_cases e : c' = c
          · rw [e, pk_us, cx_i_t r]
          · rw [pk_un e]
            exact J.1 c' (by omega)
        · rw [pk_un (by omega)]
          exact J.2 c' (by omega) h'
      refine yw_good hc hP hcn hK hB (fun g => br_f xw_10 ?_) (fun ng => br_t rfl (set0 (fun r => ng (Ai.mp r).1)))
      refine cx_eq (by omega) (by omega) (fun e => set1 (Ai.mpr ⟨g, Or.inl (fi.mp e)⟩)) (fun ne => ?_)
      refine yw_succ (A := cx_A (cx_G P K st f_mode f_thr va a_lo a_hi) K P m) hc hP hcn hK (fun c' h h' => J.2 c' (by omega) h') (fun ex => br_f xw_10 (set1 (Ai.mpr ⟨g, Or.inr ex⟩))) (fun nx => br_t rfl (set0 (fun r => ?_)))
      rcases (Ai.mp r).2 with f | ex
      · exact ne (fi.mpr f)
      · exact nx ex
  · rw [nI_clamp (n := i) (by omega), cx_nar0]
    refine nm_e (nm_r (nI_1 i) (k _ (fun c h => ?_)))
    by_cases e : c = i
    · rw [e, pk_us]
    · rw [pk_un e]
      exact I c (by omega)
end
