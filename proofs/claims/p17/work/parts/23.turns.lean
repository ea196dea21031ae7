/-! the law's turns -/
def cx_Ms (P M : Nat) (K : Nat → Nat) (ss : Nat → Int32) : Prop := ∀ m, m < M → ∃ p k : Nat, p < P ∧ k < K p ∧ ss m = nI (p * 7 + (k + 1))
theorem cx_Ms_up {P M : Nat} {K : Nat → Nat} {ss : Nat → Int32} (q : Nat) (h : cx_Ms P M K ss) : cx_Ms P M (cx_up K q) ss := fun m hm => by
  obtain ⟨p, k, a, b, c⟩ := h m hm
  exact ⟨p, k, a, Nat.lt_of_lt_of_le b (cx_up_le K q p), c⟩
theorem cx_Ms_send {P M q : Nat} {K : Nat → Nat} {ss : Nat → Int32} (hq : q < P) (h : cx_Ms P M K ss) : cx_Ms P (M + 1) (cx_up K q) (upd ss M (nI (q * 7 + (K q + 1)))) := fun m hm => by
  by_cases e : m = M
  · subst e
    exact ⟨q, K q, hq, by rw [cx_up_s]; omega, pk_us⟩
  · obtain ⟨p, k, a, b, c⟩ := h m (by omega)
    exact ⟨p, k, a, Nat.lt_of_lt_of_le b (cx_up_le K q p), by rw [pk_un e]; exact c⟩
theorem cx_Env_ev {L P R q : Nat} {xs : Nat → Int32} {K : Nat → Nat} {cn va st lo hi st' : Nat → Int32} (E : cx_Env L xs P R K cn va st lo hi) (hq : q < P) (hk : K q + 1 < R)
    (a : ∀ s q', s ≠ q * 7 + (K q + 1) → q' < 4 → st' (s * 4 + q') = st (s * 4 + q')) :
    cx_Env L xs P R (cx_up K q) (upd cn q (nI (K q + 1))) (upd va (q * 7 + (K q + 1)) (cx_vl L xs q (K q + 1))) st' lo hi := by
  obtain ⟨hL, hb, hcn, hKR, hz, hva, hlh, hst⟩ := id E
  obtain ⟨b1, b2, b3, b4, b5, b6⟩ := cx_PR_b hb
  refine ⟨hL, hb, cx_cn_up hcn q, fun p => ?_, fun p hp => ?_, fun p hp k hk' => ?_, hlh, fun p hp q' hq' => ?_⟩
  · by_cases e : p = q
    · rw [e, cx_up_s]; exact hk
    · rw [cx_up_n e]; exact hKR p
  · rw [cx_up_n (by omega)]
    exact hz p hp
  · have kp := hKR p
    by_cases e : p = q
    · subst e
      rw [cx_up_s] at hk'
      by_cases e2 : k = K p + 1
      · subst e2
        exact pk_us
      · rw [pk_un (by omega)]
        exact hva p hp k (by omega)
    · rw [cx_up_n e] at hk'
      rw [pk_un (by omega)]
      exact hva p hp k hk'
  · rw [a (p * 7 + 0) q' (by omega) (by omega)]
    exact hst p hp q' hq'
section
variable {L P R O kc ks : Nat} {xs lo hi : Nat → Int32} {md th : Int32}
theorem la_170 (hb : cx_PR P R) (hO : O ≤ 300) : ∀ (m i M : Nat) (K : Nat → Nat) (wc ps : Int32) (cn va st sp ss rc pa av : Nat → Int32), i + m = O + 1 → M ≤ 16 → cx_Env L xs P R K cn va st lo hi → cx_Ms P M K ss →
    wL_law_170 (fun r => r = 1) L xs (nI P) (nI R) (nI (R ^ P)) md th (nI O) kc ks (m + 1) (nI i + (-1)) (nI P) (nI (R - 1)) (nI M) md th wc ps cn va st sp ss rc lo hi pa av := by
  obtain ⟨b1, b2, b3, b4, b5, b6⟩ := cx_PR_b hb
  intro m
  induction m with
  | zero =>
    intro i M K wc ps cn va st sp ss rc pa av hi' hM E hms
    have e : i = O + 1 := by omega
    subst e
    rw [pk_m1]
    exact br_t (nI_le (Nat.le_refl O) (by omega)) rfl
  | succ m ih =>
    intro i M K wc ps cn va st sp ss rc pa av hi' hM E hms
    cases i with
    | zero =>
      have e0 : nI 0 + (-1) = (-1 : Int32) := by decide
      rw [e0]
      have nO : ¬ nI O ≤ (-1 : Int32) := fun z => by
        have a : (0 : Int32) ≤ -1 := Int32.le_trans (nI_pos' (n := O) (by omega)) z
        exact absurd a (by decide)
      refine br_f nO (br_t (by decide) (la_281 E (fun wc' ps' pa' av' => ?_)))
      have h := ih 1 M K wc' ps' cn va st sp ss rc pa' av' (by omega) hM E hms
      have e1 : nI 1 + (-1) = (-1 : Int32) + 1 := by decide
      rw [e1] at h
      exact h
    | succ j =>
      rw [pk_m1]
      have jO : j < O := by omega
      have e48 : 48 + nI j = nI (48 + j) := nI_add 48 j
      have hL := E.1
      have hcn := E.2.2.1
      have hKR := E.2.2.2.1
      have hKE : ∀ p, K p ≤ R - 1 := fun p => by have := hKR p; omega
      refine br_f (nI_ge jO (by omega)) (br_f (nI_pos (by omega)) ?_)
      rw [e48]
      refine la_cell hL (by omega) ⟨nI_ne0 (by omega) (by omega), ?_⟩
      generalize cx_cl L xs (48 + j) = op
      obtain ⟨b, hb4, eb⟩ := pk_andE ((op.toUInt32 >>> ((2 : Int32).toUInt32 &&& Int32.toUInt32 31)).toInt32) (m := 3) 2 (by decide)
      rw [eb, pk_rem (by omega) (by omega) (by omega)]
      have hq : b % P < P := Nat.mod_lt _ (by omega)
      generalize b % P = q at hq
      have kq := hKR q
      have J : ∀ (M' : Nat) (K' : Nat → Nat) (wc' ps' : Int32) (cn' va' st' sp' ss' rc' pa' av' : Nat → Int32), M' ≤ 16 → cx_Env L xs P R K' cn' va' st' lo hi → cx_Ms P M' K' ss' →
          wL_law_281 (fun r => r = 1) L xs (wL_law_170 (fun r => r = 1) L xs (nI P) (nI R) (nI (R ^ P)) md th (nI O) kc ks (m + 1)) (nI P) (nI R) (nI (R ^ P)) md th (nI O) (nI j) kc ks (nI P) (nI (R - 1)) (nI M') md th wc' ps' cn' va' st' sp' ss' rc' lo hi pa' av' := by
        intro M' K' wc' ps' cn' va' st' sp' ss' rc' pa' av' hM' E' hms'
        refine la_281 E' (fun wc2 ps2 pa2 av2 => ?_)
        have h := ih (j + 1 + 1) M' K' wc2 ps2 cn' va' st' sp' ss' rc' pa2 av2 (by omega) hM' E' hms'
        rw [pk_m1, ← nI_1] at h
        exact h
      refine nm_e (xo_count hq b2 hcn ?_)
      rw [nI_1]
      refine la_val hL (by omega) (by omega) (nm_e (br_c (fun _ => ?_) (fun _ => br_c (fun _ => ?_) (fun _ => ?_))))
      · exact xo_send hq b2 (by omega) hM hcn hKE (fun r => J M K _ _ _ _ _ _ _ _ _ _ hM E hms)
          (fun hl hl2 r st' a => J (M + 1) (cx_up K q) _ _ _ _ _ _ _ _ _ _ (by omega) (cx_Env_ev E hq (by omega) a) (cx_Ms_send hq hms))
      · exact xo_receive hq b2 (by omega) hM hcn hKE hms (fun r => J M K _ _ _ _ _ _ _ _ _ _ hM E hms)
          (fun hl m' r st' a => J M (cx_up K q) _ _ _ _ _ _ _ _ _ _ hM (cx_Env_ev E hq (by omega) a) (cx_Ms_up q hms))
      · exact xo_local hq b2 (by omega) hcn hKE (fun r => J M K _ _ _ _ _ _ _ _ _ _ hM E hms)
          (fun hl r st' a => J M (cx_up K q) _ _ _ _ _ _ _ _ _ _ hM (cx_Env_ev E hq (by omega) a) (cx_Ms_up q hms))
end
section
variable {L P R kc ks : Nat} {xs : Nat → Int32} {md th : Int32}
theorem la_94 (hL : L ≤ 260) (hb : cx_PR P R) (lo0 hi0 : Nat → Int32) :
    ∃ n, wL_law_94 (fun r => r = 1) L xs (nI P) (nI R) (nI (R ^ P)) md th kc ks n 0 (nI P) (nI (R - 1)) 0 md th (-1) (-1) (fun _ => 0) (fun _ => 0) (fun _ => 0) (fun _ => 0) (fun _ => 0) (fun _ => 0) lo0 hi0 (fun _ => 0) (fun _ => 0) := by
  obtain ⟨b1, b2, b3, b4, b5, b6⟩ := cx_PR_b hb
  refine cx_inv (σ := (Nat → Int32) × (Nat → Int32) × (Nat → Int32)) (fun n i s => wL_law_94 (fun r => r = 1) L xs (nI P) (nI R) (nI (R ^ P)) md th kc ks n (nI i) (nI P) (nI (R - 1)) 0 md th (-1) (-1) (fun _ => 0) s.1 (fun _ => 0) (fun _ => 0) (fun _ => 0) (fun _ => 0) s.2.1 s.2.2 (fun _ => 0) (fun _ => 0))
    (fun i s => ∀ p, p < i → s.1 (p * 7 + 0) = cx_vl L xs p 0 ∧ s.2.1 p = cx_lo L xs p ∧ s.2.2 p = cx_hi L xs p) P ((fun _ => 0), lo0, hi0) (fun p hp => absurd hp (Nat.not_lt_zero p))
    (fun n s I => br_t (nI_le (Nat.le_refl P) (by omega)) ?_) (fun n i s hi I k => br_f (nI_ge hi (by omega)) ?_)
  · obtain ⟨va, lo, hi⟩ := s
    have E : cx_Env L xs P R (fun _ => 0) (fun _ => 0) va (fun _ => 0) lo hi := ⟨hL, hb, fun _ => rfl, fun _ => (show 0 < R by omega), fun _ _ => rfl, fun p hp k hk => by
      have e : k = 0 := Nat.le_zero.mp hk
      subst e
      exact (I p hp).1, fun p hp => (I p hp).2, fun _ _ _ _ => rfl⟩
    have ms : cx_Ms P 0 (fun _ => 0) (fun _ => 0) := fun m hm => absurd hm (Nat.not_lt_zero m)
    refine pk_le L 48 (fun le => ?_) (fun lt => ?_)
    · have h := la_170 (kc := kc) (ks := ks) (O := 0) (md := md) (th := th) hb (by omega) 1 0 0 (fun _ => 0) (-1) (-1) (fun _ => 0) va (fun _ => 0) (fun _ => 0) (fun _ => 0) (fun _ => 0) (fun _ => 0) (fun _ => 0) (by omega) (by omega) E ms
      exact ⟨_, h⟩
    · have e : nI L - 48 = nI (L - 48) := pk_sub (b := 48) (by omega)
      refine nm_r e ?_
      have h := la_170 (kc := kc) (ks := ks) (O := L - 48) (md := md) (th := th) hb (by omega) (L - 48 + 1) 0 0 (fun _ => 0) (-1) (-1) (fun _ => 0) va (fun _ => 0) (fun _ => 0) (fun _ => 0) (fun _ => 0) (fun _ => 0) (fun _ => 0) (by omega) (by omega) E ms
      exact ⟨_, h⟩
  · obtain ⟨va, lo, hi'⟩ := s
    refine la_val (k := 0) hL (by omega) (by omega) (xo_setInitial (K := fun _ => 0) hi b2 (fun _ => rfl) rfl (br_f xw_10 (la_lo hL (by omega) (la_hi hL (by omega) (xo_setBounds hi b2 (br_f xw_10 (nm_r (nI_1 i) ?_)))))))
    refine k (upd va (i * 7 + 0) (cx_vl L xs i 0), upd lo i (cx_lo L xs i), upd hi' i (cx_hi L xs i)) (fun p hp => ?_)
    by_cases e : p = i
    · subst e
      exact ⟨pk_us, pk_us, pk_us⟩
    · have h := I p (by omega)
      refine ⟨?_, ?_, ?_⟩
      · show upd va (i * 7 + 0) (cx_vl L xs i 0) (p * 7 + 0) = _
        rw [pk_un (by omega)]
        exact h.1
      · show upd lo i (cx_lo L xs i) p = _
        rw [pk_un e]
        exact h.2.1
      · show upd hi' i (cx_hi L xs i) p = _
        rw [pk_un e]
        exact h.2.2
theorem la_30 {E : Nat} (hL : L ≤ 260) (hb : cx_PR P (E + 1)) (hE : 1 ≤ E) : wL_law_30 (fun r => r = 1) L xs (nI P) (nI E) 0 0 := by
  obtain ⟨b1, b2, b3, b4, b5, b6⟩ := cx_PR_b hb
  unfold wL_law_30
  refine nm_r (nI_1 E) (la_pw (by omega) (la_cell (k := 1) hL (by omega) ⟨by decide, ?_⟩))
  obtain ⟨m, hm, em⟩ := pk_andE (cx_cl L xs 1) (m := 3) 2 (by decide)
  have e3 : nI m - nI m / 3 * 3 = nI (m % 3) := pk_rem (d := 3) (by omega) (by omega) (by omega)
  rw [em, e3]
  refine nm_e (la_cell (k := 2) hL (by omega) (nm_e ⟨by omega, by omega, 10, 4320, by omega, by omega, ?_⟩))
  refine xo_init b1 b2 hE (by omega) (by omega) (by omega) (xo_setPredicate ?_ (br_f xw_10 ?_))
  · have l := Nat.mod_lt m (show 0 < 3 by omega)
    generalize m % 3 = z at l
    have o : z = 0 ∨ z = 1 ∨ z = 2 := by omega
    rcases o with rfl | rfl | rfl
    · exact Or.inl rfl
    · exact Or.inr (Or.inl rfl)
    · exact Or.inr (Or.inr rfl)
  · exact la_94 (R := E + 1) hL hb _ _
end
theorem i_vc (xs : Nat → Int32) (L : Nat) (hL : L ≤ 260) : wpL_law (fun r => r = 1) L xs := by
  unfold wpL_law
  refine la_cell (k := 0) hL (by omega) ?_
  obtain ⟨b, hb, eb⟩ := pk_andE (cx_cl L xs 0) (m := 3) 2 (by decide)
  rw [eb]
  refine nm_r (e' := nI (1 + b)) (nI_add 1 b) ?_
  have o : b = 0 ∨ b = 1 ∨ b = 2 ∨ b = 3 := by omega
  rcases o with rfl | rfl | rfl | rfl
  · exact br_f (by decide) (la_30 (P := 1) (E := 6) hL (Or.inl ⟨rfl, rfl⟩) (by omega))
  · exact br_f (by decide) (la_30 (P := 2) (E := 6) hL (Or.inr (Or.inl ⟨rfl, rfl⟩)) (by omega))
  · exact br_t (by decide) (br_t rfl (la_30 (P := 3) (E := 4) hL (Or.inr (Or.inr (Or.inl ⟨rfl, rfl⟩))) (by omega)))
  · exact br_t (by decide) (br_f (by decide) (la_30 (P := 4) (E := 2) hL (Or.inr (Or.inr (Or.inr ⟨rfl, rfl⟩))) (by omega)))
