/-! the walk over all cuts, downwards -/
def cx_LB (P R : Nat) (Q : (Nat → Nat) → Prop) (m : Nat) (best : Int32) (bk : Int64) : Prop :=
  (best = -1 ∧ bk = 9223372036854775807 ∧ ∀ c, m ≤ c → c < R ^ P → ¬ Q (cx_dR P R c)) ∨
  ∃ b : Nat, m ≤ b ∧ b < R ^ P ∧ best = nI b ∧ bk = lN (cx_ky P R (cx_dR P R b)) ∧ Q (cx_dR P R b) ∧ ∀ c, m ≤ c → c < R ^ P → Q (cx_dR P R c) → cx_ky P R (cx_dR P R b) ≤ cx_ky P R (cx_dR P R c)
theorem cx_ky_b {P R : Nat} {d : Nat → Nat} (h : cx_PR P R) (g : cx_Dg P R d) : cx_ky P R d < 10000 := by
  obtain ⟨b1, b2, b3, b4, b5, b6⟩ := cx_PR_b h
  have l := (cx_dB_of h g).2
  have v : cx_lv d ≤ 24 := cx_lv_6 (fun p _ => by
    by_cases e : p < P
    · have := g.1 p e
      omega
    · rw [g.2 p (by omega)]
      omega)
  unfold cx_ky
  have m : cx_lv d * R ^ P ≤ 24 * 125 := Nat.mul_le_mul v b5
  omega
theorem cx_LB_0 (P R : Nat) (Q : (Nat → Nat) → Prop) : cx_LB P R Q (R ^ P) (-1) 9223372036854775807 := Or.inl ⟨rfl, rfl, fun c a b => absurd a (by omega)⟩
theorem cx_LB_not {P R m : Nat} {Q : (Nat → Nat) → Prop} {best : Int32} {bk : Int64} (h : cx_LB P R Q (m + 1) best bk) (nq : ¬ Q (cx_dR P R m)) : cx_LB P R Q m best bk := by
  rcases h with ⟨e1, e2, h⟩ | ⟨b, h1, h2, e1, e2, q, h⟩
  · refine Or.inl ⟨e1, e2, fun c a l z => ?_⟩
    by_cases e : c = m
    · subst e
      exact nq z
    · exact h c (by omega) l z
  · refine Or.inr ⟨b, by omega, h2, e1, e2, q, fun c a l z => ?_⟩
    by_cases e : c = m
    · subst e
      exact absurd z nq
    · exact h c (by omega) l z
theorem cx_LB_le {P R m : Nat} {Q : (Nat → Nat) → Prop} {best : Int32} {bk : Int64} (hb : cx_PR P R) (h : cx_LB P R Q (m + 1) best bk) (le : bk ≤ lN (cx_ky P R (cx_dR P R m))) : cx_LB P R Q m best bk := by
  obtain ⟨b1, b2, b3, b4, b5, b6⟩ := cx_PR_b hb
  have km := cx_ky_b (d := cx_dR P R m) hb (cx_dR_Dg (by omega))
  rcases h with ⟨e1, e2, h⟩ | ⟨b, h1, h2, e1, e2, q, h⟩
  · subst e2
    have le' : lN 9223372036854775807 ≤ lN (cx_ky P R (cx_dR P R m)) := le
    rw [pk_lLE (by omega) (by omega)] at le'
    omega
  · subst e2
    have kb := cx_ky_b (d := cx_dR P R b) hb (cx_dR_Dg (by omega))
    rw [pk_lLE (by omega) (by omega)] at le
    refine Or.inr ⟨b, by omega, h2, e1, rfl, q, fun c a l z => ?_⟩
    by_cases e : c = m
    · subst e
      exact le
    · exact h c (by omega) l z
theorem cx_LB_new {P R m : Nat} {Q : (Nat → Nat) → Prop} {best : Int32} {bk : Int64} (hb : cx_PR P R) (h : cx_LB P R Q (m + 1) best bk) (hm : m < R ^ P) (q : Q (cx_dR P R m)) (nle : ¬ bk ≤ lN (cx_ky P R (cx_dR P R m))) : cx_LB P R Q m (nI m) (lN (cx_ky P R (cx_dR P R m))) := by
  obtain ⟨b1, b2, b3, b4, b5, b6⟩ := cx_PR_b hb
  have km := cx_ky_b (d := cx_dR P R m) hb (cx_dR_Dg (by omega))
  refine Or.inr ⟨m, Nat.le_refl m, hm, rfl, rfl, q, fun c a l z => ?_⟩
  by_cases e : c = m
  · subst e
    exact Nat.le_refl _
  · rcases h with ⟨e1, e2, h⟩ | ⟨b, h1, h2, e1, e2, _, h⟩
    · exact absurd z (h c (by omega) l)
    · subst e2
      have kb := cx_ky_b (d := cx_dR P R b) hb (cx_dR_Dg (by omega))
      rw [pk_lLE (by omega) (by omega)] at nle
      have := h c (by omega) l z
      omega
theorem cx_Bst_R {P R b e8 : Nat} {Q : (Nat → Nat) → Prop} (hb : cx_PR P R) (hQ : ∀ d, Q d → (∀ p, 4 ≤ p → d p = 0) → cx_Dg P R d) (h8 : cx_Bst Q cx_d8 4096 e8) (q : Q (cx_dR P R b)) (hm : ∀ c, c < R ^ P → Q (cx_dR P R c) → cx_ky P R (cx_dR P R b) ≤ cx_ky P R (cx_dR P R c)) :
    cx_d8 e8 = cx_dR P R b := by
  obtain ⟨b1, b2, b3, b4, b5, b6⟩ := cx_PR_b hb
  have g' := cx_dR_Dg (P := P) (R := R) (c := b) (by omega)
  have g := hQ _ h8.2.1 (fun _ hp => cx_8_4 hp)
  obtain ⟨e1, l1⟩ := cx_Dg_8 hb g'
  obtain ⟨e2, l2⟩ := cx_dR_of hb g
  have o := h8.2.2 (cx_c8 (cx_dR P R b)) l1 (by rw [e1]; exact q)
  rw [e1] at o
  have k := hm (cx_cs R (cx_d8 e8) P) l2 (by rw [e2]; exact h8.2.1)
  rw [e2] at k
  exact cx_ky_eq hb g g' (by rw [cx_8_c h8.1]; exact o) k
theorem cx_no_R {P R : Nat} {Q : (Nat → Nat) → Prop} (hb : cx_PR P R) (hQ : ∀ d, Q d → (∀ p, 4 ≤ p → d p = 0) → cx_Dg P R d) : (∀ c, c < 4096 → ¬ Q (cx_d8 c)) ↔ (∀ c, c < R ^ P → ¬ Q (cx_dR P R c)) := by
  obtain ⟨b1, b2, b3, b4, b5, b6⟩ := cx_PR_b hb
  constructor
  · intro z c hc q
    obtain ⟨e1, l1⟩ := cx_Dg_8 hb (cx_dR_Dg (P := P) (R := R) (c := c) (by omega))
    exact z _ l1 (by rw [e1]; exact q)
  · intro z c hc q
    obtain ⟨e2, l2⟩ := cx_dR_of hb (hQ _ q (fun _ hp => cx_8_4 hp))
    exact z _ l2 (by rw [e2]; exact q)
theorem cx_cnt_t {Q : Nat → Prop} {T i : Nat} (q : Q i) (h : i < T) : nI (cx_n Q T - cx_n Q (i + 1)) + 1 = nI (cx_n Q T - cx_n Q i) := by
  have m := cx_n_mono Q (i + 1) T h
  rw [cx_n_t q] at m ⊢
  rw [nI_1]
  exact congrArg nI (by omega)
theorem cx_cnt_f {Q : Nat → Prop} {T i : Nat} (q : ¬ Q i) : nI (cx_n Q T - cx_n Q (i + 1)) = nI (cx_n Q T - cx_n Q i) := by rw [cx_n_f q]
theorem cx_n_pos {Q : Nat → Prop} {T c : Nat} (hc : c < T) (q : Q c) : 0 < cx_n Q T := by
  have m := cx_n_mono Q (c + 1) T hc
  rw [cx_n_t q] at m
  omega
theorem cx_n_zero {Q : Nat → Prop} : ∀ T, (∀ c, c < T → ¬ Q c) → cx_n Q T = 0 := by
  intro T
  induction T with
  | zero => exact fun _ => rfl
  | succ T ih =>
    intro h
    rw [cx_n_f (h T (by omega))]
    exact ih (fun c hc => h c (by omega))
section
variable {post : Int32 → Prop} {L P R kc ks : Nat} {K : Nat → Nat} {xs : Nat → Int32} {J170 : Int32 → Int32 → Int32 → Int32 → Int32 → Int32 → Int32 → Int32 → (Nat → Int32) → (Nat → Int32) → (Nat → Int32) → (Nat → Int32) → (Nat → Int32) → (Nat → Int32) → (Nat → Int32) → (Nat → Int32) → (Nat → Int32) → (Nat → Int32) → Prop} {x8 x9 : Int32} {f_procs f_maxEvents f_messages f_mode f_threshold f_witnessCut f_pathSteps : Int32} {a_counts a_values a_stamps a_senders a_sendSlots a_received a_lows a_highs a_path a_avoidable : Nat → Int32}
theorem la_post {x16 x17 x18 : Int32} {x19 x21 x23 : Int64} {n : Nat} (E : cx_Env L xs P R K a_counts a_values a_stamps a_lows a_highs)
    (hcc : x16 = nI (cx_n (fun c => cx_V P K a_stamps (cx_dR P R c)) (R ^ P))) (hsc : x17 = nI (cx_n (fun c => cx_Q P K a_stamps f_mode f_threshold a_values a_lows a_highs (cx_dR P R c)) (R ^ P)))
    (hLB : cx_LB P R (cx_Q P K a_stamps f_mode f_threshold a_values a_lows a_highs) 0 x18 x19)
    (hbit : ∀ j, j < R ^ P → (cx_bt x21 x23 j = true ↔ cx_R (cx_G P K a_stamps f_mode f_threshold a_values a_lows a_highs) K P (cx_dR P R j)))
    (hJ : ∀ (wc ps : Int32) (pa av : Nat → Int32), J170 (x9 + 1) (nI P) f_maxEvents f_messages f_mode f_threshold wc ps a_counts a_values a_stamps a_senders a_sendSlots a_received a_lows a_highs pa av) :
    wL_law_423 post L xs J170 (nI P) (nI R) (nI (R ^ P)) f_mode f_threshold x8 x9 (nI (K 0)) (nI (K 1)) (nI (K 2)) (nI (K 3)) (nI (cx_cs R K P)) (nI (cx_lv K)) kc ks (nI P) f_maxEvents f_messages f_mode f_threshold f_witnessCut f_pathSteps a_counts a_values a_stamps a_senders a_sendSlots a_received a_lows a_highs a_path a_avoidable (n + 1) x16 x17 x18 x19 x21 x23 (-1) := by
  obtain ⟨hL, hb, hcn, hKR, hz, hva, hlh, hst⟩ := id E
  obtain ⟨b1, b2, b3, b4, b5, b6⟩ := cx_PR_b hb
  have hK6 := cx_Env_6 E
  have hVD : ∀ d, cx_V P K a_stamps d → (∀ p, 4 ≤ p → d p = 0) → cx_Dg P R d := fun d v h4 => cx_V_Dg hKR hz v.1 h4 b2
  have hQD : ∀ d, cx_Q P K a_stamps f_mode f_threshold a_values a_lows a_highs d → (∀ p, 4 ≤ p → d p = 0) → cx_Dg P R d := fun d q h4 => hVD d q.1 h4
  have nle := cx_n_le (fun c => cx_Q P K a_stamps f_mode f_threshold a_values a_lows a_highs (cx_dR P R c)) (R ^ P)
  refine br_t (by decide) (xw_cc b2 hcn hK6 (br_t ?_ (xw_cs b2 hcn hK6 (br_t ?_ (xw_possibly b2 hcn hK6 (fun none => ?_) (fun e8 h8 => ?_))))))
  · rw [hcc]
    exact congrArg nI (cx_n_R hb _ hVD)
  · rw [hsc]
    exact congrArg nI (cx_n_R hb _ hQD)
  · have noneR := (cx_no_R hb hQD).mp none
    have e0 : x17 = 0 := by
      rw [hsc, cx_n_zero (R ^ P) noneR]
      rfl
    have l0 : x17 ≤ 0 := by rw [e0]; decide
    refine br_t l0 ?_
    unfold wL_law_916
    exact br_t rfl (br_t l0 (xo_witness0 (br_t rfl (la_976 E hbit hJ))))
  · rcases hLB with ⟨_, _, z⟩ | ⟨b, _, hbT, e1, _, q, hm⟩
    · exact absurd h8.2.1 ((cx_no_R hb hQD).mpr (fun c hc => z c (Nat.zero_le c) hc) e8 h8.1)
    · have n0 := cx_n_pos (Q := fun c => cx_Q P K a_stamps f_mode f_threshold a_values a_lows a_highs (cx_dR P R c)) hbT q
      have l0 : ¬ x17 ≤ 0 := by
        rw [hsc]
        exact nI_nle n0 (by omega)
      have ed := cx_Bst_R hb hQD h8 q (fun c hc qc => hm c (Nat.zero_le c) hc qc)
      subst e1
      refine br_f l0 ?_
      unfold wL_law_916
      exact br_t rfl (br_f l0 (la_929 hb hbT h8.1 ed (la_976 E hbit hJ)))
theorem la_423 (E : cx_Env L xs P R K a_counts a_values a_stamps a_lows a_highs) (hJ : ∀ (wc ps : Int32) (pa av : Nat → Int32), J170 (x9 + 1) (nI P) f_maxEvents f_messages f_mode f_threshold wc ps a_counts a_values a_stamps a_senders a_sendSlots a_received a_lows a_highs pa av) :
    ∃ n, wL_law_423 post L xs J170 (nI P) (nI R) (nI (R ^ P)) f_mode f_threshold x8 x9 (nI (K 0)) (nI (K 1)) (nI (K 2)) (nI (K 3)) (nI (cx_cs R K P)) (nI (cx_lv K)) kc ks (nI P) f_maxEvents f_messages f_mode f_threshold f_witnessCut f_pathSteps a_counts a_values a_stamps a_senders a_sendSlots a_received a_lows a_highs a_path a_avoidable n 0 0 (-1) 9223372036854775807 0 0 (nI (R ^ P - 1)) := by
  obtain ⟨hL, hb, hcn, hKR, hz, hva, hlh, hst⟩ := id E
  obtain ⟨b1, b2, b3, b4, b5, b6⟩ := cx_PR_b hb
  have hG := cx_G_K (P := P) (K := K) (st := a_stamps) (md := f_mode) (th := f_threshold) (va := a_values) (lo := a_lows) (hi := a_highs)
  have hK6 := cx_Env_6 E
  refine cx_down (σ := Int32 × Int32 × Int32 × Int64 × Int64 × Int64) (fun n x s => wL_law_423 post L xs J170 (nI P) (nI R) (nI (R ^ P)) f_mode f_threshold x8 x9 (nI (K 0)) (nI (K 1)) (nI (K 2)) (nI (K 3)) (nI (cx_cs R K P)) (nI (cx_lv K)) kc ks (nI P) f_maxEvents f_messages f_mode f_threshold f_witnessCut f_pathSteps a_counts a_values a_stamps a_senders a_sendSlots a_received a_lows a_highs a_path a_avoidable n s.1 s.2.1 s.2.2.1 s.2.2.2.1 s.2.2.2.2.1 s.2.2.2.2.2 x)
    (fun m s => m ≤ R ^ P ∧ s.1 = nI (cx_n (fun c => cx_V P K a_stamps (cx_dR P R c)) (R ^ P) - cx_n (fun c => cx_V P K a_stamps (cx_dR P R c)) m) ∧
      s.2.1 = nI (cx_n (fun c => cx_Q P K a_stamps f_mode f_threshold a_values a_lows a_highs (cx_dR P R c)) (R ^ P) - cx_n (fun c => cx_Q P K a_stamps f_mode f_threshold a_values a_lows a_highs (cx_dR P R c)) m) ∧
      cx_LB P R (cx_Q P K a_stamps f_mode f_threshold a_values a_lows a_highs) m s.2.2.1 s.2.2.2.1 ∧
      (∀ j, j < 128 → (cx_bt s.2.2.2.2.1 s.2.2.2.2.2 j = true ↔ (m ≤ j ∧ j < R ^ P ∧ cx_R (cx_G P K a_stamps f_mode f_threshold a_values a_lows a_highs) K P (cx_dR P R j)))))
    (fun n s I => ?_) (fun n i s I k => ?_) (R ^ P - 1) (0, 0, -1, 9223372036854775807, 0, 0) ?_
  · obtain ⟨x16, x17, x18, x19, x21, x23⟩ := s
    obtain ⟨_, i1, i2, i3, i4⟩ := I
    exact la_post E i1 i2 i3 (fun j hj => (i4 j (by omega)).trans ⟨fun z => z.2.2, fun z => ⟨Nat.zero_le j, hj, z⟩⟩) hJ
  · obtain ⟨x16, x17, x18, x19, x21, x23⟩ := s
    obtain ⟨i0, i1, i2, i3, i4⟩ := I
    have hi : i < R ^ P := by omega
    have i1' : x16 = nI (cx_n (fun c => cx_V P K a_stamps (cx_dR P R c)) (R ^ P) - cx_n (fun c => cx_V P K a_stamps (cx_dR P R c)) (i + 1)) := i1
    have i2' : x17 = nI (cx_n (fun c => cx_Q P K a_stamps f_mode f_threshold a_values a_lows a_highs (cx_dR P R c)) (R ^ P) - cx_n (fun c => cx_Q P K a_stamps f_mode f_threshold a_values a_lows a_highs (cx_dR P R c)) (i + 1)) := i2
    have i4' : ∀ j, j < 128 → (cx_bt x21 x23 j = true ↔ (i + 1 ≤ j ∧ j < R ^ P ∧ cx_R (cx_G P K a_stamps f_mode f_threshold a_values a_lows a_highs) K P (cx_dR P R j))) := i4
    have nb : ¬ cx_R (cx_G P K a_stamps f_mode f_threshold a_values a_lows a_highs) K P (cx_dR P R i) → ∀ j, j < 128 → (cx_bt x21 x23 j = true ↔ (i ≤ j ∧ j < R ^ P ∧ cx_R (cx_G P K a_stamps f_mode f_threshold a_values a_lows a_highs) K P (cx_dR P R j))) := by
      intro nr j hj
      rw [i4' j hj]
      constructor
      · exact fun z => ⟨by omega, z.2⟩
      · intro z
        refine ⟨?_, z.2⟩
        by_cases e : j = i
        · subst e
          exact absurd z.2.2 nr
        · omega
    have Ri := cx_R_iff hG b2 hK6 (cx_dR P R i)
    refine br_f (nI_pos (by omega)) (la_434 E hi (la_553 E hi ?_ ?_ ?_ ?_ ?_ ?_))
    · intro j hj hjT
      exact (i4' j (by omega)).trans ⟨fun z => z.2.2, fun z => ⟨by omega, hjT, z⟩⟩
    · intro nv
      refine k (x16, x17, x18, x19, x21, x23) ⟨by omega, ?_, ?_, cx_LB_not i3 (fun q => nv q.1), nb (fun r => nv (Ri.mp r).1.1)⟩
      · exact i1'.trans (cx_cnt_f (Q := fun c => cx_V P K a_stamps (cx_dR P R c)) nv)
      · exact i2'.trans (cx_cnt_f (Q := fun c => cx_Q P K a_stamps f_mode f_threshold a_values a_lows a_highs (cx_dR P R c)) (fun q => nv q.1))
    · intro v sa le
      refine k (x16 + 1, x17 + 1, x18, x19, x21, x23) ⟨by omega, ?_, ?_, cx_LB_le hb i3 le, nb (fun r => (Ri.mp r).1.2 sa)⟩
      · show x16 + 1 = _
        rw [i1']
        exact cx_cnt_t (Q := fun c => cx_V P K a_stamps (cx_dR P R c)) v hi
      · show x17 + 1 = _
        rw [i2']
        exact cx_cnt_t (Q := fun c => cx_Q P K a_stamps f_mode f_threshold a_values a_lows a_highs (cx_dR P R c)) ⟨v, sa⟩ hi
    · intro v sa nle
      refine k (x16 + 1, x17 + 1, nI i, lN (cx_ky P R (cx_dR P R i)), x21, x23) ⟨by omega, ?_, ?_, cx_LB_new hb i3 hi ⟨v, sa⟩ nle, nb (fun r => (Ri.mp r).1.2 sa)⟩
      · show x16 + 1 = _
        rw [i1']
        exact cx_cnt_t (Q := fun c => cx_V P K a_stamps (cx_dR P R c)) v hi
      · show x17 + 1 = _
        rw [i2']
        exact cx_cnt_t (Q := fun c => cx_Q P K a_stamps f_mode f_threshold a_values a_lows a_highs (cx_dR P R c)) ⟨v, sa⟩ hi
    · intro g r a b hab
      refine k (x16 + 1, x17, x18, x19, a, b) ⟨by omega, ?_, ?_, cx_LB_not i3 (fun q => g.2 q.2), fun j hj => ?_⟩
      · show x16 + 1 = _
        rw [i1']
        exact cx_cnt_t (Q := fun c => cx_V P K a_stamps (cx_dR P R c)) g.1 hi
      · exact i2'.trans (cx_cnt_f (Q := fun c => cx_Q P K a_stamps f_mode f_threshold a_values a_lows a_highs (cx_dR P R c)) (fun q => g.2 q.2))
      · show cx_bt a b j = true ↔ _
        rw [hab j hj, Bool.or_eq_true, decide_eq_true_iff, i4' j hj]
        constructor
        · intro z
          rcases z with z | z
          · exact ⟨by omega, z.2⟩
          · subst z
            exact ⟨Nat.le_refl _, hi, r⟩
        · intro z
          by_cases e : j = i
          · exact Or.inr e
          · exact Or.inl ⟨by omega, z.2⟩
    · intro g nr
      refine k (x16 + 1, x17, x18, x19, x21, x23) ⟨by omega, ?_, ?_, cx_LB_not i3 (fun q => g.2 q.2), nb nr⟩
      · show x16 + 1 = _
        rw [i1']
        exact cx_cnt_t (Q := fun c => cx_V P K a_stamps (cx_dR P R c)) g.1 hi
      · exact i2'.trans (cx_cnt_f (Q := fun c => cx_Q P K a_stamps f_mode f_threshold a_values a_lows a_highs (cx_dR P R c)) (fun q => g.2 q.2))
  · have e : R ^ P - 1 + 1 = R ^ P := by omega
    rw [e]
    refine ⟨Nat.le_refl _, ?_, ?_, cx_LB_0 P R _, fun j hj => ?_⟩
    · rw [Nat.sub_self]
      rfl
    · rw [Nat.sub_self]
      rfl
    · show cx_bt 0 0 j = true ↔ _
      have z : cx_bt 0 0 j = false := by
        unfold cx_bt
        by_cases l : j < 64
        · rw [if_pos l]
          exact BitVec.getLsbD_zero
        · rw [if_neg l]
          exact BitVec.getLsbD_zero
      rw [z]
      exact ⟨fun h => Bool.noConfusion h, fun h => absurd h.1 (by omega)⟩
theorem la_281 (E : cx_Env L xs P R K a_counts a_values a_stamps a_lows a_highs) (hJ : ∀ (wc ps : Int32) (pa av : Nat → Int32), J170 (x9 + 1) (nI P) f_maxEvents f_messages f_mode f_threshold wc ps a_counts a_values a_stamps a_senders a_sendSlots a_received a_lows a_highs pa av) :
    wL_law_281 post L xs J170 (nI P) (nI R) (nI (R ^ P)) f_mode f_threshold x8 x9 kc ks (nI P) f_maxEvents f_messages f_mode f_threshold f_witnessCut f_pathSteps a_counts a_values a_stamps a_senders a_sendSlots a_received a_lows a_highs a_path a_avoidable := by
  obtain ⟨hL, hb, hcn, hKR, hz, hva, hlh, hst⟩ := id E
  obtain ⟨b1, b2, b3, b4, b5, b6⟩ := cx_PR_b hb
  have H349 : ∃ n, wL_law_349 post L xs J170 (nI P) (nI R) (nI (R ^ P)) f_mode f_threshold x8 x9 (nI (K 0)) (nI (K 1)) (nI (K 2)) (nI (K 3)) kc ks (nI P) f_maxEvents f_messages f_mode f_threshold f_witnessCut f_pathSteps a_counts a_values a_stamps a_senders a_sendSlots a_received a_lows a_highs a_path a_avoidable n 0 0 0 := by
    refine cx_fold (σ := Int32 × Int32) (fun n i s => wL_law_349 post L xs J170 (nI P) (nI R) (nI (R ^ P)) f_mode f_threshold x8 x9 (nI (K 0)) (nI (K 1)) (nI (K 2)) (nI (K 3)) kc ks (nI P) f_maxEvents f_messages f_mode f_threshold f_witnessCut f_pathSteps a_counts a_values a_stamps a_senders a_sendSlots a_received a_lows a_highs a_path a_avoidable n s.1 s.2 (nI i)) P (fun i => (nI (cx_cs R K i), nI (cx_pl K i)))
      (fun n => br_t (nI_le (Nat.le_refl P) (by omega)) ?_) (fun n i hi k => br_f (nI_ge hi (by omega)) (la_pick (by omega) (la_pw (by omega) ?_)))
    · have e : nI (R ^ P) - 1 = nI (R ^ P - 1) := pk_sub (b := 1) b6
      refine nm_r e ?_
      show ∃ n, wL_law_423 post L xs J170 (nI P) (nI R) (nI (R ^ P)) f_mode f_threshold x8 x9 (nI (K 0)) (nI (K 1)) (nI (K 2)) (nI (K 3)) (nI (cx_cs R K P)) (nI (cx_pl K P)) kc ks (nI P) f_maxEvents f_messages f_mode f_threshold f_witnessCut f_pathSteps a_counts a_values a_stamps a_senders a_sendSlots a_received a_lows a_highs a_path a_avoidable n 0 0 (-1) 9223372036854775807 0 0 (nI (R ^ P - 1))
      rw [cx_pl_P hb (d := K) ⟨fun p _ => hKR p, hz⟩]
      exact la_423 E hJ
    · refine nm_r (e' := nI (cx_cs R K (i + 1))) ?_ (nm_r (nI_add _ _) (nm_r (nI_1 i) k))
      rw [pk_mul, nI_add]
      rfl
  have H321 : wL_law_321 post L xs J170 (nI P) (nI R) (nI (R ^ P)) f_mode f_threshold x8 x9 (nI (K 0)) (nI (K 1)) (nI (K 2)) kc ks (nI P) f_maxEvents f_messages f_mode f_threshold f_witnessCut f_pathSteps a_counts a_values a_stamps a_senders a_sendSlots a_received a_lows a_highs a_path a_avoidable := by
    unfold wL_law_321
    refine pk_le P 3 (fun le => ?_) (fun lt => xo_count (j := 3) lt b2 hcn H349)
    rw [hz 3 le] at H349
    exact H349
  have H304 : wL_law_304 post L xs J170 (nI P) (nI R) (nI (R ^ P)) f_mode f_threshold x8 x9 (nI (K 0)) (nI (K 1)) kc ks (nI P) f_maxEvents f_messages f_mode f_threshold f_witnessCut f_pathSteps a_counts a_values a_stamps a_senders a_sendSlots a_received a_lows a_highs a_path a_avoidable := by
    unfold wL_law_304
    refine pk_le P 2 (fun le => ?_) (fun lt => xo_count (j := 2) lt b2 hcn H321)
    rw [hz 2 le] at H321
    exact H321
  unfold wL_law_281
  refine xo_count (j := 0) (by omega) b2 hcn (pk_le P 1 (fun le => ?_) (fun lt => xo_count (j := 1) lt b2 hcn H304))
  rw [hz 1 le] at H304
  exact H304
end
