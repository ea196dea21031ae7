/-! one cut of the law's walk over all cuts -/
def cx_Env (L : Nat) (xs : Nat → Int32) (P R : Nat) (K : Nat → Nat) (cn va st lo hi : Nat → Int32) : Prop :=
  L ≤ 260 ∧ cx_PR P R ∧ (∀ i, cn i = nI (K i)) ∧ (∀ p, K p < R) ∧ (∀ p, P ≤ p → K p = 0) ∧ (∀ p, p < P → ∀ k, k ≤ K p → va (p * 7 + k) = cx_vl L xs p k) ∧
  (∀ p, p < P → lo p = cx_lo L xs p ∧ hi p = cx_hi L xs p) ∧ (∀ p, p < P → ∀ q, q < P → st ((p * 7 + 0) * 4 + q) = 0)
theorem cx_Env_6 {L : Nat} {xs : Nat → Int32} {P R : Nat} {K : Nat → Nat} {cn va st lo hi : Nat → Int32} (E : cx_Env L xs P R K cn va st lo hi) : ∀ p, p < 4 → K p ≤ 6 := fun p _ => by
  have a := E.2.2.2.1 p
  have b := (cx_PR_b E.2.1).2.2.2.1
  omega
theorem cx_V_Dg {P R : Nat} {K : Nat → Nat} {d : Nat → Nat} (hK : ∀ p, K p < R) (hz : ∀ p, P ≤ p → K p = 0) (v : cx_Va K d) (h4 : ∀ p, 4 ≤ p → d p = 0) (hP : P ≤ 4) : cx_Dg P R d := by
  refine ⟨fun p hp => ?_, fun p hp => ?_⟩
  · have a := v p (by omega)
    have b := hK p
    omega
  · by_cases e : p < 4
    · have a := v p e
      have b := hz p hp
      omega
    · exact h4 p (by omega)
theorem cx_pl_P {P R : Nat} {d : Nat → Nat} (h : cx_PR P R) (g : cx_Dg P R d) : cx_pl d P = cx_lv d := by
  obtain ⟨g1, g2⟩ := g
  unfold cx_lv
  rcases h with ⟨rfl, rfl⟩ | ⟨rfl, rfl⟩ | ⟨rfl, rfl⟩ | ⟨rfl, rfl⟩
  · have a1 := g2 1 (by omega)
    have a2 := g2 2 (by omega)
    have a3 := g2 3 (by omega)
    show 0 + d 0 = _
    omega
  · have a2 := g2 2 (by omega)
    have a3 := g2 3 (by omega)
    show 0 + d 0 + d 1 = _
    omega
  · have a3 := g2 3 (by omega)
    show 0 + d 0 + d 1 + d 2 = _
    omega
  · show 0 + d 0 + d 1 + d 2 + d 3 = _
    omega
theorem cx_Fin {P R c : Nat} {K : Nat → Nat} (hb : cx_PR P R) (hc : c < R ^ P) (hK : ∀ p, K p < R) (hz : ∀ p, P ≤ p → K p = 0) : c = cx_cs R K P ↔ (∀ p, p < 4 → cx_dR P R c p = K p) := by
  obtain ⟨b1, b2, b3, b4, b5, b6⟩ := cx_PR_b hb
  constructor
  · intro e p _
    rw [e, (cx_dR_of hb ⟨fun p _ => hK p, hz⟩).1]
  · intro f
    have e : cx_dR P R c = K := funext fun p => by
      by_cases hp : p < 4
      · exact f p hp
      · rw [(cx_dR_Dg (by omega)).2 p (by omega), hz p (by omega)]
    rw [← e, cx_cs_c hb hc]
section
variable {post : Int32 → Prop} {L P R c kc ks : Nat} {K : Nat → Nat} {xs : Nat → Int32} {J170 : Int32 → Int32 → Int32 → Int32 → Int32 → Int32 → Int32 → Int32 → (Nat → Int32) → (Nat → Int32) → (Nat → Int32) → (Nat → Int32) → (Nat → Int32) → (Nat → Int32) → (Nat → Int32) → (Nat → Int32) → (Nat → Int32) → (Nat → Int32) → Prop} {J423 : Int32 → Int32 → Int32 → Int64 → Int64 → Int64 → Int32 → Prop} {x8 x9 x16 x17 x18 : Int32} {x19 x21 x23 : Int64} {f_procs f_maxEvents f_messages f_mode f_threshold f_witnessCut f_pathSteps : Int32} {a_counts a_values a_stamps a_senders a_sendSlots a_received a_lows a_highs a_path a_avoidable : Nat → Int32}
theorem la_675 (hb : cx_PR P R) (hc : c < R ^ P)
    (k1 : x19 ≤ lN (cx_ky P R (cx_dR P R c)) → J423 x16 x17 x18 x19 x21 x23 (nI c + (-1))) (k2 : ¬ x19 ≤ lN (cx_ky P R (cx_dR P R c)) → J423 x16 x17 (nI c) (lN (cx_ky P R (cx_dR P R c))) x21 x23 (nI c + (-1))) :
    ∃ n, wL_law_675 post L xs J170 J423 (nI P) (nI R) (nI (R ^ P)) f_mode f_threshold x8 x9 (nI (K 0)) (nI (K 1)) (nI (K 2)) (nI (K 3)) (nI (cx_cs R K P)) (nI (cx_lv K)) x16 x17 x18 x19 x21 x23 (nI c) kc ks (nI P) f_maxEvents f_messages f_mode f_threshold f_witnessCut f_pathSteps a_counts a_values a_stamps a_senders a_sendSlots a_received a_lows a_highs a_path a_avoidable n 0 0 0 := by
  obtain ⟨b1, b2, b3, b4, b5, b6⟩ := cx_PR_b hb
  refine cx_fold (σ := Int64 × Int64) (fun n i s => wL_law_675 post L xs J170 J423 (nI P) (nI R) (nI (R ^ P)) f_mode f_threshold x8 x9 (nI (K 0)) (nI (K 1)) (nI (K 2)) (nI (K 3)) (nI (cx_cs R K P)) (nI (cx_lv K)) x16 x17 x18 x19 x21 x23 (nI c) kc ks (nI P) f_maxEvents f_messages f_mode f_threshold f_witnessCut f_pathSteps a_counts a_values a_stamps a_senders a_sendSlots a_received a_lows a_highs a_path a_avoidable n s.1 s.2 (nI i)) P (fun i => (lN (cx_pl (cx_dR P R c) i), lN (cx_lx P R (cx_dR P R c) i)))
    (fun n => br_t (nI_le (Nat.le_refl P) (by omega)) ?_) (fun n i hi k => br_f (nI_ge hi (by omega)) (la_compD hb hc (by omega) ?_))
  · refine nm_r (e' := lN (cx_ky P R (cx_dR P R c))) ?_ (br_c (fun h => nm_e (k1 h)) (fun h => nm_e (k2 h)))
    show lN (cx_pl (cx_dR P R c) P) * (nI (R ^ P)).toInt64 + lN (cx_lx P R (cx_dR P R c) P) = _
    rw [nI_l (by omega), lN_mul, lN_add, cx_pl_P hb (cx_dR_Dg (by omega))]
    rfl
  · have g := (cx_dR_Dg (P := P) (R := R) (c := c) (by omega)).1 i hi
    have e1 : nI P - 1 = nI (P - 1) := pk_sub (b := 1) b1
    have e2 : nI (P - 1) - nI i = nI (P - 1 - i) := pk_sub (by omega)
    obtain ⟨w1, w2⟩ := cx_pw_b (R := R) (p := P - 1 - i) b3 b4 (by omega)
    refine nm_r (e' := lN (cx_pl (cx_dR P R c) (i + 1))) (by rw [nI_l (by omega), lN_add]; rfl) (la_compD hb hc (by omega) ?_)
    rw [e1, e2]
    refine la_pw (by omega) (nm_r (e' := lN (cx_lx P R (cx_dR P R c) (i + 1))) ?_ (nm_r (nI_1 i) k))
    rw [nI_l (by omega), nI_l (by omega), lN_mul, lN_add]
    rfl
theorem la_774 {G : (Nat → Nat) → Prop} (hb : cx_PR P R) (hc : c < R ^ P) (hK : ∀ p, K p < R) (hz : ∀ p, P ≤ p → K p = 0) (hG : ∀ d, G d → ∀ p, p < 4 → d p ≤ K p) (g : G (cx_dR P R c))
    (hbit : ∀ j, c < j → j < R ^ P → (cx_bt x21 x23 j = true ↔ cx_R G K P (cx_dR P R j)))
    (k1 : cx_R G K P (cx_dR P R c) → ∀ a b : Int64, (∀ j, j < 128 → cx_bt a b j = (cx_bt x21 x23 j || decide (j = c))) → J423 x16 x17 x18 x19 a b (nI c + (-1)))
    (k0 : ¬ cx_R G K P (cx_dR P R c) → J423 x16 x17 x18 x19 x21 x23 (nI c + (-1))) :
    ∃ n, wL_law_774 post L xs J170 J423 (nI P) (nI R) (nI (R ^ P)) f_mode f_threshold x8 x9 (nI (K 0)) (nI (K 1)) (nI (K 2)) (nI (K 3)) (nI (cx_cs R K P)) (nI (cx_lv K)) x16 x17 x18 x19 x21 x23 (nI c) kc ks (nI P) f_maxEvents f_messages f_mode f_threshold f_witnessCut f_pathSteps a_counts a_values a_stamps a_senders a_sendSlots a_received a_lows a_highs a_path a_avoidable n (cx_i (c = cx_cs R K P)) 0 := by
  obtain ⟨b1, b2, b3, b4, b5, b6⟩ := cx_PR_b hb
  have hK6 : ∀ p, p < 4 → K p ≤ 6 := fun p _ => by have := hK p; omega
  have Ri := cx_R_iff hG b2 hK6 (cx_dR P R c)
  have fi := cx_Fin hb hc hK hz
  have F := cx_fold (fun n i s => wL_law_774 post L xs J170 J423 (nI P) (nI R) (nI (R ^ P)) f_mode f_threshold x8 x9 (nI (K 0)) (nI (K 1)) (nI (K 2)) (nI (K 3)) (nI (cx_cs R K P)) (nI (cx_lv K)) x16 x17 x18 x19 x21 x23 (nI c) kc ks (nI P) f_maxEvents f_messages f_mode f_threshold f_witnessCut f_pathSteps a_counts a_values a_stamps a_senders a_sendSlots a_received a_lows a_highs a_path a_avoidable n s (nI i)) P (fun i => cx_i (c = cx_cs R K P ∨ ∃ p, p < i ∧ cx_dR P R c p < K p ∧ cx_R G K P (cx_up (cx_dR P R c) p)))
    (fun n => br_t (nI_le (Nat.le_refl P) (by omega)) ?_) (fun n i hi k => br_f (nI_ge hi (by omega)) ?_)
  · obtain ⟨n, hn⟩ := F
    have hn' : wL_law_774 post L xs J170 J423 (nI P) (nI R) (nI (R ^ P)) f_mode f_threshold x8 x9 (nI (K 0)) (nI (K 1)) (nI (K 2)) (nI (K 3)) (nI (cx_cs R K P)) (nI (cx_lv K)) x16 x17 x18 x19 x21 x23 (nI c) kc ks (nI P) f_maxEvents f_messages f_mode f_threshold f_witnessCut f_pathSteps a_counts a_values a_stamps a_senders a_sendSlots a_received a_lows a_highs a_path a_avoidable n (cx_i (c = cx_cs R K P ∨ ∃ p, p < 0 ∧ cx_dR P R c p < K p ∧ cx_R G K P (cx_up (cx_dR P R c) p))) 0 := hn
    have e : cx_i (c = cx_cs R K P ∨ ∃ p, p < 0 ∧ cx_dR P R c p < K p ∧ cx_R G K P (cx_up (cx_dR P R c) p)) = cx_i (c = cx_cs R K P) := cx_i_c ⟨fun z => z.elim id (fun w => by obtain ⟨p, hp, _⟩ := w; omega), Or.inl⟩
    rw [e] at hn'
    exact ⟨n, hn'⟩
  · have Rc : (c = cx_cs R K P ∨ ∃ p, p < P ∧ cx_dR P R c p < K p ∧ cx_R G K P (cx_up (cx_dR P R c) p)) ↔ cx_R G K P (cx_dR P R c) := by
      rw [Ri, fi]
      exact ⟨fun z => ⟨g, z⟩, fun z => z.2⟩
    by_cases r : cx_R G K P (cx_dR P R c)
    · have e : cx_i (c = cx_cs R K P ∨ ∃ p, p < P ∧ cx_dR P R c p < K p ∧ cx_R G K P (cx_up (cx_dR P R c) p)) = 1 := cx_i_t (Rc.mpr r)
      rw [e]
      refine br_f xw_10 (pk_le 64 c (fun le => nm_e (nm_e (k1 r _ _ (cx_set_hi x21 x23 le (by omega))))) (fun lt => nm_e (nm_e (k1 r _ _ (cx_set_lo x21 x23 lt)))))
    · have e : cx_i (c = cx_cs R K P ∨ ∃ p, p < P ∧ cx_dR P R c p < K p ∧ cx_R G K P (cx_up (cx_dR P R c) p)) = 0 := cx_i_f (fun z => r (Rc.mp z))
      rw [e]
      exact br_t rfl (nm_e (k0 r))
  · by_cases o : c = cx_cs R K P ∨ ∃ p, p < i ∧ cx_dR P R c p < K p ∧ cx_R G K P (cx_up (cx_dR P R c) p)
    · have e : cx_i (c = cx_cs R K P ∨ ∃ p, p < i ∧ cx_dR P R c p < K p ∧ cx_R G K P (cx_up (cx_dR P R c) p)) = 1 := cx_i_t o
      have e' : cx_i (c = cx_cs R K P ∨ ∃ p, p < i + 1 ∧ cx_dR P R c p < K p ∧ cx_R G K P (cx_up (cx_dR P R c) p)) = 1 := cx_i_t (o.elim Or.inl (fun w => by obtain ⟨p, hp, s⟩ := w; exact Or.inr ⟨p, by omega, s⟩))
      have k' : wL_law_774 post L xs J170 J423 (nI P) (nI R) (nI (R ^ P)) f_mode f_threshold x8 x9 (nI (K 0)) (nI (K 1)) (nI (K 2)) (nI (K 3)) (nI (cx_cs R K P)) (nI (cx_lv K)) x16 x17 x18 x19 x21 x23 (nI c) kc ks (nI P) f_maxEvents f_messages f_mode f_threshold f_witnessCut f_pathSteps a_counts a_values a_stamps a_senders a_sendSlots a_received a_lows a_highs a_path a_avoidable n (cx_i (c = cx_cs R K P ∨ ∃ p, p < i + 1 ∧ cx_dR P R c p < K p ∧ cx_R G K P (cx_up (cx_dR P R c) p))) (nI (i + 1)) := k
      rw [e'] at k'
      rw [e]
      exact br_f xw_10 (nm_r (nI_1 i) k')
    · have e : cx_i (c = cx_cs R K P ∨ ∃ p, p < i ∧ cx_dR P R c p < K p ∧ cx_R G K P (cx_up (cx_dR P R c) p)) = 0 := cx_i_f o
      have k' : wL_law_774 post L xs J170 J423 (nI P) (nI R) (nI (R ^ P)) f_mode f_threshold x8 x9 (nI (K 0)) (nI (K 1)) (nI (K 2)) (nI (K 3)) (nI (cx_cs R K P)) (nI (cx_lv K)) x16 x17 x18 x19 x21 x23 (nI c) kc ks (nI P) f_maxEvents f_messages f_mode f_threshold f_witnessCut f_pathSteps a_counts a_values a_stamps a_senders a_sendSlots a_received a_lows a_highs a_path a_avoidable n (cx_i (c = cx_cs R K P ∨ ∃ p, p < i + 1 ∧ cx_dR P R c p < K p ∧ cx_R G K P (cx_up (cx_dR P R c) p))) (nI (i + 1)) := k
      have kn : ¬ (cx_dR P R c i < K i ∧ cx_R G K P (cx_up (cx_dR P R c) i)) → wL_law_774 post L xs J170 J423 (nI P) (nI R) (nI (R ^ P)) f_mode f_threshold x8 x9 (nI (K 0)) (nI (K 1)) (nI (K 2)) (nI (K 3)) (nI (cx_cs R K P)) (nI (cx_lv K)) x16 x17 x18 x19 x21 x23 (nI c) kc ks (nI P) f_maxEvents f_messages f_mode f_threshold f_witnessCut f_pathSteps a_counts a_values a_stamps a_senders a_sendSlots a_received a_lows a_highs a_path a_avoidable n 0 (nI (i + 1)) := by
        intro z
        have e' : cx_i (c = cx_cs R K P ∨ ∃ p, p < i + 1 ∧ cx_dR P R c p < K p ∧ cx_R G K P (cx_up (cx_dR P R c) p)) = 0 := cx_i_f (fun w => by
          rcases w with w | ⟨p, hp, s⟩
          · exact o (Or.inl w)
          · by_cases ep : p = i
            · subst ep
              exact z s
            · exact o (Or.inr ⟨p, by omega, s⟩))
        rw [e'] at k'
        exact k'
      rw [e]
      have dl := (cx_dR_Dg (P := P) (R := R) (c := c) (by omega)).1 i hi
      have kl := hK i
      refine br_t rfl (la_compD hb hc (by omega) (la_pick (by omega) ?_))
      refine cx_le (by omega) (by omega) (fun le => nm_r (nI_1 i) (kn (fun s => by have := s.1; omega))) (fun nle => la_pw (by omega) ?_)
      obtain ⟨s1, s2⟩ := cx_dR_step hb hc hi (by omega)
      have w1 := (cx_pw_b (R := R) (p := i) b3 b4 (by omega)).1
      have hb' := hbit (c + R ^ i) (by omega) s2
      rw [s1] at hb'
      rw [nI_add]
      refine la_bit (by omega) (fun t => br_f xw_10 (nm_r (nI_1 i) ?_)) (fun f => br_t rfl (nm_r (nI_1 i) (kn (fun s => ?_))))
      · have e' : cx_i (c = cx_cs R K P ∨ ∃ p, p < i + 1 ∧ cx_dR P R c p < K p ∧ cx_R G K P (cx_up (cx_dR P R c) p)) = 1 := cx_i_t (Or.inr ⟨i, by omega, by omega, hb'.mp t⟩)
        rw [e'] at k'
        exact k'
      · have t := hb'.mpr s.2
        rw [f] at t
        exact Bool.noConfusion t
end
