/-! the class's public calls at arguments that the law gives -/
theorem xo_clamp {post : Int32 → Prop} {j m : Nat} (h1 : 1 ≤ j) (hm : j ≤ m) (h6 : m ≤ 6) (h : post (nI j)) : wpX_clamp post () (nI j) (nI m) :=
  br_t (nI_le (a := 1) h1 (by omega)) (br_t (nI_le hm (by omega)) h)
def cx_it (v : Int32) : Nat → Nat → Int32
  | 0 => fun _ => 0
  | n + 1 => upd (cx_it v n) n v
theorem xo_init {post : St2 → Prop} {P E mc ms : Nat} {u : St1} (p1 : 1 ≤ P) (p2 : P ≤ 4) (e1 : 1 ≤ E) (e2 : E ≤ 6) (hmc : 10 ≤ mc) (hms : 4320 ≤ ms)
    (h : post (nI P, nI E, 0, 0, 0, -1, -1, (fun _ => 0), (fun _ => 0), (fun _ => 0), (fun _ => 0), (fun _ => 0), (fun _ => 0), cx_it (-2147483648) 4, cx_it 2147483647 4, (fun _ => 0), (fun _ => 0))) : wpX_init post mc ms u (nI P) (nI E) := by
  unfold wpX_init
  refine ⟨by omega, by omega, by omega, by omega, by omega, by omega, by omega, by omega, by omega, by omega, by omega, by omega, by omega, by omega, by omega, by omega, by omega, by omega, by omega, by omega, ?_⟩
  refine xo_clamp (m := 4) p1 p2 (by omega) (xo_clamp (m := 6) e1 e2 (by omega) ?_)
  refine cx_fold (σ := (Nat → Int32) × (Nat → Int32)) (fun n i s => wX_init_128 post mc ms 10 4320 (nI P) (nI E) 0 0 0 (-1) (-1) n (nI i) (fun _ => 0) (fun _ => 0) (fun _ => 0) (fun _ => 0) (fun _ => 0) (fun _ => 0) s.1 s.2 (fun _ => 0) (fun _ => 0)) 4
    (fun i => (cx_it (-2147483648) i, cx_it 2147483647 i)) (fun n => br_t (nI_le (a := 4) (b := 4) (Nat.le_refl _) (by omega)) h) (fun n i hi k => br_f (nI_ge (b := 4) hi (by omega)) ⟨vp_in_nI hi (by omega), ?_⟩)
  rw [nI_clamp (n := i) (by omega)]
  exact nm_e ⟨vp_in_nI hi (by omega), nm_e (nm_r (nI_1 i) k)⟩
section
variable {P E M j : Nat} {K : Nat → Nat} {v : Int32} {f_procs f_maxEvents f_messages f_mode f_threshold f_witnessCut f_pathSteps : Int32} {a_counts a_values a_stamps a_senders a_sendSlots a_received a_lows a_highs a_path a_avoidable : Nat → Int32}
theorem xo_proc {post : Int32 → Prop} (hj : j < P) (hP : P ≤ 4) (h : post 1) : wpX_isProcess post (nI P, f_maxEvents, f_messages, f_mode, f_threshold, f_witnessCut, f_pathSteps, a_counts, a_values, a_stamps, a_senders, a_sendSlots, a_received, a_lows, a_highs, a_path, a_avoidable) (nI j) :=
  br_f (nI_pos (by omega)) (br_f (nI_ge hj (by omega)) h)
theorem xo_count {post : Int32 → Prop} (hj : j < P) (hP : P ≤ 4) (hcn : ∀ i, a_counts i = nI (K i)) (h : post (nI (K j))) : wpX_eventCount post (nI P, f_maxEvents, f_messages, f_mode, f_threshold, f_witnessCut, f_pathSteps, a_counts, a_values, a_stamps, a_senders, a_sendSlots, a_received, a_lows, a_highs, a_path, a_avoidable) (nI j) := by
  unfold wpX_eventCount
  refine xo_proc hj hP (br_f xw_10 ⟨vp_in_nI (by omega) (by omega), ?_⟩)
  rw [nI_clamp (n := j) (by omega), hcn]
  exact h
theorem xo_stamp {post : Int32 → Prop} {k q : Nat} (hj : j < P) (hP : P ≤ 4) (hq : q < P) (hcn : ∀ i, a_counts i = nI (K i)) (hk : k < K j) (hK : K j ≤ 6) (h : post (a_stamps ((j * 7 + (k + 1)) * 4 + q))) : wpX_stamp post (nI P, f_maxEvents, f_messages, f_mode, f_threshold, f_witnessCut, f_pathSteps, a_counts, a_values, a_stamps, a_senders, a_sendSlots, a_received, a_lows, a_highs, a_path, a_avoidable) (nI j) (nI (k + 1)) (nI q) := by
  unfold wpX_stamp
  refine xo_proc hj hP (br_f xw_10 (xo_proc hq hP (br_f xw_10 (br_f (nI_nlt (b := 1) (by omega) (by omega)) ⟨vp_in_nI (by omega) (by omega), ?_⟩))))
  rw [nI_clamp (n := j) (by omega), hcn]
  refine br_t (nI_le (by omega) (by omega)) (xw_slot ?_)
  rw [cx_st, nI_clamp (n := (j * 7 + (k + 1)) * 4 + q) (by omega)]
  exact ⟨vp_in_nI (by omega) (by omega), h⟩
theorem xo_witness {post : Int32 → Prop} {c : Nat} (hc : c < 4096) (hj : j < P) (hP : P ≤ 4) (h : post (nI (cx_d8 c j))) : wpX_witness post (nI P, f_maxEvents, f_messages, f_mode, f_threshold, nI c, f_pathSteps, a_counts, a_values, a_stamps, a_senders, a_sendSlots, a_received, a_lows, a_highs, a_path, a_avoidable) (nI j) := by
  unfold wpX_witness
  exact br_f (cx_m1 (by omega)) (xo_proc hj hP (br_f xw_10 (xw_index hc (by omega) h)))
theorem xo_witness0 {post : Int32 → Prop} {x : Int32} (h : post (-1)) : wpX_witness post (f_procs, f_maxEvents, f_messages, f_mode, f_threshold, -1, f_pathSteps, a_counts, a_values, a_stamps, a_senders, a_sendSlots, a_received, a_lows, a_highs, a_path, a_avoidable) x := br_t rfl h
theorem xo_pathStep {post : Int32 → Prop} {T i : Nat} (hT : T ≤ 24) (hi : i < T) (h : post (a_path i)) : wpX_pathStep post (f_procs, f_maxEvents, f_messages, f_mode, f_threshold, f_witnessCut, nI T, a_counts, a_values, a_stamps, a_senders, a_sendSlots, a_received, a_lows, a_highs, a_path, a_avoidable) (nI i) := by
  unfold wpX_pathStep
  refine br_f (nI_pos (by omega)) (br_f (nI_ge hi (by omega)) ⟨vp_in_nI (by omega) (by omega), ?_⟩)
  rw [nI_clamp (n := i) (by omega)]
  exact h
theorem xo_pathStepE {post : Int32 → Prop} {T : Nat} (hT : T ≤ 24) (h : post (-1)) : wpX_pathStep post (f_procs, f_maxEvents, f_messages, f_mode, f_threshold, f_witnessCut, nI T, a_counts, a_values, a_stamps, a_senders, a_sendSlots, a_received, a_lows, a_highs, a_path, a_avoidable) (nI T) :=
  br_f (nI_pos (by omega)) (br_t (nI_le (Nat.le_refl T) (by omega)) h)
theorem xo_setInitial {post : Int32 → St2 → Prop} (hj : j < P) (hP : P ≤ 4) (hcn : ∀ i, a_counts i = nI (K i)) (hk : K j = 0) (h : post 1 (nI P, f_maxEvents, f_messages, f_mode, f_threshold, -1, -1, a_counts, upd a_values (j * 7 + 0) v, a_stamps, a_senders, a_sendSlots, a_received, a_lows, a_highs, a_path, a_avoidable)) :
    wpX_setInitial post (nI P, f_maxEvents, f_messages, f_mode, f_threshold, f_witnessCut, f_pathSteps, a_counts, a_values, a_stamps, a_senders, a_sendSlots, a_received, a_lows, a_highs, a_path, a_avoidable) (nI j) v := by
  unfold wpX_setInitial
  refine xo_proc hj hP (br_f xw_10 ⟨vp_in_nI (by omega) (by omega), ?_⟩)
  rw [nI_clamp (n := j) (by omega), hcn]
  refine br_t (nI_lt (b := 1) (by omega) (by omega)) (xw_slot (k := 0) ⟨vp_in_nI (by omega) (by omega), ?_⟩)
  rw [nI_clamp (n := j * 7 + 0) (by omega)]
  exact nm_e h
theorem xo_setBounds {post : Int32 → St2 → Prop} {x y : Int32} (hj : j < P) (hP : P ≤ 4) (h : post 1 (nI P, f_maxEvents, f_messages, f_mode, f_threshold, -1, -1, a_counts, a_values, a_stamps, a_senders, a_sendSlots, a_received, upd a_lows j x, upd a_highs j y, a_path, a_avoidable)) :
    wpX_setBounds post (nI P, f_maxEvents, f_messages, f_mode, f_threshold, f_witnessCut, f_pathSteps, a_counts, a_values, a_stamps, a_senders, a_sendSlots, a_received, a_lows, a_highs, a_path, a_avoidable) (nI j) x y := by
  unfold wpX_setBounds
  refine xo_proc hj hP (br_f xw_10 ⟨vp_in_nI (by omega) (by omega), ?_⟩)
  rw [nI_clamp (n := j) (by omega)]
  exact nm_e ⟨vp_in_nI (by omega) (by omega), nm_e h⟩
theorem xo_setPredicate {post : Int32 → St2 → Prop} {m t : Int32} (hm : m = 0 ∨ m = 1 ∨ m = 2) (h : post 1 (f_procs, f_maxEvents, f_messages, m, t, -1, -1, a_counts, a_values, a_stamps, a_senders, a_sendSlots, a_received, a_lows, a_highs, a_path, a_avoidable)) : wpX_setPredicate post (f_procs, f_maxEvents, f_messages, f_mode, f_threshold, f_witnessCut, f_pathSteps, a_counts, a_values, a_stamps, a_senders, a_sendSlots, a_received, a_lows, a_highs, a_path, a_avoidable) m t := by
  unfold wpX_setPredicate
  exact br_c (fun _ => h) (fun a => br_c (fun _ => h) (fun b => br_c (fun _ => h) (fun c => (hm.elim (fun z => absurd z a) (fun z => z.elim (fun z => absurd z b) (fun z => absurd z c))))))
theorem xo_local {post : Int32 → St2 → Prop} (hj : j < P) (hP : P ≤ 4) (hE : E ≤ 6) (hcn : ∀ i, a_counts i = nI (K i)) (hKE : ∀ p, K p ≤ E) (h0 : ∀ r, post r (nI P, nI E, f_messages, f_mode, f_threshold, f_witnessCut, f_pathSteps, a_counts, a_values, a_stamps, a_senders, a_sendSlots, a_received, a_lows, a_highs, a_path, a_avoidable))
    (h1 : K j < E → ∀ (r : Int32) (st' : Nat → Int32), (∀ s q, s ≠ j * 7 + (K j + 1) → q < 4 → st' (s * 4 + q) = a_stamps (s * 4 + q)) →
      post r (nI P, nI E, f_messages, f_mode, f_threshold, -1, -1, upd a_counts j (nI (K j + 1)), upd a_values (j * 7 + (K j + 1)) v, st', a_senders, a_sendSlots, a_received, a_lows, a_highs, a_path, a_avoidable)) :
    wpX_local post (nI P, nI E, f_messages, f_mode, f_threshold, f_witnessCut, f_pathSteps, a_counts, a_values, a_stamps, a_senders, a_sendSlots, a_received, a_lows, a_highs, a_path, a_avoidable) (nI j) v := by
  unfold wpX_local
  have kj := hKE j
  refine xw_room hP hE hcn hKE (fun i hi e hl => br_f xw_10 ?_) (fun o => br_t rfl (h0 _)) (fun i hi e hE => br_t rfl (h0 _))
  rw [nI_eq (by omega) (by omega)] at e
  subst e
  refine xw_event (cs := 0) hj hP (by omega) hcn (by omega) (by omega) (fun st' a b c => ?_)
  exact ⟨vp_in_nI (by omega) (by omega), h1 hl _ st' a⟩
theorem xo_send {post : Int32 → St2 → Prop} (hj : j < P) (hP : P ≤ 4) (hE : E ≤ 6) (hM : M ≤ 16) (hcn : ∀ i, a_counts i = nI (K i)) (hKE : ∀ p, K p ≤ E) (h0 : ∀ r, post r (nI P, nI E, nI M, f_mode, f_threshold, f_witnessCut, f_pathSteps, a_counts, a_values, a_stamps, a_senders, a_sendSlots, a_received, a_lows, a_highs, a_path, a_avoidable))
    (h1 : K j < E → M < 16 → ∀ (r : Int32) (st' : Nat → Int32), (∀ s q, s ≠ j * 7 + (K j + 1) → q < 4 → st' (s * 4 + q) = a_stamps (s * 4 + q)) →
      post r (nI P, nI E, nI (M + 1), f_mode, f_threshold, -1, -1, upd a_counts j (nI (K j + 1)), upd a_values (j * 7 + (K j + 1)) v, st', upd a_senders M (nI j), upd a_sendSlots M (nI (j * 7 + (K j + 1))), a_received, a_lows, a_highs, a_path, a_avoidable)) :
    wpX_send post (nI P, nI E, nI M, f_mode, f_threshold, f_witnessCut, f_pathSteps, a_counts, a_values, a_stamps, a_senders, a_sendSlots, a_received, a_lows, a_highs, a_path, a_avoidable) (nI j) v := by
  unfold wpX_send
  have kj := hKE j
  refine xw_room hP hE hcn hKE (fun i hi e hl => br_f xw_10 ?_) (fun o => br_t rfl (h0 _)) (fun i hi e hE => br_t rfl (h0 _))
  rw [nI_eq (by omega) (by omega)] at e
  subst e
  refine pk_lt M 16 (fun lt => ?_) (fun ge => h0 _)
  refine xw_event (cs := 0) hj hP (by omega) hcn (by omega) (by omega) (fun st' a b c => ?_)
  refine ⟨vp_in_nI (by omega) (by omega), ?_⟩
  rw [nI_clamp (n := M) (by omega)]
  refine nm_e ⟨vp_in_nI (by omega) (by omega), ?_⟩
  rw [nI_clamp (n := j) (by omega), pk_us (f := a_counts)]
  refine xw_slot ⟨vp_in_nI (by omega) (by omega), ?_⟩
  exact nm_e (nm_r (nI_1 M) (h1 hl lt _ st' a))
theorem xo_receive {post : Int32 → St2 → Prop} {x : Int32} (hj : j < P) (hP : P ≤ 4) (hE : E ≤ 6) (hM : M ≤ 16) (hcn : ∀ i, a_counts i = nI (K i)) (hKE : ∀ p, K p ≤ E) (hms : ∀ m, m < M → ∃ p k : Nat, p < P ∧ k < K p ∧ a_sendSlots m = nI (p * 7 + (k + 1)))
    (h0 : ∀ r, post r (nI P, nI E, nI M, f_mode, f_threshold, f_witnessCut, f_pathSteps, a_counts, a_values, a_stamps, a_senders, a_sendSlots, a_received, a_lows, a_highs, a_path, a_avoidable))
    (h1 : K j < E → ∀ (m : Nat) (r : Int32) (st' : Nat → Int32), (∀ s q, s ≠ j * 7 + (K j + 1) → q < 4 → st' (s * 4 + q) = a_stamps (s * 4 + q)) →
      post r (nI P, nI E, nI M, f_mode, f_threshold, -1, -1, upd a_counts j (nI (K j + 1)), upd a_values (j * 7 + (K j + 1)) v, st', a_senders, a_sendSlots, upd a_received m 1, a_lows, a_highs, a_path, a_avoidable)) :
    wpX_receive post (nI P, nI E, nI M, f_mode, f_threshold, f_witnessCut, f_pathSteps, a_counts, a_values, a_stamps, a_senders, a_sendSlots, a_received, a_lows, a_highs, a_path, a_avoidable) (nI j) x v := by
  unfold wpX_receive
  have kj := hKE j
  refine xw_room hP hE hcn hKE (fun i hi e hl => br_f xw_10 ?_) (fun o => br_t rfl (h0 _)) (fun i hi e hE => br_t rfl (h0 _))
  rw [nI_eq (by omega) (by omega)] at e
  subst e
  refine xw_pending hM (fun m hm e0 er => br_f xw_10 ?_) (fun o => br_t rfl (h0 _)) (fun m hm e0 er => br_t rfl (h0 _))
  subst e0
  obtain ⟨p', k', hp', hk', ess⟩ := hms m hm
  have k6 := hKE p'
  have hne7 : p' * 7 + (k' + 1) ≠ j * 7 + (K j + 1) := by
    by_cases e : p' = j
    · subst e
      omega
    · omega
  refine ⟨vp_in_nI (by omega) (by omega), ?_⟩
  rw [nI_clamp (n := m) (by omega)]
  refine br_c (fun _ => h0 _) (fun _ => ⟨vp_in_nI (by omega) (by omega), ?_⟩)
  rw [ess]
  refine nm_e ⟨vp_in_nI (by omega) (by omega), xw_event (cs := p' * 7 + (k' + 1)) hj hP (by omega) hcn (by omega) hne7 (fun st' a b c => ?_)⟩
  exact ⟨vp_in_nI (by omega) (by omega), h1 hl m _ st' a⟩
end
