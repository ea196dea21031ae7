/-! rows of the kit to paste: bits -/
theorem ts_nf {x : Bool} (h : ¬ x = false) : x = true := by cases x <;> first | rfl | exact absurd rfl h
theorem ts_nt {x : Bool} (h : ¬ x = true) : x = false := by cases x <;> first | rfl | exact absurd rfl h
theorem ts_bit {w : Int64} {s : UInt64} {j : Nat} (hj : j < 64) (hs : s.toNat = j) : ((w.toUInt64 >>> s).toInt64 &&& 1) = 0 ↔ w.toBitVec.getLsbD j = false := by
  have e : (w.toUInt64 >>> s).toInt64.toBitVec = w.toBitVec >>> j := by
    apply BitVec.eq_of_toNat_eq
    show (w.toUInt64 >>> s).toNat = _
    rw [UInt64.toNat_shiftRight, hs, Nat.mod_eq_of_lt hj, BitVec.toNat_ushiftRight]
    rfl
  rw [← Int64.toBitVec_inj, Int64.toBitVec_and, e]
  show w.toBitVec >>> j &&& 1#64 = 0#64 ↔ _
  constructor
  · intro h
    have t := congrArg (fun x => x.getLsbD 0) h
    simpa using t
  · intro h
    apply BitVec.eq_of_getLsbD_eq
    intro i hi
    cases i with
    | zero => simp [h]
    | succ i => simp
theorem wb_c : ∀ k, k < 64 → ((nI k).toInt64 &&& 63) = lN k := by decide +kernel
theorem wb_cu : ∀ k, k < 64 → ((nI k).toInt64.toUInt64 &&& Int64.toUInt64 63) = UInt64.ofNat k := by decide +kernel
theorem u_tn {n : Nat} (h : n < 2 ^ 64) : (UInt64.ofNat n).toNat = n := Nat.mod_eq_of_lt h
/-! the law's own helpers -/
def cx_cl (L : Nat) (xs : Nat → Int32) (k : Nat) : Int32 := if k < L then xs k else 0
def cx_vl (L : Nat) (xs : Nat → Int32) (p k : Nat) : Int32 := (cx_cl L xs (8 + p * 8 + k) &&& 15) - 8
def cx_lo (L : Nat) (xs : Nat → Int32) (p : Nat) : Int32 := (cx_cl L xs (40 + p) &&& 15) - 8
def cx_hi (L : Nat) (xs : Nat → Int32) (p : Nat) : Int32 := (cx_lo L xs p + (cx_cl L xs (44 + p) &&& 15)) - 2
theorem la_cell {post : Int32 → Prop} {L k : Nat} {xs : Nat → Int32} (hL : L ≤ 260) (hk : k < 2 ^ 31) (h : post (cx_cl L xs k)) : wpL_cell post L xs () (nI k) := by
  unfold cx_cl at h
  unfold wpL_cell
  refine pk_le L k (fun le => ?_) (fun lt => ⟨vp_in_nI lt (by omega), ?_⟩)
  · rw [if_neg (by omega)] at h
    exact h
  · rw [if_pos lt] at h
    rw [nI_clamp hk]
    exact h
theorem la_pw {post : Int32 → Prop} {r e : Nat} (he : e < 2 ^ 31) (h : post (nI (r ^ e))) : wpL_pw post () (nI r) (nI e) :=
  cx_fold (fun n i s => wL_pw_4 post (nI r) (nI e) n s (nI i)) e (fun i => nI (r ^ i)) (fun n => br_t (nI_le (Nat.le_refl e) he) h)
    (fun n i hi k => br_f (nI_ge hi he) (nm_r (pk_mul (r ^ i) r) (nm_r (nI_1 i) k)))
theorem cx_pw_b {R p : Nat} (h1 : 2 ≤ R) (hR : R ≤ 7) (hp : p ≤ 4) : 0 < R ^ p ∧ R ^ p ≤ 2401 :=
  ⟨Nat.pow_pos (by omega), Nat.le_trans (Nat.pow_le_pow_left hR p) (show 7 ^ p ≤ 7 ^ 4 from Nat.pow_le_pow_right (by omega) hp)⟩
theorem la_comp {post : Int32 → Prop} {c p R : Nat} (h1 : 2 ≤ R) (hR : R ≤ 7) (hp : p ≤ 4) (hc : c < 2401) (h : post (nI (c / R ^ p % R))) : wpL_comp post () (nI c) (nI p) (nI R) := by
  obtain ⟨b1, b2⟩ := cx_pw_b (p := p) h1 hR hp
  unfold wpL_comp
  refine la_pw (by omega) ?_
  generalize R ^ p = w at *
  have := Nat.div_le_self c w
  refine ⟨nI_ne0 b1 (by omega), nI_ne0 (by omega) (by omega), ?_⟩
  rw [pk_div (by omega) b1 (by omega), pk_rem (by omega) (by omega) (by omega)]
  exact h
theorem la_compD {post : Int32 → Prop} {P R c p : Nat} (hb : cx_PR P R) (hc : c < R ^ P) (hp : p < 4) (h : post (nI (cx_dR P R c p))) : wpL_comp post () (nI c) (nI p) (nI R) := by
  obtain ⟨b1, b2, b3, b4, b5, b6⟩ := cx_PR_b hb
  refine la_comp b3 b4 (by omega) (by omega) ?_
  unfold cx_dR at h
  by_cases e : p < P
  · rw [if_pos e] at h
    exact h
  · rw [if_neg e] at h
    have l : R ^ P ≤ R ^ p := Nat.pow_le_pow_right (by omega) (by omega)
    rw [Nat.div_eq_of_lt (Nat.lt_of_lt_of_le hc l), Nat.zero_mod]
    exact h
theorem la_pick {post : Int32 → Prop} {K : Nat → Nat} {p : Nat} (hp : p < 4) (h : post (nI (K p))) : wpL_pick post () (nI (K 0)) (nI (K 1)) (nI (K 2)) (nI (K 3)) (nI p) := by
  unfold wpL_pick
  rcases cx_p4 hp with rfl | rfl | rfl | rfl
  · exact br_t rfl h
  · exact br_f (by decide) (br_t rfl h)
  · exact br_f (by decide) (br_f (by decide) (br_t rfl h))
  · exact br_f (by decide) (br_f (by decide) (br_f (by decide) h))
theorem la_val {post : Int32 → Prop} {L p k : Nat} {xs : Nat → Int32} (hL : L ≤ 260) (hp : p < 4) (hk : k ≤ 8) (h : post (cx_vl L xs p k)) : wpL_val post L xs () (nI p) (nI k) := by
  unfold wpL_val
  have e1 : nI p * 8 = nI (p * 8) := pk_mul p 8
  have e2 : 8 + nI (p * 8) = nI (8 + p * 8) := nI_add 8 (p * 8)
  rw [e1, e2, nI_add]
  exact la_cell hL (by omega) h
theorem la_lo {post : Int32 → Prop} {L p : Nat} {xs : Nat → Int32} (hL : L ≤ 260) (hp : p < 4) (h : post (cx_lo L xs p)) : wpL_lo post L xs () (nI p) := by
  unfold wpL_lo
  have e : 40 + nI p = nI (40 + p) := nI_add 40 p
  rw [e]
  exact la_cell hL (by omega) h
theorem la_hi {post : Int32 → Prop} {L p : Nat} {xs : Nat → Int32} (hL : L ≤ 260) (hp : p < 4) (h : post (cx_hi L xs p)) : wpL_hi post L xs () (nI p) := by
  unfold wpL_hi
  refine la_lo hL hp ?_
  have e : 44 + nI p = nI (44 + p) := nI_add 44 p
  rw [e]
  exact la_cell hL (by omega) h
theorem cx_i_s {B : Nat → Prop} {i : Nat} (b : B i) : cx_i (∀ p, p < i → B p) = cx_i (∀ p, p < i + 1 → B p) := cx_i_c ⟨fun h => lt_s h b, fun h p hp => h p (by omega)⟩
theorem cx_i_n {B : Nat → Prop} {i : Nat} (b : ¬ B i) : (0 : Int32) = cx_i (∀ p, p < i + 1 → B p) := (cx_i_f (fun h => b (h i (by omega)))).symm
theorem la_sat {post : Int32 → Prop} {L P R c : Nat} {xs va lo hi : Nat → Int32} {md th : Int32} (hL : L ≤ 260) (hb : cx_PR P R) (hc : c < R ^ P) (hva : ∀ p, p < P → va (p * 7 + cx_dR P R c p) = cx_vl L xs p (cx_dR P R c p))
    (hlo : ∀ p, p < P → lo p = cx_lo L xs p) (hhi : ∀ p, p < P → hi p = cx_hi L xs p) (hT : cx_Sa P md th va lo hi (cx_dR P R c) → post 1) (hF : ¬ cx_Sa P md th va lo hi (cx_dR P R c) → post 0) :
    wpL_sat post L xs () md th (nI P) (nI R) (nI c) := by
  obtain ⟨b1, b2, b3, b4, b5, b6⟩ := cx_PR_b hb
  have F := cx_fold (σ := Int64 × Int32) (fun n i s => wL_sat_9 post L xs md th (nI P) (nI R) (nI c) n s.1 s.2 (nI i)) P
    (fun i => (cx_Sm va (cx_dR P R c) i, cx_i (∀ p, p < i → ¬ va (p * 7 + cx_dR P R c p) < lo p ∧ va (p * 7 + cx_dR P R c p) ≤ hi p)))
    (fun n => br_t (nI_le (Nat.le_refl P) (by omega)) (br_c (fun m0 => ?_) (fun m0 => br_c (fun m1 => ?_) (fun m1 => ?_))))
    (fun n i hi' k => br_f (nI_ge hi' (by omega)) (la_compD hb hc (by omega) ?_))
  · obtain ⟨n, hn⟩ := F
    have hn' : wL_sat_9 post L xs md th (nI P) (nI R) (nI c) n 0 (cx_i (∀ p, p < 0 → ¬ va (p * 7 + cx_dR P R c p) < lo p ∧ va (p * 7 + cx_dR P R c p) ≤ hi p)) 0 := hn
    rw [cx_i_t (fun p hp => absurd hp (Nat.not_lt_zero p))] at hn'
    exact ⟨n, hn'⟩
  · by_cases w : cx_Wb P va lo hi (cx_dR P R c)
    · have e : cx_i (∀ p, p < P → ¬ va (p * 7 + cx_dR P R c p) < lo p ∧ va (p * 7 + cx_dR P R c p) ≤ hi p) = 1 := cx_i_t w
      rw [e]
      show narrow .boolean (.int 1) = .int 1 ∧ post 1
      exact ⟨rfl, hT ⟨fun _ => w, fun n => absurd m0 n⟩⟩
    · have e : cx_i (∀ p, p < P → ¬ va (p * 7 + cx_dR P R c p) < lo p ∧ va (p * 7 + cx_dR P R c p) ≤ hi p) = 0 := cx_i_f w
      rw [e]
      show narrow .boolean (.int 0) = .int 0 ∧ post 0
      exact ⟨rfl, hF (fun s => w (s.1 m0))⟩
  · exact br_c (fun l => hF (fun s => (s.2 m0).1 m1 l)) (fun l => hT ⟨fun z => absurd z m0, fun _ => ⟨fun _ => l, fun n => absurd m1 n⟩⟩)
  · exact br_c (fun l => hF (fun s => (s.2 m0).2 m1 l)) (fun l => hT ⟨fun z => absurd z m0, fun _ => ⟨fun z => absurd z m1, fun _ => l⟩⟩)
  · have g := (cx_dR_Dg (P := P) (R := R) (c := c) (by omega)).1 i hi'
    refine la_val hL (by omega) (by omega) ?_
    rw [← hva i hi']
    refine nm_e (la_lo hL (by omega) ?_)
    rw [← hlo i hi']
    refine br_c (fun l => nm_r (nI_1 i) ?_) (fun nl => la_hi hL (by omega) ?_)
    · have e := cx_i_n (B := fun p => ¬ va (p * 7 + cx_dR P R c p) < lo p ∧ va (p * 7 + cx_dR P R c p) ≤ hi p) (i := i) (fun z => z.1 l)
      rw [e]
      exact k
    · rw [← hhi i hi']
      refine br_c (fun le => nm_r (nI_1 i) ?_) (fun nle => nm_r (nI_1 i) ?_)
      · have e := cx_i_s (B := fun p => ¬ va (p * 7 + cx_dR P R c p) < lo p ∧ va (p * 7 + cx_dR P R c p) ≤ hi p) (i := i) ⟨nl, le⟩
        show wL_sat_9 post L xs md th (nI P) (nI R) (nI c) n _ (cx_i (∀ p, p < i → ¬ va (p * 7 + cx_dR P R c p) < lo p ∧ va (p * 7 + cx_dR P R c p) ≤ hi p)) _
        rw [e]
        exact k
      · have e := cx_i_n (B := fun p => ¬ va (p * 7 + cx_dR P R c p) < lo p ∧ va (p * 7 + cx_dR P R c p) ≤ hi p) (i := i) (fun z => nle z.2)
        rw [e]
        exact k
/-! the law's 128 bits -/
def cx_bt (a b : Int64) (i : Nat) : Bool := if i < 64 then a.toBitVec.getLsbD i else b.toBitVec.getLsbD (i - 64)
theorem la_bit {post : Int32 → Prop} {a b : Int64} {i : Nat} (hi : i < 128) (h1 : cx_bt a b i = true → post 1) (h0 : cx_bt a b i = false → post 0) : wpL_bit post () a b (nI i) := by
  unfold cx_bt at h1 h0
  unfold wpL_bit
  refine pk_le 64 i (fun le => ?_) (fun lt => ?_)
  · rw [if_neg (by omega)] at h1 h0
    have e : nI i - 64 = nI (i - 64) := pk_sub (b := 64) le
    rw [e, wb_cu (i - 64) (by omega)]
    exact ek_if (ts_bit (j := i - 64) (by omega) (u_tn (by omega))) h0 (fun z => h1 (ts_nf z))
  · rw [if_pos lt] at h1 h0
    rw [wb_cu i lt]
    exact ek_if (ts_bit (j := i) lt (u_tn (by omega))) h0 (fun z => h1 (ts_nf z))
theorem cx_tp : ∀ k, k < 64 → ((1 : Int64) <<< ((nI k).toInt64 &&& 63)).toBitVec = BitVec.twoPow 64 k := by decide +kernel
theorem cx_or (w : Int64) {k : Nat} (hk : k < 64) (j : Nat) (hj : j < 64) : (w ||| ((1 : Int64) <<< ((nI k).toInt64 &&& 63))).toBitVec.getLsbD j = (w.toBitVec.getLsbD j || decide (j = k)) := by
  rw [Int64.toBitVec_or, BitVec.getLsbD_or, cx_tp k hk, BitVec.getLsbD_twoPow]
  by_cases e : j = k
  · subst e
    simp [hj]
  · have e' : ¬ k = j := fun z => e z.symm
    simp [e, e']
theorem cx_set_lo (a b : Int64) {k : Nat} (hk : k < 64) : ∀ j, j < 128 → cx_bt (a ||| ((1 : Int64) <<< ((nI k).toInt64 &&& 63))) b j = (cx_bt a b j || decide (j = k)) := by
  intro j hj
  unfold cx_bt
  by_cases l : j < 64
  · rw [if_pos l, if_pos l, cx_or a hk j l]
  · rw [if_neg l, if_neg l, decide_eq_false (show ¬ j = k by omega), Bool.or_false]
theorem cx_set_hi (a b : Int64) {k : Nat} (h64 : 64 ≤ k) (hk : k < 128) : ∀ j, j < 128 → cx_bt a (b ||| ((1 : Int64) <<< ((nI k - 64).toInt64 &&& 63))) j = (cx_bt a b j || decide (j = k)) := by
  intro j hj
  have e : nI k - 64 = nI (k - 64) := pk_sub (b := 64) h64
  rw [e]
  unfold cx_bt
  by_cases l : j < 64
  · rw [if_pos l, if_pos l, decide_eq_false (show ¬ j = k by omega), Bool.or_false]
  · rw [if_neg l, if_neg l, cx_or b (by omega) (j - 64) (by omega)]
    by_cases e : j = k
    · rw [decide_eq_true (show j - 64 = k - 64 by omega), decide_eq_true e]
    · rw [decide_eq_false (show ¬ j - 64 = k - 64 by omega), decide_eq_false e]
