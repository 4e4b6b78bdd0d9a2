/-! ===== the reference reads ===== -/
theorem upS_fn (T : Sg) (i : Nat × Nat) (k : Nat) (x : Int32) (c : Nat × Nat) (j : Nat) : upS T i k x c j = if c = i ∧ j = k then x else T c j := by
  by_cases h : c = i ∧ j = k
  · obtain ⟨rfl, rfl⟩ := h
    rw [upS_at, if_pos ⟨rfl, rfl⟩]
  · rw [if_neg h, upS_o h]
theorem upS_ov (T : Sg) (i : Nat × Nat) (k : Nat) (x y : Int32) : upS (upS T i k x) i k y = upS T i k y := by
  funext c j
  rw [upS_fn, upS_fn, upS_fn]
  by_cases h : c = i ∧ j = k
  · rw [if_pos h, if_pos h]
  · rw [if_neg h, if_neg h, if_neg h]
theorem upS_cm {T : Sg} {i i' : Nat × Nat} {k k' : Nat} {x y : Int32} (h : ¬ (i = i' ∧ k = k')) : upS (upS T i k x) i' k' y = upS (upS T i' k' y) i k x := by
  funext c j
  rw [upS_fn, upS_fn, upS_fn, upS_fn]
  by_cases h1 : c = i ∧ j = k
  · by_cases h2 : c = i' ∧ j = k'
    · exact absurd ⟨h1.1.symm.trans h2.1, h1.2.symm.trans h2.2⟩ h
    · rw [if_neg h2, if_pos h1, if_pos h1]
  · by_cases h2 : c = i' ∧ j = k'
    · rw [if_pos h2, if_neg h1, if_pos h2]
    · rw [if_neg h2, if_neg h1, if_neg h1, if_neg h2]
/-- the place read, and whether it is bad -/
def pt (T : Sg) (q : Nat) (b : Int32) : Sg := upS (upS T (0, 29) 27 (nI q)) (0, 29) 28 b
theorem pt_27 (T : Sg) (q : Nat) (b : Int32) : pt T q b (0, 29) 27 = nI q := by unfold pt; rw [upS_off (by decide), upS_at]
theorem pt_28 (T : Sg) (q : Nat) (b : Int32) : pt T q b (0, 29) 28 = b := by unfold pt; rw [upS_at]
theorem pt_s {T : Sg} {q : Nat} {b : Int32} {j : Nat} (h : j ≠ 27) (h2 : j ≠ 28) : pt T q b (0, 29) j = T (0, 29) j := by unfold pt; rw [upS_off h2, upS_off h]
theorem pt_m {T : Sg} {q : Nat} {b : Int32} {c : Nat × Nat} (h : c ≠ (0, 29)) : pt T q b c = T c := by unfold pt; rw [upS_ne h, upS_ne h]
theorem pt_27u (T : Sg) (q q' : Nat) (b : Int32) : upS (pt T q b) (0, 29) 27 (nI q') = pt T q' b := by unfold pt; rw [upS_cm (by decide), upS_ov]
theorem pt_28u (T : Sg) (q : Nat) (b b' : Int32) : upS (pt T q b) (0, 29) 28 b' = pt T q b' := by unfold pt; rw [upS_ov]
theorem pt_u {T : Sg} {q : Nat} {b : Int32} {i : Nat × Nat} {k : Nat} {x : Int32} (h : i ≠ (0, 29)) : upS (pt T q b) i k x = pt (upS T i k x) q b := by
  unfold pt
  rw [upS_cm (fun q => h q.1.symm), upS_cm (T := T) (fun q => h q.1.symm)]
theorem pt_29u {T : Sg} {q : Nat} {b : Int32} {k : Nat} {x : Int32} (h : k ≠ 27) (h2 : k ≠ 28) : upS (pt T q b) (0, 29) k x = pt (upS T (0, 29) k x) q b := by
  unfold pt
  rw [upS_cm (fun q => h2 q.2.symm), upS_cm (T := T) (fun q => h q.2.symm)]
def LR (T : Sg) (ℓ : Nat → Int32) (n : Nat) : Prop := T (0, 29) 26 = nI n ∧ n ≤ 96 ∧ (∀ j, j < n → T (0, 48) j = ℓ j) ∧ (∀ j, n ≤ j → ℓ j = -1)
theorem LR.w {T : Sg} {ℓ : Nat → Int32} {n : Nat} (H : LR T ℓ n) {m : Nat} (hm : m ∉ [29, 48]) (k : Nat) (x : Int32) : LR (upS T (0, m) k x) ℓ n := by
  simp only [List.mem_cons, List.not_mem_nil, or_false, not_or] at hm
  obtain ⟨h1, h2, h3, h4⟩ := H
  exact ⟨by rw [upS_ne (cne (by omega))]; exact h1, h2, fun j hj => by rw [upS_ne (cne (by omega))]; exact h3 j hj, h4⟩
theorem r_here {T : Sg} {ℓ : Nat → Int32} {n : Nat} (H : LR T ℓ n) {q : Nat} (b : Int32) (hq : q < 2 ^ 20) : f_X7_here (pt T q b) = some (ℓ q, pt T q b) := by
  obtain ⟨h1, h2, h3, h4⟩ := H
  have e26 : pt T q b (0, 29) 26 = nI n := by rw [pt_s (by decide) (by decide)]; exact h1
  unfold f_X7_here
  rw [e26, pt_27]
  by_cases c : q < n
  · have hb : inb (nI q) 96 := vp_in_nI (by omega) (by decide)
    rw [if_neg (nI_ge c (by omega)), chk_t hb, nI_clamp (by omega), pt_m (by decide), h3 q c]
  · rw [if_pos (nI_le (by omega) (by omega)), h4 q (by omega)]
theorem in_57 (a : Int32) (τ : Sg) : f_X7_in a.toInt64 (48 : Int64) (57 : Int64) τ = some (if 48 ≤ a ∧ a ≤ 57 then 1 else 0, τ) := e_in32 a 48 57 τ
theorem in_55 (a : Int32) (τ : Sg) : f_X7_in a.toInt64 (48 : Int64) (55 : Int64) τ = some (if 48 ≤ a ∧ a ≤ 55 then 1 else 0, τ) := e_in32 a 48 55 τ
theorem rd_bad (T : Sg) (q : Nat) : f_X7_readDigit (pt T q 1) = some (0, pt T q 1) := by
  unfold f_X7_readDigit f_X7_readDigit_25 f_X7_readDigit_30
  rw [pt_28, if_neg h10, chk_t (by decide), bv_eq, pt_28u, pt_28, if_neg h10]
theorem rd_no {T : Sg} {ℓ : Nat → Int32} {n : Nat} (H : LR T ℓ n) {q : Nat} (hq : q < 2 ^ 20) (h : ¬ 0 ≤ dg ℓ q) : f_X7_readDigit (pt T q 0) = some (0, pt T q 1) := by
  have hc : ¬ (48 ≤ ℓ q ∧ ℓ q ≤ 57) := by
    rcases dg_cs ℓ q with ⟨_, _, h3⟩ | ⟨h1, _⟩
    · exact h3
    · exact absurd h1 h
  unfold f_X7_readDigit f_X7_readDigit_25 f_X7_readDigit_30
  rw [pt_28, if_pos rfl, r_here H 0 hq, bd_some, in_57, bd_some, if01, if_neg hc, chk_t (by decide), bv_eq, pt_28u, pt_28, if_neg h10]
theorem rd_ok {T : Sg} {ℓ : Nat → Int32} {n : Nat} (H : LR T ℓ n) {q : Nat} (hq : q < 2 ^ 20) (h : 0 ≤ dg ℓ q) : f_X7_readDigit (pt T q 0) = some (dg ℓ q, pt T (q + 1) 0) := by
  rcases dg_cs ℓ q with ⟨h1, _⟩ | ⟨_, _, h3, h4, h5, _⟩
  · exact absurd h h1
  · have hqn : q < n := by
      rcases Nat.lt_or_ge q n with c | c
      · exact c
      · rw [H.2.2.2 q c] at h4; exact absurd h4 (by decide)
    have hb : inb (nI q) 96 := vp_in_nI (by have := H.2.1; omega) (by decide)
    unfold f_X7_readDigit f_X7_readDigit_30
    rw [pt_28, if_pos rfl, r_here H 0 hq, bd_some, in_57, bd_some, if01, if_pos ⟨h4, h5⟩, chk_t (by decide), bv_eq, pt_28u, pt_28, if_pos rfl, pt_27, nI_1, pt_27u, bv_eq, chk_t (by rw [pt_27, nI_pred]; exact hb), pt_27, nI_pred, nI_clamp (by omega), pt_m (by decide), H.2.2.1 q hqn, h3]
theorem rs_bad (T : Sg) {ℓ : Nat → Int32} {n : Nat} (H : LR T ℓ n) {q : Nat} (hq : q < 2 ^ 20) : ∃ x, f_X7_readSign (pt T q 1) = some (x, pt T q 1) := by
  refine ⟨if ℓ q = 43 then 1 else if ℓ q = 45 then -1 else 0, ?_⟩
  unfold f_X7_readSign
  rw [r_here H 1 hq, bd_some, pt_28, if_neg h10, bv_eq, pt_28u, pt_28, if_neg h10, pt_27, show nI q + 0 = nI q from nI_add q 0, pt_27u, bv_eq]
theorem rs_no {T : Sg} {ℓ : Nat → Int32} {n : Nat} (H : LR T ℓ n) {q : Nat} (hq : q < 2 ^ 20) (h : sg ℓ q = -2) : ∃ x, f_X7_readSign (pt T q 0) = some (x, pt T q 1) := by
  rcases sg_cs ℓ q with ⟨_, h1, h2, h3⟩ | ⟨h1, _⟩
  · refine ⟨0, ?_⟩
    unfold f_X7_readSign
    rw [r_here H 0 hq, bd_some, pt_28, if_pos rfl]
    simp only [h1, h2, h3, if_false]
    rw [bv_eq, pt_28u, pt_28, if_neg h10, pt_27, show nI q + 0 = nI q from nI_add q 0, pt_27u, bv_eq]
  · exact absurd h h1
theorem rs_ok {T : Sg} {ℓ : Nat → Int32} {n : Nat} (H : LR T ℓ n) {q : Nat} (hq : q < 2 ^ 20) (h : ¬ sg ℓ q = -2) : f_X7_readSign (pt T q 0) = some (sg ℓ q, pt T (q + 1) 0) := by
  rcases sg_cs ℓ q with ⟨h1, _⟩ | ⟨_, _, h3, _⟩
  · exact absurd h1 h
  · unfold f_X7_readSign sg
    have e0 : (if ℓ q = 43 then (0 : Int32) else if ℓ q = 45 then 0 else if ℓ q = 48 then 0 else 1) = 0 := by
      rcases h3 with c | c | c <;> rw [c] <;> decide
    have e1 : (if ℓ q = 43 then (1 : Int32) else if ℓ q = 45 then -1 else 0) = (if ℓ q = 43 then 1 else if ℓ q = 45 then -1 else if ℓ q = 48 then 0 else -2) := by
      rcases h3 with c | c | c <;> rw [c] <;> decide
    rw [r_here H 0 hq, bd_some, pt_28, if_pos rfl, e0, bv_eq, pt_28u, pt_28, if_pos rfl, pt_27, nI_1, pt_27u, bv_eq, e1]
theorem rh_bad (T : Sg) (q : Nat) : f_X7_readHours (pt T q 1) = some (0, pt T q 1) := by
  unfold f_X7_readHours
  rw [show fuel = 1999 + 1 from rfl, f_X7_readHours_4, if_neg (by decide), pt_28, if_neg h10]
theorem rh_ok {T : Sg} {ℓ : Nat → Int32} {n : Nat} (H : LR T ℓ n) {q : Nat} (hq : q < 2 ^ 19) : f_X7_readHours (pt T q 0) = some (hbt ℓ 8 q 0, pt T (q + hrs ℓ 8 q) 0) := by
  have key : ∀ d i m q acc, i + d = 8 → q < 2 ^ 19 + i → d < m → f_X7_readHours_4 m acc (nI i) (pt T q 0) = some (hbt ℓ d q acc, pt T (q + hrs ℓ d q) 0) := by
    intro d
    induction d with
    | zero =>
      intro i m q acc hi _ hm
      obtain ⟨m, rfl⟩ : ∃ k, m = k + 1 := ⟨m - 1, by omega⟩
      have : i = 8 := by omega
      subst this
      rw [f_X7_readHours_4, if_pos (by decide)]; rfl
    | succ d ih =>
      intro i m q acc hi hq hm
      obtain ⟨m, rfl⟩ : ∃ k, m = k + 1 := ⟨m - 1, by omega⟩
      rw [f_X7_readHours_4, if_neg (show ¬ (8 : Int32) ≤ nI i from nI_ge (show i < 8 by omega) (by decide)), pt_28, if_pos rfl, r_here H 0 (by omega), bd_some, in_55, bd_some, if01, hbt, hrs]
      by_cases c : 48 ≤ ℓ q ∧ ℓ q ≤ 55
      · have nxt := ih (i + 1) m (q + 1) (acc ||| ((1 : Int32) <<< (dg ℓ q &&& 31))) (by omega) (by omega) (by omega)
        rw [if_pos c, if_pos c, if_pos c, rd_ok H (by omega) ((dg_hr ℓ q).mpr c).1, bd_some, bv_eq, nI_1, nxt, show q + 1 + hrs ℓ d (q + 1) = q + (hrs ℓ d (q + 1) + 1) by omega]
      · rw [if_neg c, if_neg c, if_neg c]; rfl
  exact key 8 0 fuel q 0 rfl (by omega) (by decide)
theorem rw_bad (T : Sg) (q : Nat) : f_X7_readTwo (pt T q 1) = some (0, pt T q 1) := by
  unfold f_X7_readTwo
  rw [rd_bad, bd_some, rd_bad, bd_some]
  rfl
theorem rw_1 {T : Sg} {ℓ : Nat → Int32} {n : Nat} (H : LR T ℓ n) {q : Nat} (hq : q < 2 ^ 19) (h : ¬ 0 ≤ dg ℓ q) : f_X7_readTwo (pt T q 0) = some (0, pt T q 1) := by
  unfold f_X7_readTwo
  rw [rd_no H (by omega) h, bd_some, rd_bad, bd_some]
  rfl
theorem rw_2 {T : Sg} {ℓ : Nat → Int32} {n : Nat} (H : LR T ℓ n) {q : Nat} (hq : q < 2 ^ 19) (h : 0 ≤ dg ℓ q) (h2 : ¬ 0 ≤ dg ℓ (q + 1)) : f_X7_readTwo (pt T q 0) = some (10 * dg ℓ q + 0, pt T (q + 1) 1) := by
  unfold f_X7_readTwo
  rw [rd_ok H (by omega) h, bd_some, rd_no H (by omega) h2, bd_some]
theorem rw_ok {T : Sg} {ℓ : Nat → Int32} {n : Nat} (H : LR T ℓ n) {q : Nat} (hq : q < 2 ^ 19) (h : 0 ≤ dg ℓ q) (h2 : 0 ≤ dg ℓ (q + 1)) : f_X7_readTwo (pt T q 0) = some (10 * dg ℓ q + dg ℓ (q + 1), pt T (q + 2) 0) := by
  unfold f_X7_readTwo
  rw [rd_ok H (by omega) h, bd_some, rd_ok H (by omega) h2, bd_some]
/-! a tenant -/
theorem t61 (T : Sg) (q : Nat) (b0 x : Int32) : f_X7_readTenant_61 x 0 (pt T q b0) = some (x, pt T (q + 1) 0) := by
  unfold f_X7_readTenant_61
  rw [chk_t (by decide), bv_eq, pt_28u, pt_28, if_pos rfl, pt_27, nI_1, pt_27u, bv_eq]
theorem t56 (T : Sg) (q : Nat) (b0 x : Int32) : f_X7_readTenant_56 x (pt T q b0) = some (x, pt T q 1) := by
  unfold f_X7_readTenant_56 f_X7_readTenant_61
  rw [chk_t (by decide), bv_eq, pt_28u, pt_28, if_neg h10, pt_27, show nI q + 0 = nI q from nI_add q 0, pt_27u, bv_eq]
theorem t39 {T : Sg} {ℓ : Nat → Int32} {n : Nat} (H : LR T ℓ n) {q : Nat} (hq : q < 2 ^ 20) (x : Int32) : f_X7_readTenant_39 x (pt T q 0) = some (x, if ℓ q = 44 then pt T (q + 1) 0 else pt T q 1) := by
  unfold f_X7_readTenant_39
  rw [pt_28, if_pos rfl, r_here H 0 hq, bd_some]
  by_cases c : ℓ q = 44
  · rw [if_pos c, if_pos c, t61]
  · rw [if_neg c, if_neg c, t56]
theorem t39b (T : Sg) (q : Nat) (x : Int32) : f_X7_readTenant_39 x (pt T q 1) = some (x, pt T q 1) := by
  unfold f_X7_readTenant_39
  rw [pt_28, if_neg h10, t56]
theorem rt_bad (T : Sg) (q : Nat) : f_X7_readTenant (pt T q 1) = some (0, pt T q 1) := by
  unfold f_X7_readTenant
  rw [rd_bad, bd_some, pt_28, if_neg h10, t39b]
theorem rt_no {T : Sg} {ℓ : Nat → Int32} {n : Nat} (H : LR T ℓ n) {q : Nat} (hq : q < 2 ^ 19) (h : ¬ 0 ≤ dg ℓ q) : f_X7_readTenant (pt T q 0) = some (0, pt T q 1) := by
  unfold f_X7_readTenant
  rw [rd_no H (by omega) h, bd_some, pt_28, if_neg h10, t39b]
theorem rt_1 {T : Sg} {ℓ : Nat → Int32} {n : Nat} (H : LR T ℓ n) {q : Nat} (hq : q < 2 ^ 19) (h : 0 ≤ dg ℓ q) (h2 : ¬ 0 ≤ dg ℓ (q + 1)) : f_X7_readTenant (pt T q 0) = some (dg ℓ q, if ℓ (q + 1) = 44 then pt T (q + 2) 0 else pt T (q + 1) 1) := by
  have hc : ¬ (48 ≤ ℓ (q + 1) ∧ ℓ (q + 1) ≤ 57) := by
    rcases dg_cs ℓ (q + 1) with ⟨_, _, h3⟩ | ⟨h1, _⟩
    · exact h3
    · exact absurd h1 h2
  unfold f_X7_readTenant
  rw [rd_ok H (by omega) h, bd_some, pt_28, if_pos rfl, r_here H 0 (by omega), bd_some, in_57, bd_some, if01, if_neg hc, t39 H (by omega)]
theorem rt_2 {T : Sg} {ℓ : Nat → Int32} {n : Nat} (H : LR T ℓ n) {q : Nat} (hq : q < 2 ^ 19) (h : 0 ≤ dg ℓ q) (h2 : 0 ≤ dg ℓ (q + 1)) : f_X7_readTenant (pt T q 0) = some (10 * dg ℓ q + dg ℓ (q + 1), if ℓ (q + 2) = 44 then pt T (q + 3) 0 else pt T (q + 2) 1) := by
  have hc : 48 ≤ ℓ (q + 1) ∧ ℓ (q + 1) ≤ 57 := by
    rcases dg_cs ℓ (q + 1) with ⟨h1, _⟩ | ⟨_, _, _, h4, h5, _⟩
    · exact absurd h2 h1
    · exact ⟨h4, h5⟩
  unfold f_X7_readTenant
  rw [rd_ok H (by omega) h, bd_some, pt_28, if_pos rfl, r_here H 0 (by omega), bd_some, in_57, bd_some, if01, if_pos hc, rd_ok H (by omega) h2, bd_some, bv_eq, t39 H (by omega)]
/-! a statement's end -/
theorem e349 (T : Sg) (q : Nat) (b0 : Int32) {k : Nat} (h29 : T (0, 29) 29 = nI k) : f_X7_readStatement_349 0 (pt T q b0) = some ((), pt (upS T (0, 29) 29 (nI (k + 1))) (q + 1) 0) := by
  unfold f_X7_readStatement_349
  rw [chk_t (by decide), bv_eq, pt_28u, pt_28, if_pos rfl, pt_27, nI_1, pt_27u, bv_eq, pt_s (by decide) (by decide), h29, nI_1, pt_29u (by decide) (by decide), bv_eq]
theorem e344 (T : Sg) (q : Nat) (b0 : Int32) {k : Nat} (h29 : T (0, 29) 29 = nI k) : f_X7_readStatement_344 (pt T q b0) = some ((), pt (upS T (0, 29) 29 (nI (k + 1))) q 1) := by
  unfold f_X7_readStatement_344 f_X7_readStatement_349
  rw [chk_t (by decide), bv_eq, pt_28u, pt_28, if_neg h10, pt_27, show nI q + 0 = nI q from nI_add q 0, pt_27u, bv_eq, pt_s (by decide) (by decide), h29, nI_1, pt_29u (by decide) (by decide), bv_eq]
theorem e327b (T : Sg) (q : Nat) {k : Nat} (h29 : T (0, 29) 29 = nI k) : f_X7_readStatement_327 (pt T q 1) = some ((), pt (upS T (0, 29) 29 (nI (k + 1))) q 1) := by
  unfold f_X7_readStatement_327
  rw [pt_28, if_neg h10, e344 T q 1 h29]
theorem e327 {T : Sg} {ℓ : Nat → Int32} {n : Nat} (H : LR T ℓ n) {q : Nat} (hq : q < 2 ^ 20) {k : Nat} (h29 : T (0, 29) 29 = nI k) : f_X7_readStatement_327 (pt T q 0) = some ((), pt (upS T (0, 29) 29 (nI (k + 1))) (pC ℓ 59 pE q).2 (if (pC ℓ 59 pE q).1 then 0 else 1)) := by
  unfold f_X7_readStatement_327 pC
  rw [pt_28, if_pos rfl, r_here H 0 hq, bd_some]
  by_cases c : ℓ q = 59
  · rw [if_pos c, if_pos c, e349 T q 0 h29]; rfl
  · rw [if_neg c, if_neg c, e344 T q 0 h29]; rfl
