theorem op_wipe {σ : Hp} (h : Inv σ) : OK2 f_X8_wipe f_X9_wipe σ := by
  obtain ⟨n, beds, lim, tw, t, s, d, nod, ill, i1, i2, ⟨len, k1, k2, k3, k4⟩, i4, i5, i6, i7⟩ := h
  refine ⟨nI len, _, _, by simp only [f_X8_wipe, Lt]; rw [k2], by simp only [f_X9_wipe, Lt]; rw [wr_ne (by omega), wr_ne (by omega), k3], ?_⟩
  refine ⟨n, beds, lim, tw, t, s, d, nod, ill, (keep_c i1 (fun a i q => by unfold Rc at q; simp (disch := omega) only [wr_ne])), (keep_p i2 (fun a i q => by unfold Rp at q; simp (disch := omega) only [wr_ne])), ⟨0, by decide, ?_, ?_, fun j hj => absurd hj (Nat.not_lt_zero j)⟩, (keep_a i4 (fun a i q => by unfold Ra at q; simp (disch := omega) only [wr_ne])), (keep_s i5 (fun a i q => by unfold Rs at q; simp (disch := omega) only [wr_ne])), (keep_b i6 (fun a i q => by unfold Rb at q; simp (disch := omega) only [wr_ne])), (keep_q i7 (fun a i q => by unfold Rq at q; simp (disch := omega) only [wr_ne]))⟩
  · rw [wr_ne (by omega), wr_ne (by omega), wr_eq]; rfl
  · rw [wr_eq]; rfl
theorem op_burn {σ : Hp} (h : Inv σ) : OK2 f_X8_burn f_X9_burn σ := by
  obtain ⟨n, beds, lim, tw, t, s, d, nod, ill, i1, i2, i3, i4, i5, ⟨u, k1, k2, k3, k4⟩, i7⟩ := h
  refine ⟨nI u, _, _, by simp only [f_X8_burn, Lt]; rw [k2], by simp only [f_X9_burn, Lt]; rw [wr_ne (by omega), wr_ne (by omega), k3], ?_⟩
  refine ⟨n, beds, lim, tw, t, s, d, nod, ill, (keep_c i1 (fun a i q => by unfold Rc at q; simp (disch := omega) only [wr_ne])), (keep_p i2 (fun a i q => by unfold Rp at q; simp (disch := omega) only [wr_ne])), (keep_t i3 (fun a i q => by unfold Rt at q; simp (disch := omega) only [wr_ne])), (keep_a i4 (fun a i q => by unfold Ra at q; simp (disch := omega) only [wr_ne])), (keep_s i5 (fun a i q => by unfold Rs at q; simp (disch := omega) only [wr_ne])), ⟨0, by decide, ?_, ?_, fun j hj => absurd hj (Nat.not_lt_zero j)⟩, (keep_q i7 (fun a i q => by unfold Rq at q; simp (disch := omega) only [wr_ne]))⟩
  · rw [wr_ne (by omega), wr_ne (by omega), wr_eq]; rfl
  · rw [wr_eq]; rfl
theorem swt_eq {α : Type} {x : Int32} {xs ys : List (Option (α × Hp))} {dx dy : Option (α × Hp)} {P : Option (α × Hp) → Option (α × Hp) → Prop} (hl : xs.length = ys.length) (hd : P dx dy) (hk : ∀ (k : Nat) (a b : Option (α × Hp)), xs[k]? = some a → ys[k]? = some b → P a b) : P (swt x xs dx) (swt x ys dy) := by
  unfold swt
  by_cases h : x < 0
  · rw [if_pos h, if_pos h]; exact hd
  · rw [if_neg h, if_neg h]
    cases h1 : xs[x.toNatClampNeg]? with
    | none =>
      have : ys[x.toNatClampNeg]? = none := by
        rw [List.getElem?_eq_none_iff] at h1 ⊢; omega
      rw [this]; exact hd
    | some a =>
      have hlt := (List.getElem?_eq_some_iff.mp h1).1
      have h2 : ys[x.toNatClampNeg]? = some ys[x.toNatClampNeg] := List.getElem?_eq_getElem (by omega)
      rw [h2]
      exact hk _ _ _ h1 h2
/-- two answers over heaps that are as they should be -/
def Same (σ σ' : Hp) (a b : Option (Int32 × Hp)) : Prop := ∃ r, a = some (r, σ) ∧ b = some (r, σ')
theorem bit_b2i {n : Nat} (hn : n ≤ 5) {g : Nat} (hg : g < n) (f : Nat → Bool) : (nI (mk n f) >>> (nI g &&& 31)) &&& 1 = b2i (f g) := by
  rw [bit_shr hn hg]; cases f g <;> rfl
theorem b2i_back {σ : Hp} (b : Bool) : (if b2i b = 0 then some ((0 : Int32), σ) else some ((1 : Int32), σ)) = some (b2i b, σ) := by
  cases b <;> rfl
theorem op_guard {σ : Hp} (h : Inv σ) (a1 a2 : Int32) : OK2 (fun σ => f_X8_guard σ a1 a2) (fun σ => f_X9_guard σ a1 a2) σ := by
  have h0 := h
  obtain ⟨n, beds, lim, tw, t, s, d, nod, ill, i1, -⟩ := h
  obtain ⟨⟨hn, htw, c1, c2⟩, -, -, -, -, ⟨-, -, m4, -, -, m7, m8⟩, ⟨r1, r2, r3⟩, -, mr, bd1, -, -⟩ := i1
  have hI : Inv (wr σ 134 0 0) := Inv_scr h0 (thrown_scr σ)
  have m4' : (wr σ 134 0 0) 134 4 = nI n := by rw [wr_ne (by omega)]; exact m4
  rcases guard_cases a1 hn with ho | ⟨j, hj, rfl⟩
  · refine ⟨-1, σ, wr σ 134 0 0, ?_, ?_, hI⟩
    · simp only [f_X8_guard]; rw [bd_ok (has2_out c1 ho), if_pos rfl]
    · simp only [f_X9_guard, Lt]; rw [bd_ok (noG_out hn m4' ho), if_neg (by decide)]
  · have key : Same σ (wr σ 134 0 0) (f_X8_guard σ (nI j) a2) (f_X9_guard σ (nI j) a2) := by
      simp only [f_X8_guard, f_X9_guard, Lt]
      rw [bd_ok (has2_in hn c1 hj), bd_ok (noG_in hn m4' hj), if_neg (by decide), if_pos rfl]
      refine swt_eq rfl ⟨-2, rfl, rfl⟩ (fun k a b ha hb => ?_)
      have hj5 : j < 5 := by omega
      obtain ⟨q1, q2, q3⟩ := r1 j hj
      obtain ⟨w1, w2, w3, w4⟩ := mr j hj
      simp only [ck_ok _ hj5 (show 5 < 2 ^ 31 by decide), ix_nI (show j < 2 ^ 31 by omega), r2, r3, bit_b2i hn hj] at ha hb
      match k, ha, hb with
      | 0, ha, hb => cases ha; cases hb; exact ⟨_, rfl, by rw [wr_ne (by omega), w1, ← q1]⟩
      | 1, ha, hb => cases ha; cases hb; exact ⟨_, rfl, by rw [wr_ne (by omega), w2, ← q2]⟩
      | 2, ha, hb => cases ha; cases hb; exact ⟨_, rfl, by rw [wr_ne (by omega), w3, ← q3]⟩
      | 3, ha, hb => cases ha; cases hb; exact ⟨_, rfl, by rw [wr_ne (by omega), w4, b2i_back]⟩
      | 4, ha, hb => cases ha; cases hb; exact ⟨_, rfl, by rw [wr_ne (by omega), m8 j hj, b2i_back]⟩
      | 5, ha, hb => cases ha; cases hb; exact ⟨_, rfl, by rw [wr_ne (by omega), m7 j hj5, ← c2 j hj5]⟩
      | 6, ha, hb => cases ha; cases hb; exact ⟨_, rfl, by rw [wr_ne (by omega), ← bd1 j hj]⟩
      | k + 7, ha, hb => simp at ha
    obtain ⟨r, e1, e2⟩ := key
    exact ⟨r, _, _, e1, e2, hI⟩
theorem in_19 (σ : Hp) (x : Int32) : f_X9_in σ x.toInt64 (1 : Int64) (9 : Int64) = some (b2i (decide ((1 : Int32) ≤ x ∧ x ≤ 9)), σ) := in_ok σ x 1 9
theorem in_03 (σ : Hp) (x : Int32) : f_X9_in σ x.toInt64 (0 : Int64) (3 : Int64) = some (b2i (decide ((0 : Int32) ≤ x ∧ x ≤ 3)), σ) := in_ok σ x 0 3
theorem in_099 (σ : Hp) (x : Int32) : f_X9_in σ x.toInt64 (0 : Int64) (99 : Int64) = some (b2i (decide ((0 : Int32) ≤ x ∧ x ≤ 99)), σ) := in_ok σ x 0 99
/-- a number in a range, or not -/
theorem rng_cases (x : Int32) (lo hi : Nat) (hl : lo < 2 ^ 30) (hh : hi < 2 ^ 30) : (x < nI lo ∨ nI hi < x) ∨ ∃ k, lo ≤ k ∧ k ≤ hi ∧ x = nI k := by
  by_cases h1 : x < nI lo
  · exact Or.inl (Or.inl h1)
  · by_cases h2 : nI hi < x
    · exact Or.inl (Or.inr h2)
    · refine Or.inr ?_
      rw [Int32.lt_iff_toInt_lt, nI_toInt (by omega)] at h1
      rw [Int32.lt_iff_toInt_lt, nI_toInt (by omega)] at h2
      rcases pk_ix x (n := hi + 1) (by omega) with h | h | ⟨j, hj, rfl⟩
      · rw [Int32.lt_iff_toInt_lt] at h
        have : (0 : Int32).toInt = 0 := rfl
        omega
      · rw [Int32.le_iff_toInt_le, nI_toInt (by omega)] at h
        omega
      · rw [nI_toInt (by omega)] at h1
        exact ⟨j, by omega, by omega, rfl⟩
theorem rng_no {x : Int32} {lo hi : Nat} (hl : lo < 2 ^ 30) (hh : hi < 2 ^ 30) (h : x < nI lo ∨ nI hi < x) : ¬ (nI lo ≤ x ∧ x ≤ nI hi) := by
  rintro ⟨q1, q2⟩
  rw [Int32.le_iff_toInt_le, nI_toInt (by omega)] at q1 q2
  rcases h with h | h <;> (rw [Int32.lt_iff_toInt_lt, nI_toInt (by omega)] at h; omega)
theorem op_hand {σ : Hp} (h : Inv σ) (a1 a2 a3 : Int32) : OK2 (fun σ => f_X8_hand σ a1 a2 a3) (fun σ => f_X9_hand σ a1 a2 a3) σ := by
  have h0 := h
  obtain ⟨n, beds, lim, tw, t, s, d, nod, ill, i1, i2, i3, i4, i5, i6, i7⟩ := h
  obtain ⟨⟨hn, htw, c1, c2⟩, b1, b2, b3, b4, ⟨-, -, m4, m5, m6, m7, m8⟩, ⟨r1, r2, r3⟩, bn, mr, bd1, bd2, bd3⟩ := i1
  have hI : Inv (wr σ 134 0 0) := Inv_scr h0 (thrown_scr σ)
  have m4' : (wr σ 134 0 0) 134 4 = nI n := by rw [wr_ne (by omega)]; exact m4
  rcases guard_cases a1 hn with ho | ⟨x, hx, rfl⟩
  · refine ⟨-1, σ, wr σ 134 0 0, ?_, ?_, hI⟩
    · simp only [f_X8_hand]; rw [bd_ok (has2_out c1 ho), if_pos rfl]
    · simp only [f_X9_hand, Lt]; rw [bd_ok (noG_out hn m4' ho), if_neg (by decide)]
  · rcases guard_cases a2 hn with ho | ⟨y, hy, rfl⟩
    · refine ⟨-1, σ, wr σ 134 0 0, ?_, ?_, hI⟩
      · simp only [f_X8_hand]; rw [bd_ok (has2_in hn c1 hx), if_neg (by decide), bd_ok (has2_out c1 ho), if_pos rfl]
      · simp only [f_X9_hand, Lt]; rw [bd_ok (noG_in hn m4' hx), if_pos rfl, bd_ok (noG_out hn m4' ho), if_neg (by decide)]
    · by_cases hxy : x = y
      · subst hxy
        refine ⟨-2, σ, wr σ 134 0 0, ?_, ?_, hI⟩
        · simp only [f_X8_hand]; rw [bd_ok (has2_in hn c1 hx), if_neg (by decide), bd_ok (has2_in hn c1 hx), if_neg (by decide), if_pos trivial]
        · simp only [f_X9_hand, Lt]; rw [bd_ok (noG_in hn m4' hx), if_pos rfl, bd_ok (noG_in hn m4' hx), if_pos rfl, if_pos trivial]
      · have hne : ¬ nI x = nI y := fun q => hxy ((nI_eq (by omega) (by omega)).mp q)
        have hx5 : x < 5 := by omega
        have hy5 : y < 5 := by omega
        rcases rng_cases a3 1 9 (by decide) (by decide) with ho | ⟨k, k1, k2, rfl⟩
        · refine ⟨-2, σ, wr σ 134 0 0, ?_, ?_, hI⟩
          · simp only [f_X8_hand]
            rw [bd_ok (has2_in hn c1 hx), if_neg (by decide), bd_ok (has2_in hn c1 hy), if_neg (by decide), if_neg hne]
            by_cases q : a3 < 1
            · rw [if_pos q]
            · rw [if_neg q, if_neg]
              intro w
              exact rng_no (lo := 1) (hi := 9) (by decide) (by decide) ho ⟨by
                rw [Int32.lt_iff_toInt_lt] at q; rw [Int32.le_iff_toInt_le]; exact Int.not_lt.mp q, w⟩
          · simp only [f_X9_hand, Lt]
            rw [bd_ok (noG_in hn m4' hx), if_pos rfl, bd_ok (noG_in hn m4' hy), if_pos rfl, if_neg hne, bd_ok (in_19 _ _), show decide ((1 : Int32) ≤ a3 ∧ a3 ≤ 9) = false from decide_eq_false (rng_no (lo := 1) (hi := 9) (by decide) (by decide) ho), b2i_f, if_pos rfl]
        · have hk0 : ¬ nI k < (1 : Int32) := nI_nlt (b := 1) k1 (by omega)
          have hk9 : nI k ≤ (9 : Int32) := nI_le (b := 9) k2 (by decide)
          have hin : decide ((1 : Int32) ≤ nI k ∧ nI k ≤ 9) = true := decide_eq_true ⟨nI_le (a := 1) k1 (by omega), hk9⟩
          obtain ⟨qx1, qx2, qx3⟩ := r1 x hx
          obtain ⟨qy1, qy2, qy3⟩ := r1 y hy
          obtain ⟨wx1, wx2, wx3, wx4⟩ := mr x hx
          obtain ⟨wy1, wy2, wy3, wy4⟩ := mr y hy
          obtain ⟨bx1, bx2, bx3⟩ := bn x hx
          obtain ⟨by1, by2, by3⟩ := bn y hy
          have e15x : σ 15 x = nI (s x) := qx2
          have e15y : σ 15 y = nI (s y) := qy2
          have e37x : (wr σ 134 0 0) 137 x = nI (s x) := by rw [wr_ne (by omega)]; exact wx2
          have e37y : (wr σ 134 0 0) 137 y = nI (s y) := by rw [wr_ne (by omega)]; exact wy2
          by_cases hsx : k ≤ s x
          · by_cases hsy : s y + k ≤ 9
            · have f1 : f_X8_hand σ (nI x) (nI y) (nI k) = some (nI (s y + k), wr (wr σ 15 x (nI (s x - k))) 15 y (nI (s y + k))) := by
                simp only [f_X8_hand, Lt]
                rw [bd_ok (has2_in hn c1 hx), if_neg (by decide), bd_ok (has2_in hn c1 hy), if_neg (by decide), if_neg hne, if_neg hk0, if_pos hk9]
                simp only [ck_ok _ hx5 (show 5 < 2 ^ 31 by decide), ck_ok _ hy5 (show 5 < 2 ^ 31 by decide), ix_nI (show x < 2 ^ 31 by omega), ix_nI (show y < 2 ^ 31 by omega)]
                rw [e15x, if_pos (nI_le hsx (by omega)), e15y, nI_add, if_pos (show nI (s y + k) ≤ (9 : Int32) from nI_le (b := 9) hsy (by decide)), pk_sub hsx, wr_eq, wr_ne (by omega), e15y, nI_add]
              have f2 : ∀ σ1 : Hp, σ1 134 4 = nI n → σ1 137 x = nI (s x) → σ1 137 y = nI (s y) → f_X9_hand σ1 (nI x) (nI y) (nI k) = some (nI (s y + k), wr (wr (wr σ1 134 0 0) 137 x (nI (s x - k))) 137 y (nI (s y + k))) := by
                intro σ1 g1 g2 g3
                have g1' : (wr σ1 134 0 0) 134 4 = nI n := by rw [wr_ne (by omega)]; exact g1
                have g2' : (wr σ1 134 0 0) 137 x = nI (s x) := by rw [wr_ne (by omega)]; exact g2
                have g3' : (wr σ1 134 0 0) 137 y = nI (s y) := by rw [wr_ne (by omega)]; exact g3
                simp only [f_X9_hand, Lt]
                rw [bd_ok (noG_in hn g1' hx), if_pos rfl, bd_ok (noG_in hn g1' hy), if_pos rfl, if_neg hne, bd_ok (in_19 _ _), hin, b2i_t, if_neg (by decide)]
                simp only [ck_ok _ hx5 (show 5 < 2 ^ 31 by decide), ck_ok _ hy5 (show 5 < 2 ^ 31 by decide), ix_nI (show x < 2 ^ 31 by omega), ix_nI (show y < 2 ^ 31 by omega)]
                rw [g2', if_pos (nI_le hsx (by omega)), g3', nI_add, if_pos (show nI (s y + k) ≤ (9 : Int32) from nI_le (b := 9) hsy (by decide)), pk_sub hsx, wr_eq, wr_ne (by omega), g3', nI_add]
              refine ⟨_, _, _, f1, f2 _ (by rw [wr_ne (by omega), wr_ne (by omega)]; exact m4) (by rw [wr_ne (by omega), wr_ne (by omega)]; exact wx2) (by rw [wr_ne (by omega), wr_ne (by omega)]; exact wy2), ?_⟩
              refine ⟨n, beds, lim, tw, t, va_up (va_up s x (s x - k)) y (s y + k), d, nod, ill, ⟨⟨hn, htw, ?_, ?_⟩, ?_, ?_, b3, b4, ⟨hn, htw, ?_, ?_, ?_, ?_, ?_⟩, ⟨fun g hg => ⟨?_, ?_, ?_⟩, ?_, ?_⟩, ?_, fun g hg => ⟨?_, ?_, ?_, ?_⟩, fun g hg => ?_, ?_, ?_⟩, (keep_p i2 (fun a i q => by unfold Rp at q; simp (disch := omega) only [wr_ne])), (keep_t i3 (fun a i q => by unfold Rt at q; simp (disch := omega) only [wr_ne])), (keep_a i4 (fun a i q => by unfold Ra at q; simp (disch := omega) only [wr_ne])), (keep_s i5 (fun a i q => by unfold Rs at q; simp (disch := omega) only [wr_ne])), (keep_b i6 (fun a i q => by unfold Rb at q; simp (disch := omega) only [wr_ne])), (keep_q i7 (fun a i q => by unfold Rq at q; simp (disch := omega) only [wr_ne]))⟩
              · simp (disch := omega) only [wr_ne]; exact c1
              · intro g hg; simp (disch := omega) only [wr_ne]; exact c2 g hg
              · simp (disch := omega) only [wr_ne]; exact b1
              · simp (disch := omega) only [wr_ne]; exact b2
              · simp (disch := omega) only [wr_ne]; exact m4
              · simp (disch := omega) only [wr_ne]; exact m5
              · simp (disch := omega) only [wr_ne]; exact m6
              · intro g hg; simp (disch := omega) only [wr_ne]; exact m7 g hg
              · intro g hg; simp (disch := omega) only [wr_ne]; exact m8 g hg
              · simp (disch := omega) only [wr_ne]; exact (r1 g hg).1
              · have := (r1 g hg).2.1
                simp only [wr_at, va_up]
                by_cases e1 : g = y
                · simp [e1]
                · by_cases e2 : g = x
                  · simp [e2, hxy]
                  · simp [e1, e2]; exact this
              · simp (disch := omega) only [wr_ne]; exact (r1 g hg).2.2
              · simp (disch := omega) only [wr_ne]; exact r2
              · simp (disch := omega) only [wr_ne]; exact r3
              · intro g hg
                obtain ⟨v1, v2, v3⟩ := bn g hg
                refine ⟨v1, ?_, v3⟩
                simp only [va_up]
                split
                · omega
                · split <;> omega
              · simp (disch := omega) only [wr_ne]; exact (mr g hg).1
              · have := (mr g hg).2.1
                simp only [wr_at, va_up]
                by_cases e1 : g = y
                · simp [e1]
                · by_cases e2 : g = x
                  · simp [e2, hxy]
                  · simp [e1, e2]; exact this
              · simp (disch := omega) only [wr_ne]; exact (mr g hg).2.2.1
              · simp (disch := omega) only [wr_ne]; exact (mr g hg).2.2.2
              · simp (disch := omega) only [wr_ne]; exact bd1 g hg
              · simp (disch := omega) only [wr_ne]; exact bd2
              · simp (disch := omega) only [wr_ne]; exact bd3
            · refine ⟨-4, σ, wr σ 134 0 0, ?_, ?_, hI⟩
              · simp only [f_X8_hand]
                rw [bd_ok (has2_in hn c1 hx), if_neg (by decide), bd_ok (has2_in hn c1 hy), if_neg (by decide), if_neg hne, if_neg hk0, if_pos hk9]
                simp only [ck_ok _ hx5 (show 5 < 2 ^ 31 by decide), ck_ok _ hy5 (show 5 < 2 ^ 31 by decide), ix_nI (show x < 2 ^ 31 by omega), ix_nI (show y < 2 ^ 31 by omega)]
                rw [e15x, if_pos (nI_le hsx (by omega)), e15y, nI_add, if_neg (show ¬ nI (s y + k) ≤ (9 : Int32) from nI_ge (a := 9) (by omega) (by omega))]
              · simp only [f_X9_hand, Lt]
                rw [bd_ok (noG_in hn m4' hx), if_pos rfl, bd_ok (noG_in hn m4' hy), if_pos rfl, if_neg hne, bd_ok (in_19 _ _), hin, b2i_t, if_neg (by decide)]
                simp only [ck_ok _ hx5 (show 5 < 2 ^ 31 by decide), ck_ok _ hy5 (show 5 < 2 ^ 31 by decide), ix_nI (show x < 2 ^ 31 by omega), ix_nI (show y < 2 ^ 31 by omega)]
                rw [e37x, if_pos (nI_le hsx (by omega)), e37y, nI_add, if_neg (show ¬ nI (s y + k) ≤ (9 : Int32) from nI_ge (a := 9) (by omega) (by omega))]
          · refine ⟨-3, σ, wr σ 134 0 0, ?_, ?_, hI⟩
            · simp only [f_X8_hand]
              rw [bd_ok (has2_in hn c1 hx), if_neg (by decide), bd_ok (has2_in hn c1 hy), if_neg (by decide), if_neg hne, if_neg hk0, if_pos hk9]
              simp only [ck_ok _ hx5 (show 5 < 2 ^ 31 by decide), ix_nI (show x < 2 ^ 31 by omega)]
              rw [e15x, if_neg (nI_ge (by omega) (by omega))]
            · simp only [f_X9_hand, Lt]
              rw [bd_ok (noG_in hn m4' hx), if_pos rfl, bd_ok (noG_in hn m4' hy), if_pos rfl, if_neg hne, bd_ok (in_19 _ _), hin, b2i_t, if_neg (by decide)]
              simp only [ck_ok _ hx5 (show 5 < 2 ^ 31 by decide), ix_nI (show x < 2 ^ 31 by omega)]
              rw [e37x, if_neg (nI_ge (by omega) (by omega))]
theorem op_pay {σ : Hp} (h : Inv σ) (a1 a3 : Int32) : OK2 (fun σ => f_X8_pay σ a1 a3) (fun σ => f_X9_pay σ a1 a3) σ := by
  have h0 := h
  obtain ⟨n, beds, lim, tw, t, s, d, nod, ill, i1, i2, i3, i4, i5, i6, i7⟩ := h
  obtain ⟨⟨hn, htw, c1, c2⟩, b1, b2, b3, b4, ⟨-, -, m4, m5, m6, m7, m8⟩, ⟨r1, r2, r3⟩, bn, mr, bd1, bd2, bd3⟩ := i1
  have hI : Inv (wr σ 134 0 0) := Inv_scr h0 (thrown_scr σ)
  have m4' : (wr σ 134 0 0) 134 4 = nI n := by rw [wr_ne (by omega)]; exact m4
  rcases guard_cases a1 hn with ho | ⟨x, hx, rfl⟩
  · refine ⟨-1, σ, wr σ 134 0 0, ?_, ?_, hI⟩
    · simp only [f_X8_pay]; rw [bd_ok (has2_out c1 ho), if_pos rfl]
    · simp only [f_X9_pay, Lt]; rw [bd_ok (noG_out hn m4' ho), if_neg (by decide)]
  · have hx5 : x < 5 := by omega
    rcases rng_cases a3 1 9 (by decide) (by decide) with ho | ⟨k, k1, k2, rfl⟩
    · refine ⟨-2, σ, wr σ 134 0 0, ?_, ?_, hI⟩
      · simp only [f_X8_pay]
        rw [bd_ok (has2_in hn c1 hx), if_neg (by decide)]
        by_cases q : a3 < 1
        · rw [if_pos q]
        · rw [if_neg q, if_neg]
          intro w
          exact rng_no (lo := 1) (hi := 9) (by decide) (by decide) ho ⟨by
            rw [Int32.lt_iff_toInt_lt] at q; rw [Int32.le_iff_toInt_le]; exact Int.not_lt.mp q, w⟩
      · simp only [f_X9_pay, Lt]
        rw [bd_ok (noG_in hn m4' hx), if_pos rfl, bd_ok (in_19 _ _), show decide ((1 : Int32) ≤ a3 ∧ a3 ≤ 9) = false from decide_eq_false (rng_no (lo := 1) (hi := 9) (by decide) (by decide) ho), b2i_f, if_pos rfl]
    · have hk0 : ¬ nI k < (1 : Int32) := nI_nlt (b := 1) k1 (by omega)
      have hk9 : nI k ≤ (9 : Int32) := nI_le (b := 9) k2 (by decide)
      have hin : decide ((1 : Int32) ≤ nI k ∧ nI k ≤ 9) = true := decide_eq_true ⟨nI_le (a := 1) k1 (by omega), hk9⟩
      obtain ⟨qx1, qx2, qx3⟩ := r1 x hx
      obtain ⟨wx1, wx2, wx3, wx4⟩ := mr x hx
      obtain ⟨bx1, bx2, bx3⟩ := bn x hx
      have e15x : σ 15 x = nI (s x) := qx2
      have e16x : σ 16 x = nI (d x) := qx3
      have e37x : (wr σ 134 0 0) 137 x = nI (s x) := by rw [wr_ne (by omega)]; exact wx2
      have e38x : (wr σ 134 0 0) 138 x = nI (d x) := by rw [wr_ne (by omega)]; exact wx3
      by_cases hsx : k ≤ s x
      · by_cases hdx : k ≤ d x
        · have f1 : f_X8_pay σ (nI x) (nI k) = some (nI (d x - k), wr (wr σ 15 x (nI (s x - k))) 16 x (nI (d x - k))) := by
            simp only [f_X8_pay, Lt]
            rw [bd_ok (has2_in hn c1 hx), if_neg (by decide), if_neg hk0, if_pos hk9]
            simp only [ck_ok _ hx5 (show 5 < 2 ^ 31 by decide), ix_nI (show x < 2 ^ 31 by omega)]
            rw [e15x, if_neg (nI_nlt hsx (by omega)), e16x, if_pos (nI_le hdx (by omega)), pk_sub hsx, wr_eq, wr_ne (by omega), e16x, pk_sub hdx]
          have f2 : ∀ σ1 : Hp, σ1 134 4 = nI n → σ1 137 x = nI (s x) → σ1 138 x = nI (d x) → f_X9_pay σ1 (nI x) (nI k) = some (nI (d x - k), wr (wr (wr σ1 134 0 0) 137 x (nI (s x - k))) 138 x (nI (d x - k))) := by
            intro σ1 g1 g2 g3
            have g1' : (wr σ1 134 0 0) 134 4 = nI n := by rw [wr_ne (by omega)]; exact g1
            have g2' : (wr σ1 134 0 0) 137 x = nI (s x) := by rw [wr_ne (by omega)]; exact g2
            have g3' : (wr σ1 134 0 0) 138 x = nI (d x) := by rw [wr_ne (by omega)]; exact g3
            simp only [f_X9_pay, Lt]
            rw [bd_ok (noG_in hn g1' hx), if_pos rfl, bd_ok (in_19 _ _), hin, b2i_t, if_neg (by decide)]
            simp only [ck_ok _ hx5 (show 5 < 2 ^ 31 by decide), ix_nI (show x < 2 ^ 31 by omega)]
            rw [g2', if_neg (nI_nlt hsx (by omega)), g3', if_pos (nI_le hdx (by omega)), pk_sub hsx, wr_eq, wr_ne (by omega), g3', pk_sub hdx]
          refine ⟨_, _, _, f1, f2 _ (by rw [wr_ne (by omega), wr_ne (by omega)]; exact m4) (by rw [wr_ne (by omega), wr_ne (by omega)]; exact wx2) (by rw [wr_ne (by omega), wr_ne (by omega)]; exact wx3), ?_⟩
          refine ⟨n, beds, lim, tw, t, va_up s x (s x - k), va_up d x (d x - k), nod, ill, ⟨⟨hn, htw, ?_, ?_⟩, ?_, ?_, b3, b4, ⟨hn, htw, ?_, ?_, ?_, ?_, ?_⟩, ⟨fun g hg => ⟨?_, ?_, ?_⟩, ?_, ?_⟩, ?_, fun g hg => ⟨?_, ?_, ?_, ?_⟩, fun g hg => ?_, ?_, ?_⟩, (keep_p i2 (fun a i q => by unfold Rp at q; simp (disch := omega) only [wr_ne])), (keep_t i3 (fun a i q => by unfold Rt at q; simp (disch := omega) only [wr_ne])), (keep_a i4 (fun a i q => by unfold Ra at q; simp (disch := omega) only [wr_ne])), (keep_s i5 (fun a i q => by unfold Rs at q; simp (disch := omega) only [wr_ne])), (keep_b i6 (fun a i q => by unfold Rb at q; simp (disch := omega) only [wr_ne])), (keep_q i7 (fun a i q => by unfold Rq at q; simp (disch := omega) only [wr_ne]))⟩
          · simp (disch := omega) only [wr_ne]; exact c1
          · intro g hg; simp (disch := omega) only [wr_ne]; exact c2 g hg
          · simp (disch := omega) only [wr_ne]; exact b1
          · simp (disch := omega) only [wr_ne]; exact b2
          · simp (disch := omega) only [wr_ne]; exact m4
          · simp (disch := omega) only [wr_ne]; exact m5
          · simp (disch := omega) only [wr_ne]; exact m6
          · intro g hg; simp (disch := omega) only [wr_ne]; exact m7 g hg
          · intro g hg; simp (disch := omega) only [wr_ne]; exact m8 g hg
          · simp (disch := omega) only [wr_ne]; exact (r1 g hg).1
          · have := (r1 g hg).2.1
            simp only [wr_at, va_up]
            by_cases e2 : g = x
            · simp [e2]
            · simp [e2]; exact this
          · have := (r1 g hg).2.2
            simp only [wr_at, va_up]
            by_cases e2 : g = x
            · simp [e2]
            · simp [e2]; exact this
          · simp (disch := omega) only [wr_ne]; exact r2
          · simp (disch := omega) only [wr_ne]; exact r3
          · intro g hg
            obtain ⟨v1, v2, v3⟩ := bn g hg
            simp only [va_up]
            exact ⟨v1, by split <;> omega, by split <;> omega⟩
          · simp (disch := omega) only [wr_ne]; exact (mr g hg).1
          · have := (mr g hg).2.1
            simp only [wr_at, va_up]
            by_cases e2 : g = x
            · simp [e2]
            · simp [e2]; exact this
          · have := (mr g hg).2.2.1
            simp only [wr_at, va_up]
            by_cases e2 : g = x
            · simp [e2]
            · simp [e2]; exact this
          · simp (disch := omega) only [wr_ne]; exact (mr g hg).2.2.2
          · simp (disch := omega) only [wr_ne]; exact bd1 g hg
          · simp (disch := omega) only [wr_ne]; exact bd2
          · simp (disch := omega) only [wr_ne]; exact bd3
        · refine ⟨-3, σ, wr σ 134 0 0, ?_, ?_, hI⟩
          · simp only [f_X8_pay]
            rw [bd_ok (has2_in hn c1 hx), if_neg (by decide), if_neg hk0, if_pos hk9]
            simp only [ck_ok _ hx5 (show 5 < 2 ^ 31 by decide), ix_nI (show x < 2 ^ 31 by omega)]
            rw [e15x, if_neg (nI_nlt hsx (by omega)), e16x, if_neg (nI_ge (by omega) (by omega))]
          · simp only [f_X9_pay, Lt]
            rw [bd_ok (noG_in hn m4' hx), if_pos rfl, bd_ok (in_19 _ _), hin, b2i_t, if_neg (by decide)]
            simp only [ck_ok _ hx5 (show 5 < 2 ^ 31 by decide), ix_nI (show x < 2 ^ 31 by omega)]
            rw [e37x, if_neg (nI_nlt hsx (by omega)), e38x, if_neg (nI_ge (by omega) (by omega))]
      · refine ⟨-3, σ, wr σ 134 0 0, ?_, ?_, hI⟩
        · simp only [f_X8_pay]
          rw [bd_ok (has2_in hn c1 hx), if_neg (by decide), if_neg hk0, if_pos hk9]
          simp only [ck_ok _ hx5 (show 5 < 2 ^ 31 by decide), ix_nI (show x < 2 ^ 31 by omega)]
          rw [e15x, if_pos (nI_lt (by omega) (by omega))]
        · simp only [f_X9_pay, Lt]
          rw [bd_ok (noG_in hn m4' hx), if_pos rfl, bd_ok (in_19 _ _), hin, b2i_t, if_neg (by decide)]
          simp only [ck_ok _ hx5 (show 5 < 2 ^ 31 by decide), ix_nI (show x < 2 ^ 31 by omega)]
          rw [e37x, if_pos (nI_lt (by omega) (by omega))]
theorem op_sick {σ : Hp} (h : Inv σ) (a1 : Int32) (b : Bool) : OK2 (fun σ => f_X8_sick σ a1 (b2i b)) (fun σ => f_X9_sick σ a1 (b2i b)) σ := by
  have h0 := h
  obtain ⟨n, beds, lim, tw, t, s, d, nod, ill, i1, i2, i3, i4, i5, i6, i7⟩ := h
  obtain ⟨⟨hn, htw, c1, c2⟩, b1, b2, b3, b4, ⟨-, -, m4, m5, m6, m7, m8⟩, ⟨r1, r2, r3⟩, bn, mr, bd1, bd2, bd3⟩ := i1
  have hI : Inv (wr σ 134 0 0) := Inv_scr h0 (thrown_scr σ)
  have m4' : (wr σ 134 0 0) 134 4 = nI n := by rw [wr_ne (by omega)]; exact m4
  rcases guard_cases a1 hn with ho | ⟨x, hx, rfl⟩
  · refine ⟨-1, σ, wr σ 134 0 0, ?_, ?_, hI⟩
    · simp only [f_X8_sick]; rw [bd_ok (has2_out c1 ho), if_pos rfl]
    · simp only [f_X9_sick, Lt]; rw [bd_ok (noG_out hn m4' ho), if_neg (by decide)]
  · have hx5 : x < 5 := by omega
    have hmk : (mk n (va_up ill x b) = mk n ill) ↔ (ill x = b) := by
      constructor
      · intro q
        have := congrArg (fun z => Nat.testBit z x) q
        simp only [mk_bit n _ x hx, va_up_self] at this
        exact this.symm
      · intro q
        rw [← q, va_up_same]
    have hmki : (nI (mk n (va_up ill x b)) = nI (mk n ill)) = (ill x = b) := by
      rw [ni_eq (by have := mk_lt32 hn (va_up ill x b); omega) (by have := mk_lt32 hn ill; omega)]
      exact propext hmk
    have f1 : f_X8_sick σ (nI x) (b2i b) = some (if ill x = b then 0 else 1, wr σ 13 6 (nI (mk n (va_up ill x b)))) := by
      simp only [f_X8_sick, Lt]
      rw [bd_ok (has2_in hn c1 hx), if_neg (by decide), r3]
      simp only [b2i_0]
      have fin : f_X8_sick_44 σ (nI (mk n ill)) (nI (mk n (va_up ill x b))) = some (if ill x = b then 0 else 1, wr σ 13 6 (nI (mk n (va_up ill x b)))) := by
        simp only [f_X8_sick_44, Lt]
        rw [wr_eq]
        by_cases q : ill x = b
        · rw [if_pos (by rw [hmki]; exact q), if_pos q]
        · rw [if_neg (by rw [hmki]; exact q), if_neg q]
      cases b with
      | false => rw [if_pos rfl, up_clr hn hx]; exact fin
      | true => rw [if_neg (by decide), up_or hn hx]; exact fin
    have f2 : ∀ σ1 : Hp, σ1 134 4 = nI n → σ1 140 x = b2i (ill x) → f_X9_sick σ1 (nI x) (b2i b) = some (if ill x = b then 0 else 1, wr (wr σ1 134 0 0) 140 x (b2i b)) := by
      intro σ1 g1 g2
      have g1' : (wr σ1 134 0 0) 134 4 = nI n := by rw [wr_ne (by omega)]; exact g1
      have g2' : (wr σ1 134 0 0) 140 x = b2i (ill x) := by rw [wr_ne (by omega)]; exact g2
      simp only [f_X9_sick, Lt]
      rw [bd_ok (noG_in hn g1' hx), if_pos rfl]
      simp only [ck_ok _ hx5 (show 5 < 2 ^ 31 by decide), ix_nI (show x < 2 ^ 31 by omega)]
      rw [g2', nar_b]
      have e : (b2i (ill x) = b2i b) = (ill x = b) := by cases ill x <;> cases b <;> simp [b2i]
      by_cases q : ill x = b
      · rw [if_pos (by rw [e]; exact q), if_pos q]
      · rw [if_neg (by rw [e]; exact q), if_neg q]
    refine ⟨_, _, _, f1, f2 _ (by rw [wr_ne (by omega)]; exact m4) (by rw [wr_ne (by omega)]; exact m8 x hx), ?_⟩
    refine ⟨n, beds, lim, tw, t, s, d, nod, va_up ill x b, ⟨⟨hn, htw, ?_, ?_⟩, ?_, ?_, b3, b4, ⟨hn, htw, ?_, ?_, ?_, ?_, ?_⟩, ⟨fun g hg => ⟨?_, ?_, ?_⟩, ?_, ?_⟩, bn, fun g hg => ⟨?_, ?_, ?_, ?_⟩, fun g hg => ?_, ?_, ?_⟩, (keep_p i2 (fun a i q => by unfold Rp at q; simp (disch := omega) only [wr_ne])), (keep_t i3 (fun a i q => by unfold Rt at q; simp (disch := omega) only [wr_ne])), (keep_a i4 (fun a i q => by unfold Ra at q; simp (disch := omega) only [wr_ne])), (keep_s i5 (fun a i q => by unfold Rs at q; simp (disch := omega) only [wr_ne])), (keep_b i6 (fun a i q => by unfold Rb at q; simp (disch := omega) only [wr_ne])), (keep_q i7 (fun a i q => by unfold Rq at q; simp (disch := omega) only [wr_ne]))⟩
    · simp (disch := omega) only [wr_ne]; exact c1
    · intro g hg; simp (disch := omega) only [wr_ne]; exact c2 g hg
    · simp (disch := omega) only [wr_ne]; exact b1
    · simp (disch := omega) only [wr_ne]; exact b2
    · simp (disch := omega) only [wr_ne]; exact m4
    · simp (disch := omega) only [wr_ne]; exact m5
    · simp (disch := omega) only [wr_ne]; exact m6
    · intro g hg; simp (disch := omega) only [wr_ne]; exact m7 g hg
    · intro g hg
      have := m8 g hg
      by_cases e : g = x
      · subst e; rw [wr_eq, va_up_self]
      · rw [va_up_ne _ _ e]; simp (disch := omega) only [wr_ne]; exact this
    · simp (disch := omega) only [wr_ne]; exact (r1 g hg).1
    · simp (disch := omega) only [wr_ne]; exact (r1 g hg).2.1
    · simp (disch := omega) only [wr_ne]; exact (r1 g hg).2.2
    · simp (disch := omega) only [wr_ne]; exact r2
    · rw [wr_ne (by omega), wr_ne (by omega), wr_eq]
    · simp (disch := omega) only [wr_ne]; exact (mr g hg).1
    · simp (disch := omega) only [wr_ne]; exact (mr g hg).2.1
    · simp (disch := omega) only [wr_ne]; exact (mr g hg).2.2.1
    · simp (disch := omega) only [wr_ne]; exact (mr g hg).2.2.2
    · simp (disch := omega) only [wr_ne]; exact bd1 g hg
    · simp (disch := omega) only [wr_ne]; exact bd2
    · simp (disch := omega) only [wr_ne]; exact bd3
theorem op_plan {σ : Hp} (h : Inv σ) (a1 a2 : Int32) : OK2 (fun σ => f_X8_plan σ a1 a2) (fun σ => f_X9_plan σ a1 a2) σ := by
  have h0 := h
  obtain ⟨n, beds, lim, tw, t, s, d, nod, ill, i1, i2, i3, i4, i5, i6, i7⟩ := h
  have hn : n ≤ 5 := i1.1.1
  have c1 : σ 11 1 = nI n := i1.1.2.2.1
  have m4 : σ 134 4 = nI n := i1.2.2.2.2.2.1.2.2.1
  have hI : Inv (wr σ 134 0 0) := Inv_scr h0 (thrown_scr σ)
  have m4' : (wr σ 134 0 0) 134 4 = nI n := by rw [wr_ne (by omega)]; exact m4
  rcases rng_cases a1 0 3 (by decide) (by decide) with ho | ⟨x, -, hx, rfl⟩
  · refine ⟨-2, σ, wr σ 134 0 0, ?_, ?_, hI⟩
    · simp only [f_X8_plan]
      by_cases q : a1 < 0
      · rw [if_pos q]
      · rw [if_neg q, if_pos]
        rcases ho with ho | ho
        · exact absurd ho q
        · rw [Int32.lt_iff_toInt_lt, nI_toInt (by decide)] at ho
          rw [Int32.le_iff_toInt_le]
          have : (4 : Int32).toInt = 4 := rfl
          omega
    · simp only [f_X9_plan, Lt]
      rw [bd_ok (in_03 _ _), show decide ((0 : Int32) ≤ a1 ∧ a1 ≤ 3) = false from decide_eq_false (rng_no (lo := 0) (hi := 3) (by decide) (by decide) ho), b2i_f, if_pos rfl]
  · have hx4 : x < 4 := by omega
    have q1 : ¬ nI x < (0 : Int32) := nI_pos (by omega)
    have q2 : ¬ (4 : Int32) ≤ nI x := nI_ge (b := 4) (by omega) (by decide)
    have q3 : decide ((0 : Int32) ≤ nI x ∧ nI x ≤ 3) = true := decide_eq_true ⟨nI_pos' (by omega), nI_le (b := 3) hx (by decide)⟩
    rcases set_cases a2 hn with ho | ⟨m, hm, rfl⟩
    · refine ⟨-2, σ, wr σ 134 0 0, ?_, ?_, hI⟩
      · simp only [f_X8_plan]
        rw [if_neg q1, if_neg q2, bd_ok (hasAll_out hn c1 ho), if_pos rfl]
      · simp only [f_X9_plan, Lt]
        rw [bd_ok (in_03 _ _), q3, b2i_t, if_neg (by decide), bd_ok (noSet_out hn m4' ho), if_neg (by decide)]
    · obtain ⟨p, p1, p2, p3⟩ := i2 x hx4
      have p3' : (wr (wr σ 23 x (nI m)) 134 0 0) 143 x = nI p := by rw [wr_ne (by omega), wr_ne (by omega)]; exact p3
      refine ⟨nI p, wr σ 23 x (nI m), wr (wr (wr σ 23 x (nI m)) 134 0 0) 143 x (nI m), ?_, ?_, ?_⟩
      · simp only [f_X8_plan, Lt]
        rw [if_neg q1, if_neg q2, bd_ok (hasAll_in hn c1 hm), if_neg (by decide)]
        simp only [ck_ok _ hx4 (show 4 < 2 ^ 31 by decide), ix_nI (show x < 2 ^ 31 by omega)]
        rw [p2]
      · simp only [f_X9_plan, Lt]
        rw [bd_ok (in_03 _ _), q3, b2i_t, if_neg (by decide), bd_ok (noSet_in hn (by rw [wr_ne (by omega), wr_ne (by omega)]; exact m4) hm), if_pos rfl]
        simp only [ck_ok _ hx4 (show 4 < 2 ^ 31 by decide), ix_nI (show x < 2 ^ 31 by omega)]
        rw [p3']
      · refine ⟨n, beds, lim, tw, t, s, d, nod, ill, (keep_c i1 (fun a i q => by unfold Rc at q; simp (disch := omega) only [wr_ne])), fun j hj => ?_, (keep_t i3 (fun a i q => by unfold Rt at q; simp (disch := omega) only [wr_ne])), (keep_a i4 (fun a i q => by unfold Ra at q; simp (disch := omega) only [wr_ne])), (keep_s i5 (fun a i q => by unfold Rs at q; simp (disch := omega) only [wr_ne])), (keep_b i6 (fun a i q => by unfold Rb at q; simp (disch := omega) only [wr_ne])), (keep_q i7 (fun a i q => by unfold Rq at q; simp (disch := omega) only [wr_ne]))⟩
        obtain ⟨w, w1, w2, w3⟩ := i2 j hj
        by_cases e : j = x
        · subst e
          exact ⟨m, hm, by rw [wr_ne (by omega), wr_ne (by omega), wr_eq], by rw [wr_eq]⟩
        · exact ⟨w, w1, by simp (disch := omega) only [wr_ne]; exact w2, by simp (disch := omega) only [wr_ne]; exact w3⟩
