/-! writing -/
def byt (y : Int32) : Nat := y.toBitVec.toNat % 256
theorem byt_lt (y : Int32) : byt y < 256 := Nat.mod_lt _ (by decide)
theorem byt_and (y : Int32) : y &&& 255 = nI (byt y) := pk_and y 8 (by decide)
theorem low8 (x : Int32) : (x &&& 255).toInt8 = x.toInt8 := by
  apply Int8.toBitVec_inj.mp
  apply BitVec.eq_of_getLsbD_eq
  intro i hi
  have h2 : (255 : Int32).toBitVec.getLsbD i = true := (by decide +kernel : ∀ i, i < 8 → (255 : Int32).toBitVec.getLsbD i = true) i hi
  have h3 : i < 32 := by omega
  simp only [Int32.toBitVec_toInt8, BitVec.getLsbD_signExtend, Int32.toBitVec_and, BitVec.getLsbD_and, h2, h3, Bool.and_true, if_true]
theorem byt_sx (y : Int32) : y.toInt8.toInt32 = sx (byt y) := by
  unfold sx
  rw [← byt_and, low8]
def Yb (v : Int64) (i : Nat) : Int32 := (v >>> (((8 : Int32) * nI i).toInt64 &&& 63)).toInt32
theorem sub_1 (x : Int32) : x + (-1) = x - 1 := by
  rw [Int32.sub_eq_add_neg]
theorem app_loop (v : Int64) : ∀ (r len fuel : Nat) (σ : Hp), r + len ≤ 48 → r < fuel → σ 1 1 = nI len → ∃ σ', f_X7_append_5 fuel σ v (nI r - 1) = some ((), σ') ∧ σ' 1 1 = nI (len + r) ∧ (∀ j, j < r → σ' 2 (len + j) = sx (byt (Yb v (r - 1 - j)))) ∧ ∀ a i, ¬ (a = 1 ∧ i = 1) → ¬ (a = 2 ∧ len ≤ i) → σ' a i = σ a i := by
  intro r
  induction r with
  | zero =>
    intro len fuel σ hl hf h1
    obtain ⟨f, rfl⟩ : ∃ f, fuel = f + 1 := ⟨fuel - 1, by omega⟩
    refine ⟨σ, ?_, h1, fun j hj => absurd hj (Nat.not_lt_zero j), fun _ _ _ _ => rfl⟩
    simp only [f_X7_append_5]
    rw [if_pos (by decide)]
  | succ r ih =>
    intro len fuel σ hl hf h1
    obtain ⟨f, rfl⟩ : ∃ f, fuel = f + 1 := ⟨fuel - 1, by omega⟩
    have hl48 : len < 48 := by omega
    have hl31 : len < 2 ^ 31 := by omega
    have hst : σ 1 1 = nI len := h1
    obtain ⟨σ', e1, e2, e3, e4⟩ := ih (len + 1) f (wr (wr σ 2 len (sx (byt (Yb v r)))) 1 1 (nI (len + 1))) (by omega) (by omega) (by rw [wr_eq])
    refine ⟨σ', ?_, by rw [e2]; congr 1; omega, fun j hj => ?_, fun a i q1 q2 => ?_⟩
    · simp only [f_X7_append_5, Lt]
      rw [nI_pred, if_neg (nI_pos (by omega)), h1, if_neg (show ¬ (48 : Int32) ≤ nI len from nI_ge (b := 48) hl48 (by decide)), ck_ok _ hl48 (by decide), ix_nI hl31, sub_1]
      have e5 : vp_nar .byte ((v >>> (((8 : Int32) * nI r).toInt64 &&& 63)).toInt32.toInt8.toInt32) = sx (byt (Yb v r)) := by
        rw [pk_vb]
        exact byt_sx (Yb v r)
      rw [e5]
      have e6 : (wr σ 2 len (sx (byt (Yb v r)))) 1 1 + 1 = nI (len + 1) := by
        rw [wr_ne (by omega), h1, ni_add1]
      rw [e6]
      exact e1
    · by_cases hj0 : j = 0
      · subst hj0
        rw [e4 _ _ (by omega) (by omega), wr_ne (by omega), Nat.add_zero, wr_eq]
        rfl
      · have := e3 (j - 1) (by omega)
        rw [show len + 1 + (j - 1) = len + j by omega, show r - 1 - (j - 1) = r + 1 - 1 - j by omega] at this
        exact this
    · rw [e4 a i q1 (by omega), wr_ne q1, wr_ne (by omega)]
theorem wrt_loop (v : Int64) : ∀ (r len fuel : Nat) (σ : Hp), r + len ≤ 48 → r < fuel → σ 134 2 = nI len → ∃ σ', f_X9_write_39 fuel σ v (nI r - 1) = some (nI (len + r), σ') ∧ σ' 134 2 = nI (len + r) ∧ (∀ j, j < r → σ' 135 (len + j) = nI (byt (Yb v (r - 1 - j)))) ∧ ∀ a i, ¬ (a = 134 ∧ i = 2) → ¬ (a = 135 ∧ len ≤ i) → σ' a i = σ a i := by
  intro r
  induction r with
  | zero =>
    intro len fuel σ hl hf h1
    obtain ⟨f, rfl⟩ : ∃ f, fuel = f + 1 := ⟨fuel - 1, by omega⟩
    refine ⟨σ, ?_, h1, fun j hj => absurd hj (Nat.not_lt_zero j), fun _ _ _ _ => rfl⟩
    simp only [f_X9_write_39]
    rw [if_pos (by decide), h1]; rfl
  | succ r ih =>
    intro len fuel σ hl hf h1
    obtain ⟨f, rfl⟩ : ∃ f, fuel = f + 1 := ⟨fuel - 1, by omega⟩
    have hl48 : len < 48 := by omega
    have hl31 : len < 2 ^ 31 := by omega
    obtain ⟨σ', e1, e2, e3, e4⟩ := ih (len + 1) f (wr (wr σ 135 len (nI (byt (Yb v r)))) 134 2 (nI (len + 1))) (by omega) (by omega) (by rw [wr_eq])
    refine ⟨σ', ?_, by rw [e2]; congr 1; omega, fun j hj => ?_, fun a i q1 q2 => ?_⟩
    · simp only [f_X9_write_39, Lt]
      rw [nI_pred, if_neg (nI_pos (by omega)), h1, ck_ok _ hl48 (by decide), ix_nI hl31, sub_1]
      have e5 : (v >>> (((8 : Int32) * nI r).toInt64 &&& 63)).toInt32 &&& 255 = nI (byt (Yb v r)) := byt_and (Yb v r)
      rw [e5]
      have e6 : (wr σ 135 len (nI (byt (Yb v r)))) 134 2 + 1 = nI (len + 1) := by
        rw [wr_ne (by omega), h1, ni_add1]
      rw [e6, e1]
      congr 2
      congr 1
      omega
    · by_cases hj0 : j = 0
      · subst hj0
        rw [e4 _ _ (by omega) (by omega), wr_ne (by omega), Nat.add_zero, wr_eq]
        rfl
      · have := e3 (j - 1) (by omega)
        rw [show len + 1 + (j - 1) = len + j by omega, show r - 1 - (j - 1) = r + 1 - 1 - j by omega] at this
        exact this
    · rw [e4 a i q1 (by omega), wr_ne q1, wr_ne (by omega)]
theorem in_18 (σ : Hp) (x : Int32) : f_X9_in σ x.toInt64 (1 : Int64) (8 : Int64) = some (b2i (decide ((1 : Int32) ≤ x ∧ x ≤ 8)), σ) := in_ok σ x 1 8
theorem op_write {σ : Hp} (h : Inv σ) (a1 : Int32) (v : Int64) : OK2 (fun σ => f_X8_write σ a1 v) (fun σ => f_X9_write σ a1 v) σ := by
  have h0 := h
  obtain ⟨n, beds, lim, tw, t, s, d, nod, ill, i1, i2, ⟨len, k1, k2, k3, k4⟩, i4, i5, i6, i7⟩ := h
  have hI : Inv (wr σ 134 0 0) := Inv_scr h0 (thrown_scr σ)
  have k3' : (wr σ 134 0 0) 134 2 = nI len := by rw [wr_ne (by omega)]; exact k3
  rcases rng_cases a1 1 8 (by decide) (by decide) with ho | ⟨r, r1, r2, rfl⟩
  · refine ⟨-2, σ, wr σ 134 0 0, ?_, ?_, hI⟩
    · simp only [f_X8_write]
      by_cases q : a1 < 1
      · rw [if_pos q]
      · rw [if_neg q, if_neg]
        intro w
        exact rng_no (lo := 1) (hi := 8) (by decide) (by decide) ho ⟨by rw [Int32.lt_iff_toInt_lt] at q; rw [Int32.le_iff_toInt_le]; exact Int.not_lt.mp q, w⟩
    · simp only [f_X9_write, Lt]
      rw [bd_ok (in_18 _ _), show decide ((1 : Int32) ≤ a1 ∧ a1 ≤ 8) = false from decide_eq_false (rng_no (lo := 1) (hi := 8) (by decide) (by decide) ho), b2i_f, if_pos rfl]
  · have hr1 : ¬ nI r < (1 : Int32) := nI_nlt (b := 1) r1 (by omega)
    have hr8 : nI r ≤ (8 : Int32) := nI_le (b := 8) r2 (by decide)
    have hin : decide ((1 : Int32) ≤ nI r ∧ nI r ≤ 8) = true := decide_eq_true ⟨nI_le (a := 1) r1 (by omega), hr8⟩
    have hsub : (48 : Int32) - nI len = nI (48 - len) := pk_sub (a := 48) k1
    by_cases hfit : r + len ≤ 48
    · obtain ⟨σ1, e1, e2, e3, e4⟩ := app_loop v r len FU σ hfit (FU_big (by omega)) k2
      have m1 : (wr σ1 134 0 0) 134 2 = nI len := by rw [wr_ne (by omega), e4 _ _ (by omega) (by omega)]; exact k3
      obtain ⟨σ2, g1, g2, g3, g4⟩ := wrt_loop v r len FU (wr σ1 134 0 0) hfit (FU_big (by omega)) m1
      have fr : ∀ a i, ¬ (a = 1 ∧ i = 1) → ¬ (a = 2 ∧ len ≤ i) → ¬ (a = 134 ∧ i = 2) → ¬ (a = 135 ∧ len ≤ i) → ¬ (a = 134 ∧ i = 0) → σ2 a i = σ a i := by
        intro a i q1 q2 q3 q4 q5
        rw [g4 a i q3 q4, wr_ne q5, e4 a i q1 q2]
      refine ⟨nI (len + r), σ1, σ2, ?_, ?_, ?_⟩
      · simp only [f_X8_write, f_X7_append, Lt]
        rw [if_neg hr1, if_pos hr8, k2, hsub, if_pos (nI_le (by omega) (by omega)), bd_ok e1, e2]
      · simp only [f_X9_write, Lt]
        rw [bd_ok (in_18 _ _), hin, b2i_t, if_neg (by decide), m1, nI_add, if_pos (show nI (len + r) ≤ (48 : Int32) from nI_le (b := 48) (by omega) (by decide))]
        exact g1
      · refine ⟨n, beds, lim, tw, t, s, d, nod, ill, keep_c i1 (fun a i q => by unfold Rc at q; exact fr a i (by omega) (by omega) (by omega) (by omega) (by omega)), keep_p i2 (fun a i q => by unfold Rp at q; exact fr a i (by omega) (by omega) (by omega) (by omega) (by omega)), ⟨len + r, by omega, ?_, g2, fun j hj => ?_⟩, keep_a i4 (fun a i q => by unfold Ra at q; exact fr a i (by omega) (by omega) (by omega) (by omega) (by omega)), keep_s i5 (fun a i q => by unfold Rs at q; exact fr a i (by omega) (by omega) (by omega) (by omega) (by omega)), keep_b i6 (fun a i q => by unfold Rb at q; exact fr a i (by omega) (by omega) (by omega) (by omega) (by omega)), keep_q i7 (fun a i q => by unfold Rq at q; exact fr a i (by omega) (by omega) (by omega) (by omega) (by omega))⟩
        · rw [g4 _ _ (by omega) (by omega), wr_ne (by omega)]; exact e2
        · by_cases hjl : j < len
          · obtain ⟨c, c1, c2, c3⟩ := k4 j hjl
            exact ⟨c, c1, by rw [fr 2 j (by omega) (by omega) (by omega) (by omega) (by omega)]; exact c2, by rw [fr 135 j (by omega) (by omega) (by omega) (by omega) (by omega)]; exact c3⟩
          · refine ⟨byt (Yb v (r - 1 - (j - len))), byt_lt _, ?_, ?_⟩
            · have := e3 (j - len) (by omega)
              rw [show len + (j - len) = j by omega] at this
              rw [g4 _ _ (by omega) (by omega), wr_ne (by omega)]
              exact this
            · have := g3 (j - len) (by omega)
              rw [show len + (j - len) = j by omega] at this
              exact this
    · refine ⟨-4, σ, wr σ 134 0 0, ?_, ?_, hI⟩
      · simp only [f_X8_write]
        rw [if_neg hr1, if_pos hr8, k2, hsub, if_neg (nI_ge (by omega) (by omega))]
      · simp only [f_X9_write, Lt]
        rw [bd_ok (in_18 _ _), hin, b2i_t, if_neg (by decide), k3', nI_add, if_neg (show ¬ nI (len + r) ≤ (48 : Int32) from nI_ge (a := 48) (by omega) (by omega))]
