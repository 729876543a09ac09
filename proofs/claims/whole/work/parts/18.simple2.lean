theorem nar_b (v : Bool) : vp_nar .boolean (bI v) = bI v := by cases v <;> rfl
theorem nar_0 : vp_nar .boolean 0 = 0 := rfl
theorem nar_1 : vp_nar .boolean 1 = 1 := rfl
theorem bI_if (b : Bool) {P : Int32 → Prop} (h : P (bI b)) : (bI b = 0 → P 0) ∧ (¬ bI b = 0 → P 1) := by
  cases b
  · exact ⟨fun _ => h, fun q => absurd rfl q⟩
  · exact ⟨fun q => absurd q (by decide), fun _ => h⟩
theorem ne01 {P Q : Prop} (h : Q) : (¬ (1 : Int32) = 0 → Q) ∧ ((1 : Int32) = 0 → P) := ⟨fun _ => h, fun q => absurd q (by decide)⟩
theorem ne10 {P Q : Prop} (h : Q) : ((1 : Int32) = 0 → P) ∧ (¬ (1 : Int32) = 0 → Q) := ⟨fun q => absurd q (by decide), fun _ => h⟩
theorem eq00 {P Q : Prop} (h : P) : ((0 : Int32) = 0 → P) ∧ (¬ (0 : Int32) = 0 → Q) := ⟨fun _ => h, fun q => absurd rfl q⟩
theorem eq00' {P Q : Prop} (h : P) : (¬ (0 : Int32) = 0 → Q) ∧ ((0 : Int32) = 0 → P) := ⟨fun q => absurd rfl q, fun _ => h⟩
/-! end -/
theorem sX6_end_b40 {N : zM} {j : Nat} (hj : j < 12) {v : Bool} {t : Int32} {post : Int32 → zM → Prop} (h : post t (zsi N 23 j (bI v))) : pX6_end_b40 post (nI j) (bI v) t N := by
  unfold pX6_end_b40 pX6_end_b56
  rw [nI_clamp (by omega)]
  cases v
  · exact ⟨fun _ => ⟨vp_in_nI hj (by decide), h⟩, fun q => absurd q (by decide)⟩
  · exact ⟨fun q => absurd rfl q, fun _ => ⟨vp_in_nI hj (by decide), h⟩⟩
theorem cs_end {σ : Sg} {M N : zM} (R : Rel σ M N) (x1 x2 : Int32) {post : Int32 → zM → Int32 → zM → Prop} (h : ∀ r σ' M' N', Rel σ' M' N' → post r M' r N') : pX5_end M x1 x2 (fun r M1 => pX6_end N x1 x2 (fun r' N1 => post r M1 r' N1)) := by
  have R0 := R
  obtain ⟨W, X, Y, A⟩ := R
  have hR := W.1
  unfold pX5_end pX6_end pX5_end_b24 pX6_end_b23
  rcases ix3 x1 (n := sR σ) (by omega) with hx | ⟨r, hr, rfl⟩
  · exact sX2_isRelay_f X hx (eq00' (sX6_isRelay_f W Y hx (eq00' (h _ σ _ _ R0))))
  · refine sX2_isRelay_t W X hr (ne01 ?_)
    rcases flag3 x2 with ⟨h0, h1⟩ | ⟨v, rfl⟩
    · exact sX5_isFlag_f h0 h1 (eq00 (sX6_isRelay_t W Y hr (ne01 (sX6_in01_f h0 h1 (eq00 (h _ σ _ _ R0))))))
    · refine sX5_isFlag_t (ne10 ⟨fun q => ?_, fun q => sX6_isRelay_t W Y hr (ne01 (sX6_in01_t (ne10 ⟨fun q2 => absurd q q2, fun _ => h _ σ _ _ R0⟩)))⟩)
      have hr0 : r ≠ 0 := fun e => q (by rw [e]; rfl)
      refine sX5_flag (by omega) ?_
      rw [X.2.1 r (by omega)]
      refine sX5_withFlag (by omega) (fun t ht => ?_)
      refine sX6_isRelay_t W Y hr (ne01 (sX6_in01_t (ne10 ⟨fun _ => ⟨vp_in_nI (by omega) (by decide), ?_⟩, fun q2 => absurd q2 q⟩)))
      rw [nI_clamp (by omega), Y.2.2.1 r (by omega)]
      have key : post (bI (sE σ r)) (zsi M 1 3 t) (bI (sE σ r)) (zsi N 23 r (bI v)) := by
        refine h _ (σ.1, sP σ, (fun k => if k = r then v else sE σ k), σ.2.2.2) _ _ ⟨⟨W.1, W.2.1, W.2.2.1, W.2.2.2.1, W.2.2.2.2.1, fun k hk => ?_, W.2.2.2.2.2.2⟩, ?_, ?_, A⟩
        · have hk' : (if k = r then v else sE σ k) = true := hk
          show 0 < k ∧ k < sR σ
          by_cases e : k = r
          · omega
          · rw [if_neg e] at hk'
            exact W.2.2.2.2.2.1 k hk'
        · refine ⟨X.1, fun i hi => ?_, X.2.2⟩
          show bt t i = if i = r then v else sE σ i
          rw [ht i hi, X.2.1 i hi]
        · refine ⟨Y.1, Y.2.1, fun k hk => ?_, Y.2.2.2⟩
          show (if k = r then bI v else N.1 23 k) = bI (if k = r then v else sE σ k)
          rw [Y.2.2.1 k hk]
          split <;> rfl
      exact bI_if (sE σ r) (P := fun t0 => pX6_end_b40 (fun r' N1 => post (bI (sE σ r)) (zsi M 1 3 t) r' N1) (nI r) (bI v) t0 N) (sX6_end_b40 (by omega) key)
/-! keep, broken -/
theorem sX6_keep_b36 {N : zM} {j : Nat} (hj : j < 30) {v : Bool} {t : Int32} {post : Int32 → zM → Prop} (h : post t (zsi N 26 j (bI v))) : pX6_keep_b36 post (nI j) (bI v) t N := by
  unfold pX6_keep_b36 pX6_keep_b52
  rw [nI_clamp (by omega)]
  cases v
  · exact ⟨fun _ => ⟨vp_in_nI hj (by decide), h⟩, fun q => absurd q (by decide)⟩
  · exact ⟨fun q => absurd rfl q, fun _ => ⟨vp_in_nI hj (by decide), h⟩⟩
theorem sX6_broken_b36 {N : zM} {j : Nat} (hj : j < 30) {v : Bool} {t : Int32} {post : Int32 → zM → Prop} (h : post t (zsi N 27 j (bI v))) : pX6_broken_b36 post (nI j) (bI v) t N := by
  unfold pX6_broken_b36 pX6_broken_b52
  rw [nI_clamp (by omega)]
  cases v
  · exact ⟨fun _ => ⟨vp_in_nI hj (by decide), h⟩, fun q => absurd q (by decide)⟩
  · exact ⟨fun q => absurd rfl q, fun _ => ⟨vp_in_nI hj (by decide), h⟩⟩
theorem cs_keep {σ : Sg} {M N : zM} (R : Rel σ M N) (x1 x2 : Int32) {post : Int32 → zM → Int32 → zM → Prop} (h : ∀ r σ' M' N', Rel σ' M' N' → post r M' r N') : pX5_keep M x1 x2 (fun r M1 => pX6_keep N x1 x2 (fun r' N1 => post r M1 r' N1)) := by
  have R0 := R
  obtain ⟨W, X, Y, A⟩ := R
  have hL := W.2.1
  unfold pX5_keep pX6_keep
  rcases ix3 x1 (n := sL σ) (by omega) with hx | ⟨l, hl, rfl⟩
  · exact sX2_isLine_f X hx (eq00' (sX6_isLine_f W Y hx (eq00' (h _ σ _ _ R0))))
  · refine sX2_isLine_t W X hl (ne01 ?_)
    rcases flag3 x2 with ⟨h0, h1⟩ | ⟨v, rfl⟩
    · exact sX5_isFlag_f h0 h1 (eq00' (sX6_isLine_t W Y hl (ne01 (sX6_in01_f h0 h1 (eq00' (h _ σ _ _ R0))))))
    · refine sX5_isFlag_t (ne01 (sX5_flag (by omega) ?_))
      rw [X.2.2.1 l (by omega)]
      refine sX5_withFlag (by omega) (fun t ht => ?_)
      refine sX6_isLine_t W Y hl (ne01 (sX6_in01_t (ne01 ⟨vp_in_nI (by omega) (by decide), ?_⟩)))
      rw [nI_clamp (by omega), (Y.2.2.2.2.1 l (by omega)).1]
      have key : post (bI (sK σ l)) (zsi M 1 4 t) (bI (sK σ l)) (zsi N 26 l (bI v)) := by
        refine h _ (σ.1, sP σ, sE σ, σ.2.2.2.1, (fun k => if k = l then v else sK σ k), σ.2.2.2.2.2) _ _ ⟨W, ?_, ?_, A⟩
        · refine ⟨X.1, X.2.1, fun i hi => ?_, X.2.2.2⟩
          show bt t i = if i = l then v else sK σ i
          rw [ht i (by omega), X.2.2.1 i hi]
        · refine ⟨Y.1, Y.2.1, Y.2.2.1, Y.2.2.2.1, fun k hk => ⟨?_, (Y.2.2.2.2.1 k hk).2⟩, Y.2.2.2.2.2⟩
          show (if k = l then bI v else N.1 26 k) = bI (if k = l then v else sK σ k)
          rw [(Y.2.2.2.2.1 k hk).1]
          split <;> rfl
      exact bI_if (sK σ l) (P := fun t0 => pX6_keep_b36 (fun r' N1 => post (bI (sK σ l)) (zsi M 1 4 t) r' N1) (nI l) (bI v) t0 N) (sX6_keep_b36 (by omega) key)
theorem cs_broken {σ : Sg} {M N : zM} (R : Rel σ M N) (x1 x2 : Int32) {post : Int32 → zM → Int32 → zM → Prop} (h : ∀ r σ' M' N', Rel σ' M' N' → post r M' r N') : pX5_broken M x1 x2 (fun r M1 => pX6_broken N x1 x2 (fun r' N1 => post r M1 r' N1)) := by
  have R0 := R
  obtain ⟨W, X, Y, A⟩ := R
  have hL := W.2.1
  unfold pX5_broken pX6_broken
  rcases ix3 x1 (n := sL σ) (by omega) with hx | ⟨l, hl, rfl⟩
  · exact sX2_isLine_f X hx (eq00' (sX6_isLine_f W Y hx (eq00' (h _ σ _ _ R0))))
  · refine sX2_isLine_t W X hl (ne01 ?_)
    rcases flag3 x2 with ⟨h0, h1⟩ | ⟨v, rfl⟩
    · exact sX5_isFlag_f h0 h1 (eq00' (sX6_isLine_t W Y hl (ne01 (sX6_in01_f h0 h1 (eq00' (h _ σ _ _ R0))))))
    · refine sX5_isFlag_t (ne01 (sX5_flag (by omega) ?_))
      rw [X.2.2.2.1 l (by omega)]
      refine sX5_withFlag (by omega) (fun t ht => ?_)
      refine sX6_isLine_t W Y hl (ne01 (sX6_in01_t (ne01 ⟨vp_in_nI (by omega) (by decide), ?_⟩)))
      rw [nI_clamp (by omega), (Y.2.2.2.2.1 l (by omega)).2]
      have key : post (bI (sB σ l)) (zsi M 1 5 t) (bI (sB σ l)) (zsi N 27 l (bI v)) := by
        refine h _ (σ.1, sP σ, sE σ, σ.2.2.2.1, sK σ, (fun k => if k = l then v else sB σ k), σ.2.2.2.2.2.2) _ _ ⟨⟨W.1, W.2.1, W.2.2.1, W.2.2.2.1, W.2.2.2.2.1, W.2.2.2.2.2.1, fun k hk => ?_⟩, ?_, ?_, A⟩
        · have hk' : (if k = l then v else sB σ k) = true := hk
          show k < sL σ
          by_cases e : k = l
          · omega
          · rw [if_neg e] at hk'
            exact W.2.2.2.2.2.2 k hk'
        · refine ⟨X.1, X.2.1, X.2.2.1, fun i hi => ?_, X.2.2.2.2⟩
          show bt t i = if i = l then v else sB σ i
          rw [ht i (by omega), X.2.2.2.1 i hi]
        · refine ⟨Y.1, Y.2.1, Y.2.2.1, Y.2.2.2.1, fun k hk => ⟨(Y.2.2.2.2.1 k hk).1, ?_⟩, Y.2.2.2.2.2⟩
          show (if k = l then bI v else N.1 27 k) = bI (if k = l then v else sB σ k)
          rw [(Y.2.2.2.2.1 k hk).2]
          split <;> rfl
      exact bI_if (sB σ l) (P := fun t0 => pX6_broken_b36 (fun r' N1 => post (bI (sB σ l)) (zsi M 1 5 t) r' N1) (nI l) (bI v) t0 N) (sX6_broken_b36 (by omega) key)
/-! bend -/
theorem cs_bend {σ : Sg} {M N : zM} (R : Rel σ M N) (x1 : Int32) (x2 : Int64) {post : Int32 → zM → Int32 → zM → Prop} (h : ∀ r σ' M' N', Rel σ' M' N' → post r M' r N') : pX5_bend M x1 x2 (fun r M1 => pX6_bend N x1 x2 (fun r' N1 => post r M1 r' N1)) := by
  have R0 := R
  obtain ⟨W, X, Y, A⟩ := R
  have hL := W.2.1
  unfold pX5_bend pX6_bend pX5_bend_b32 pX6_bend_b26
  rcases ix3 x1 (n := sL σ) (by omega) with hx | ⟨l, hl, rfl⟩
  · exact sX2_isLine_f X hx (eq00' (sX6_isLine_f W Y hx (eq00' (h _ σ _ _ R0))))
  · refine sX2_isLine_t W X hl (ne01 ⟨vp_in_nI (by omega) (by decide), ?_⟩)
    rw [nI_clamp (by omega), X.2.2.2.2.2.1 l (by omega)]
    have key : ∀ b, post b (zsj M 8 l x2) b (zsj N 28 l x2) := by
      intro b
      refine h b (σ.1, sP σ, sE σ, σ.2.2.2.1, sK σ, sB σ, (fun k => if k = l then x2 else sN σ k), sA σ) _ _ ⟨W, ?_, ?_, A⟩
      · refine ⟨X.1, X.2.1, X.2.2.1, X.2.2.2.1, X.2.2.2.2.1, fun k hk => ?_, X.2.2.2.2.2.2⟩
        show (if k = l then x2 else M.2 8 k) = if k = l then x2 else sN σ k
        rw [X.2.2.2.2.2.1 k hk]
      · refine ⟨Y.1, Y.2.1, Y.2.2.1, Y.2.2.2.1, Y.2.2.2.2.1, fun k hk => ?_, Y.2.2.2.2.2.2⟩
        show (if k = l then x2 else N.2 28 k) = if k = l then x2 else sN σ k
        rw [Y.2.2.2.2.2.1 k hk]
    have hv := vp_in_nI (n := l) (N := 30) (by omega) (by decide)
    refine ⟨fun q => sX5_asFlag0 ⟨hv, sX6_isLine_t W Y hl (ne01 ⟨hv, ?_⟩)⟩, fun q => sX5_asFlag1 ⟨hv, sX6_isLine_t W Y hl (ne01 ⟨hv, ?_⟩)⟩⟩
    · rw [Y.2.2.2.2.2.1 l (by omega)]
      exact ⟨fun _ => ⟨hv, key 0⟩, fun q2 => absurd q q2⟩
    · rw [Y.2.2.2.2.2.1 l (by omega)]
      exact ⟨fun q2 => absurd q2 q, fun _ => ⟨hv, key 1⟩⟩
/-! factor -/
theorem sX5_slot {a b : Nat} {post : Int32 → Prop} (h : post (nI (30 * a + b))) : pX5_slot (nI a) (nI b) post := by
  unfold pX5_slot
  rw [show nI a * (30 : Int32) + nI b = nI (30 * a + b) by rw [show nI a * (30 : Int32) = nI (a * 30) from pk_mul a 30, nI_add, Nat.mul_comm]]
  exact h
theorem slotM (a b : Nat) : (30 : Int32) * nI a + nI b = nI (30 * a + b) := by
  rw [show (30 : Int32) * nI a = nI (30 * a) from pk_mul 30 a, nI_add]
theorem cs_factor {σ : Sg} {M N : zM} (R : Rel σ M N) (x1 x2 x3 : Int32) {post : Int32 → zM → Int32 → zM → Prop} (h : ∀ r σ' M' N', Rel σ' M' N' → post r M' r N') : pX5_factor M x1 x2 x3 (fun r M1 => pX6_factor N x1 x2 x3 (fun r' N1 => post r M1 r' N1)) := by
  have R0 := R
  obtain ⟨W, X, Y, A⟩ := R
  have hL := W.2.1
  unfold pX5_factor pX6_factor pX5_factor_b27 pX6_factor_b23
  rcases ix3 x1 (n := sL σ) (by omega) with hx | ⟨l, hl, rfl⟩
  · exact sX2_isLine_f X hx (eq00 (sX6_isLine_f W Y hx (eq00 (h _ σ _ _ R0))))
  · refine sX2_isLine_t W X hl (ne10 ?_)
    have hi := ins_le W l
    rcases ix3 x2 (n := ins σ l) (by omega) with hx | ⟨i, hi2, rfl⟩
    · have bad : pX6_isLine N (nI l) (fun r2 => (r2 = 0 → post (-1) M (-1) N) ∧ (¬ (r2 = 0) → pX6_ins N (nI l) (fun r12 => pX6_in x2 0 (r12 - 1) (fun r17 => (¬ (r17 = 0) → pX6_in x3 0 255 (fun r30 => (¬ (r30 = 0) → vp_in (30 * nI l + x2) 900 ∧ vp_in (30 * nI l + x2) 900 ∧ post (-1) M (N.1 29 (30 * nI l + x2).toNatClampNeg) (zsi N 29 (30 * nI l + x2).toNatClampNeg x3)) ∧ (r30 = 0 → post (-1) M (-2) N))) ∧ (r17 = 0 → post (-1) M (-1) N))))) :=
        sX6_isLine_t W Y hl (ne10 (sX6_ins W Y hl (sX6_in_f (hx.imp id (fun q => nI_past q (by omega))) (eq00' (h _ σ _ _ R0)))))
      refine ⟨fun _ => bad, fun q => sX2_insOf W X hl ⟨fun q2 => ?_, fun _ => bad⟩⟩
      exfalso
      rcases hx with z | z
      · exact q z
      · rw [Int32.lt_iff_toInt_lt] at q2
        rw [Int32.le_iff_toInt_le] at z
        omega
    · refine ⟨fun q => absurd q (nI_pos (by omega)), fun _ => sX2_insOf W X hl ⟨fun _ => ?_, fun q => absurd (nI_lt hi2 (by omega)) q⟩⟩
      have hs : 30 * l + i < 900 := by omega
      rcases ix3 x3 (n := 256) (by decide) with hx | ⟨f, hf, rfl⟩
      · exact sX5_isNumber_f hx (eq00' (sX6_isLine_t W Y hl (ne10 (sX6_ins W Y hl (sX6_in_t (nI_pos (by omega)) (nI_last hi2 (by omega)) (ne01 (sX6_num_f hx (eq00' (h _ σ _ _ R0)))))))))
      · refine sX5_isNumber_t hf (ne01 (sX5_slot ⟨vp_in_nI hs (by decide), vp_in_nI hs (by decide), ?_⟩))
        refine sX6_isLine_t W Y hl (ne10 (sX6_ins W Y hl (sX6_in_t (nI_pos (by omega)) (nI_last hi2 (by omega)) (ne01 (sX6_num_t hf (ne01 ?_))))))
        rw [slotM, nI_clamp (by omega)]
        refine ⟨vp_in_nI hs (by decide), vp_in_nI hs (by decide), ?_⟩
        rw [X.2.2.2.2.2.2.2.1 _ hs, Y.2.2.2.2.2.2 _ hs]
        refine h _ (σ.1, sP σ, sE σ, σ.2.2.2.1, sK σ, sB σ, sN σ, (fun k => if k = 30 * l + i then f else sA σ k)) _ _ ⟨⟨W.1, W.2.1, W.2.2.1, W.2.2.2.1, fun k => ?_, W.2.2.2.2.2⟩, ?_, ?_, A⟩
        · show (if k = 30 * l + i then f else sA σ k) < 256
          split
          · exact hf
          · exact W.2.2.2.2.1 k
        · refine ⟨X.1, X.2.1, X.2.2.1, X.2.2.2.1, X.2.2.2.2.1, X.2.2.2.2.2.1, X.2.2.2.2.2.2.1, fun k hk => ?_, X.2.2.2.2.2.2.2.2⟩
          show (if k = 30 * l + i then nI f else M.1 10 k) = nI (if k = 30 * l + i then f else sA σ k)
          rw [X.2.2.2.2.2.2.2.1 k hk]
          split <;> rfl
        · refine ⟨Y.1, Y.2.1, Y.2.2.1, Y.2.2.2.1, Y.2.2.2.2.1, Y.2.2.2.2.2.1, fun k hk => ?_⟩
          show (if k = 30 * l + i then nI f else N.1 29 k) = nI (if k = 30 * l + i then f else sA σ k)
          rw [Y.2.2.2.2.2.2 k hk]
          split <;> rfl
/-! times, inverse -/
theorem cs_times (x1 x2 : Int32) {post : Int32 → Int32 → Prop} (h : ∀ r, post r r) : pX5_times x1 x2 (fun r => pX6_times x1 x2 (fun r' => post r r')) := by
  unfold pX5_times pX6_times pX5_times_b22 pX5_times_b24 pX6_times_b30 pX6_times_b32
  rcases ix3 x1 (n := 256) (by decide) with hx | ⟨a, ha, rfl⟩
  · exact sX5_isNumber_f hx (eq00 (sX6_num_f hx (eq00 (h _))))
  · refine sX5_isNumber_t ha (ne10 ?_)
    rcases ix3 x2 (n := 256) (by decide) with hx | ⟨b, hb, rfl⟩
    · exact sX5_isNumber_f hx (eq00 (sX6_num_t ha (ne10 (sX6_num_f hx (eq00 (h _))))))
    · exact sX5_isNumber_t hb (ne10 (sX5_product ha hb (sX6_num_t ha (ne10 (sX6_num_t hb (ne10 (sX6_product ha hb (h _))))))))
theorem cs_inverse (x1 : Int32) {post : Int32 → Int32 → Prop} (h : ∀ r, post r r) : pX5_inverse x1 (fun r => pX6_inverse x1 (fun r' => post r r')) := by
  unfold pX5_inverse pX6_inverse pX5_inverse_b18 pX5_inverse_b20 pX6_inverse_b20
  rcases ix3 x1 (n := 256) (by decide) with hx | ⟨a, ha, rfl⟩
  · refine sX5_isNumber_f hx (eq00 (sX6_in_f ?_ (eq00 (h _))))
    refine (num_out hx).imp (fun q => ?_) id
    rw [Int32.lt_iff_toInt_lt] at q ⊢
    have t0 : (0 : Int32).toInt = 0 := by decide
    have t1 : (1 : Int32).toInt = 1 := by decide
    omega
  · refine sX5_isNumber_t ha (ne10 ⟨fun q => ?_, fun q => ?_⟩)
    · have : a = 0 := (nI_eq (b := 0) (by omega) (by decide)).mp q
      subst this
      exact sX6_in_f (Or.inl (by decide)) (eq00 (h _))
    · have h0 : a ≠ 0 := fun e => q (by rw [e]; rfl)
      exact sX5_inverseOf ha h0 (sX6_in_t (nI_nlt (a := a) (b := 1) (by omega) (by omega)) (nI_nlt (b := a) (a := 255) (by omega) (by omega)) (ne10 (sX6_inverseOf ha h0 (h _))))
/-! passing -/
def nzc (σ : Sg) (l k : Nat) : Nat := fb_ct (fun i => sA σ (30 * l + i) != 0) k
def pas (σ : Sg) (l : Nat) : Bool := decide (sF σ l ≠ 0 ∧ nzc σ l (ins σ l) ≤ 1)
theorem nzc_succ (σ : Sg) (l k : Nat) : nzc σ l (k + 1) = nzc σ l k + (if sA σ (30 * l + k) = 0 then 0 else 1) := by
  unfold nzc
  rw [fb_ct_succ]
  by_cases e : sA σ (30 * l + k) = 0 <;> simp [e]
theorem nzc_le (σ : Sg) (l k : Nat) : nzc σ l k ≤ k := fb_ct_le _ k
theorem sX2_isPassing {σ : Sg} {M : zM} (W : Wf σ) (X : RX σ M) {l : Nat} (hl : l < sL σ) {post : Int32 → Prop} (h : post (bI (pas σ l))) : pX2_isPassing M (nI l) post := by
  have hL := W.2.1
  have hR := W.1
  have hF := W.2.2.2.1 l hl
  have hi := ins_le W l
  unfold pX2_isPassing
  rw [nI_clamp (by omega), (X.2.2.2.2.1 l hl).1]
  refine ⟨vp_in_nI (by omega) (by decide), fun q => ?_, fun q => ⟨Or.inl rfl, ?_⟩⟩
  · have h0 : sF σ l ≠ 0 := fun e => q (by rw [e]; rfl)
    unfold pX2_isPassing_L15
    refine ⟨fun n x1 x2 x3 => ∃ k, k ≤ ins σ l ∧ n = ins σ l - k ∧ x1 = nI l ∧ x2 = nI (nzc σ l k) ∧ x3 = nI k, ⟨ins σ l, 0, by omega, rfl, rfl, rfl, rfl⟩, ?_⟩
    rintro n x1 x2 x3 ⟨k, hk, hn, rfl, rfl, rfl⟩
    unfold pX2_isPassing_b15 pX2_isPassing_b43 pX2_isPassing_b64
    have hz := nzc_le σ l k
    have e1 : (nI (ins σ l) ≤ nI k) ↔ ins σ l ≤ k := nI_leI (by omega) (by omega)
    have e2 : ((1 : Int32) < nI (nzc σ l k)) ↔ 1 < nzc σ l k := nI_ltI (a := 1) (by decide) (by omega)
    refine sX2_insOf W X hl ⟨fun q1 => ?_, fun q1 => ?_⟩
    · have hk2 : k = ins σ l := by have := e1.mp q1; omega
      subst hk2
      refine ⟨fun q2 => ⟨Or.inl rfl, ?_⟩, fun q2 => ⟨Or.inr rfl, ?_⟩⟩
      · have : pas σ l = false := decide_eq_false (fun z => by have := e2.mp q2; omega)
        rw [this] at h; exact h
      · have : pas σ l = true := decide_eq_true ⟨h0, by have : ¬ 1 < nzc σ l (ins σ l) := fun z => q2 (e2.mpr z); omega⟩
        rw [this] at h; exact h
    · have hk2 : k < ins σ l := by
        rcases Nat.lt_or_ge k (ins σ l) with z | z
        · exact z
        · exact absurd (e1.mpr z) q1
      have hs : 30 * l + k < 900 := by omega
      refine sX5_slot ⟨vp_in_nI hs (by decide), ?_⟩
      rw [nI_clamp (by omega), X.2.2.2.2.2.2.2.1 _ hs]
      have hA := W.2.2.2.2.1 (30 * l + k)
      have e3 : (nI (sA σ (30 * l + k)) = 0) ↔ sA σ (30 * l + k) = 0 := nI_eq (b := 0) (by omega) (by decide)
      refine ⟨fun q2 => sX5_asFlag0 ⟨ins σ l - (k + 1), by omega, k + 1, by omega, rfl, rfl, ?_, nI_1 k⟩, fun q2 => sX5_asFlag1 ⟨ins σ l - (k + 1), by omega, k + 1, by omega, rfl, rfl, ?_, nI_1 k⟩⟩
      · rw [nzc_succ, if_pos (e3.mp q2)]; exact nI_add _ 0
      · rw [nzc_succ, if_neg (fun z => q2 (e3.mpr z))]; exact nI_add _ 1
  · have h0 : sF σ l = 0 := (nI_eq (b := 0) (by omega) (by decide)).mp q
    have : pas σ l = false := decide_eq_false (fun z => z.1 h0)
    rw [this] at h; exact h
theorem sX6_isPassing {σ : Sg} {N : zM} (W : Wf σ) (Y : RM σ N) {l : Nat} (hl : l < sL σ) {post : Int32 → Prop} (h : post (bI (pas σ l))) : pX6_isPassing N (nI l) post := by
  have hL := W.2.1
  have hR := W.1
  have hF := W.2.2.2.1 l hl
  have hi := ins_le W l
  unfold pX6_isPassing pX6_isPassing_L4
  refine ⟨fun n x1 x2 x3 => ∃ k, k ≤ ins σ l ∧ n = ins σ l - k ∧ x1 = nI l ∧ x2 = nI (nzc σ l k) ∧ x3 = nI k, ⟨ins σ l, 0, by omega, rfl, rfl, rfl, rfl⟩, ?_⟩
  rintro n x1 x2 x3 ⟨k, hk, hn, rfl, rfl, rfl⟩
  unfold pX6_isPassing_b4 pX6_isPassing_b33 pX6_isPassing_b59 pX6_isPassing_b60
  have hz := nzc_le σ l k
  have e1 : (nI (ins σ l) ≤ nI k) ↔ ins σ l ≤ k := nI_leI (by omega) (by omega)
  have e2 : ((1 : Int32) < nI (nzc σ l k)) ↔ 1 < nzc σ l k := nI_ltI (a := 1) (by decide) (by omega)
  refine sX6_ins W Y hl ⟨fun q1 => ⟨vp_in_nI (by omega) (by decide), ?_⟩, fun q1 => ?_⟩
  · have hk2 : k = ins σ l := by have := e1.mp q1; omega
    subst hk2
    rw [nI_clamp (by omega), (Y.2.2.2.1 l hl).1]
    have e0 : (nI (sF σ l) = 0) ↔ sF σ l = 0 := nI_eq (b := 0) (by omega) (by decide)
    refine ⟨fun q => ⟨Or.inl rfl, ?_⟩, fun q => ⟨fun q2 => ⟨Or.inl rfl, ?_⟩, fun q2 => ⟨Or.inr rfl, ?_⟩⟩⟩
    · have : pas σ l = false := decide_eq_false (fun z => z.1 (e0.mp q))
      rw [this] at h; exact h
    · have : pas σ l = false := decide_eq_false (fun z => by have := e2.mp q2; omega)
      rw [this] at h; exact h
    · have : pas σ l = true := decide_eq_true ⟨fun z => q (e0.mpr z), by have : ¬ 1 < nzc σ l (ins σ l) := fun z => q2 (e2.mpr z); omega⟩
      rw [this] at h; exact h
  · have hk2 : k < ins σ l := by
      rcases Nat.lt_or_ge k (ins σ l) with z | z
      · exact z
      · exact absurd (e1.mpr z) q1
    have hs : 30 * l + k < 900 := by omega
    rw [slotM, nI_clamp (by omega), Y.2.2.2.2.2.2 _ hs]
    have hA := W.2.2.2.2.1 (30 * l + k)
    have e3 : (nI (sA σ (30 * l + k)) = 0) ↔ sA σ (30 * l + k) = 0 := nI_eq (b := 0) (by omega) (by decide)
    refine ⟨vp_in_nI hs (by decide), fun q2 => ⟨ins σ l - (k + 1), by omega, k + 1, by omega, rfl, rfl, ?_, nI_1 k⟩, fun q2 => ⟨ins σ l - (k + 1), by omega, k + 1, by omega, rfl, rfl, ?_, nI_1 k⟩⟩
    · rw [nzc_succ, if_pos (e3.mp q2)]; exact nI_add _ 0
    · rw [nzc_succ, if_neg (fun z => q2 (e3.mpr z))]; exact nI_add _ 1
