/-! the methods that tell and ask of single things: class and model answer alike, and stand for one state again -/
def Rel (σ : Sg) (M N : zM) : Prop := Wf σ ∧ RX σ M ∧ RM σ N ∧ Al N (-1) (-1)
theorem b_1 (j : Nat) : bt 1 j = decide (j = 0) := by
  rcases Nat.lt_or_ge j 32 with h | h
  · have : ∀ j, j < 32 → bt 1 j = decide (j = 0) := by decide +kernel
    exact this j h
  · rw [b_big h]; simp; omega
theorem flag_eq (s : Int32) {m : Nat} (hm : m < 32) : ((s.toUInt32 >>> ((nI m).toUInt32 &&& Int32.toUInt32 31)).toInt32 &&& (1 : Int32)) = bI (bt s m) := by
  apply b_ext
  intro i hi
  rw [b_and, b_ushr m hm, b_1]
  by_cases e : i = 0
  · subst e
    rw [Nat.add_zero]
    cases bt s m with
    | false => rw [bI_f, b_0]; rfl
    | true => rw [bI_t, b_1]; rfl
  · rw [decide_eq_false e, Bool.and_false]
    cases bt s m with
    | false => rw [bI_f, b_0]
    | true => rw [bI_t, b_1, decide_eq_false e]
theorem sX5_flag {s : Int32} {m : Nat} (hm : m < 32) {post : Int32 → Prop} (h : post (bI (bt s m))) : pX5_flag s (nI m) post := by
  unfold pX5_flag
  rw [flag_eq s hm]
  exact h
theorem withFlag_bt (s : Int32) {m : Nat} (hm : m < 32) (v : Bool) {i : Nat} (hi : i < 32) : bt ((s &&& (((1 : Int32) <<< (nI m &&& 31)) ^^^ (-1 : Int32))) ||| (bI v <<< (nI m &&& 31))) i = if i = m then v else bt s i := by
  rw [b_or, b_and, b_xor, b_shl m hm _ hi, b_shl m hm _ hi, b_1, b_m1 i hi]
  by_cases e : i = m
  · subst e
    rw [if_pos rfl, Nat.sub_self]
    cases v with
    | false => rw [bI_f, b_0]; simp
    | true => rw [bI_t, b_1]; simp
  · rw [if_neg e]
    rcases Nat.lt_or_ge i m with q | q
    · simp [Nat.not_le.mpr q]
    · have hz : i - m ≠ 0 := by omega
      cases v with
      | false => rw [bI_f, b_0]; simp [hz]
      | true => rw [bI_t, b_1]; simp [hz]
theorem sX5_withFlag {s : Int32} {m : Nat} (hm : m < 32) {v : Bool} {post : Int32 → Prop} (h : ∀ t, (∀ i, i < 32 → bt t i = if i = m then v else bt s i) → post t) : pX5_withFlag s (nI m) (bI v) post := by
  unfold pX5_withFlag
  exact h _ (fun i hi => withFlag_bt s hm v hi)
theorem sX5_asFlag {b : Bool} {post : Int32 → Prop} (h : post (bI b)) : pX5_asFlag (bI b) post := by
  unfold pX5_asFlag pX5_asFlag_b9
  cases b
  · exact ⟨fun _ => h, fun q => absurd rfl q⟩
  · exact ⟨fun q => absurd q (by decide), fun _ => h⟩
theorem sX5_asFlag0 {post : Int32 → Prop} (h : post 0) : pX5_asFlag 0 post := sX5_asFlag (b := false) h
theorem sX5_asFlag1 {post : Int32 → Prop} (h : post 1) : pX5_asFlag 1 post := sX5_asFlag (b := true) h
theorem sX5_isFlag_t {v : Bool} {post : Int32 → Prop} (h : post 1) : pX5_isFlag (bI v) post := by
  unfold pX5_isFlag pX5_isFlag_b9 pX5_isFlag_b14
  exact ⟨fun _ => ⟨Or.inr rfl, h⟩, fun q => ⟨fun q2 => absurd (bI_01 v) (fun z => z.elim q q2), fun _ => ⟨Or.inr rfl, h⟩⟩⟩
theorem sX5_isFlag_f {x : Int32} (h0 : x ≠ 0) (h1 : x ≠ 1) {post : Int32 → Prop} (h : post 0) : pX5_isFlag x post := by
  unfold pX5_isFlag pX5_isFlag_b9 pX5_isFlag_b14
  exact ⟨fun q => absurd q h0, fun _ => ⟨fun _ => ⟨Or.inl rfl, h⟩, fun q => absurd q h1⟩⟩
theorem flag3 (x : Int32) : (x ≠ 0 ∧ x ≠ 1) ∨ ∃ v : Bool, x = bI v := by
  by_cases h : x = 0
  · exact Or.inr ⟨false, h⟩
  · by_cases h1 : x = 1
    · exact Or.inr ⟨true, h1⟩
    · exact Or.inl ⟨h, h1⟩
theorem sX6_in01_t {v : Bool} {post : Int32 → Prop} (h : post 1) : pX6_in (bI v) 0 1 post := by
  cases v
  · exact sX6_in_t (by decide) (by decide) h
  · exact sX6_in_t (by decide) (by decide) h
theorem sX6_in01_f {x : Int32} (h0 : x ≠ 0) (h1 : x ≠ 1) {post : Int32 → Prop} (h : post 0) : pX6_in x 0 1 post := by
  refine sX6_in_f ?_ h
  rcases ix3 x (n := 2) (by decide) with (q | q) | ⟨j, hj, rfl⟩
  · exact Or.inl q
  · refine Or.inr ?_
    rw [Int32.lt_iff_toInt_lt]
    rw [Int32.le_iff_toInt_le, nI_toInt (by decide)] at q
    have : (1 : Int32).toInt = 1 := by decide
    omega
  · exfalso
    rcases (show j = 0 ∨ j = 1 by omega) with rfl | rfl
    · exact h0 rfl
    · exact h1 rfl
theorem sX5_isNumber_t {f : Nat} (hf : f < 256) {post : Int32 → Prop} (h : post 1) : pX5_isNumber (nI f) post := by
  unfold pX5_isNumber pX5_isNumber_b15 pX5_isNumber_b16
  exact ⟨fun q => absurd q (nI_pos (by omega)), fun _ => ⟨fun q => absurd q (nI_nlt (b := f) (a := 255) (by omega) (by omega)), fun _ => ⟨Or.inr rfl, h⟩⟩⟩
theorem num_out {x : Int32} (hx : x < 0 ∨ nI 256 ≤ x) : x < 0 ∨ (255 : Int32) < x := by
  refine hx.imp id (fun q => ?_)
  rw [Int32.lt_iff_toInt_lt]
  rw [Int32.le_iff_toInt_le, nI_toInt (by decide)] at q
  have : (255 : Int32).toInt = 255 := by decide
  omega
theorem sX5_isNumber_f {x : Int32} (hx : x < 0 ∨ nI 256 ≤ x) {post : Int32 → Prop} (h : post 0) : pX5_isNumber x post := by
  unfold pX5_isNumber pX5_isNumber_b15 pX5_isNumber_b16
  exact ⟨fun _ => ⟨Or.inl rfl, h⟩, fun q => ⟨fun _ => ⟨Or.inl rfl, h⟩, fun q2 => absurd (num_out hx) (fun z => z.elim q q2)⟩⟩
theorem sX6_num_t {f : Nat} (hf : f < 256) {post : Int32 → Prop} (h : post 1) : pX6_in (nI f) 0 255 post := sX6_in_t (nI_pos (by omega)) (nI_nlt (b := f) (a := 255) (by omega) (by omega)) h
theorem sX6_num_f {x : Int32} (hx : x < 0 ∨ nI 256 ≤ x) {post : Int32 → Prop} (h : post 0) : pX6_in x 0 255 post := sX6_in_f (num_out hx) h
/-! relay -/
theorem cs_relay {σ : Sg} {M N : zM} (R : Rel σ M N) {post : Int32 → zM → Int32 → zM → Prop} (h : ∀ r σ' M' N', Rel σ' M' N' → post r M' r N') : pX5_relay M (fun r M1 => pX6_relay N (fun r' N1 => post r M1 r' N1)) := by
  have R0 := R
  obtain ⟨W, X, Y, A⟩ := R
  have hR := W.1
  have e1 : (nI (sR σ) < (12 : Int32)) ↔ sR σ < 12 := nI_ltI (b := 12) (by omega) (by decide)
  have e2 : (nI (sR σ) = (12 : Int32)) ↔ sR σ = 12 := nI_eq (b := 12) (by omega) (by decide)
  unfold pX5_relay pX6_relay
  rw [X.1.1, Y.1.1]
  refine ⟨fun q => ⟨fun _ => ?_, fun q2 => ?_⟩, fun q => ⟨fun q2 => ?_, fun _ => h _ σ _ _ R0⟩⟩
  · have hlt := e1.mp q
    refine h (nI (sR σ) + 1 - 1) ((sR σ + 1, sL σ, sH σ), σ.2) _ _ ⟨?_, ?_, ?_, A⟩
    · refine ⟨⟨by show 1 ≤ sR σ + 1; omega, by show sR σ + 1 ≤ 12; omega⟩, W.2.1, W.2.2.1, fun l hl => ⟨(W.2.2.2.1 l hl).1, ?_⟩, W.2.2.2.2.1, fun r hr => ⟨(W.2.2.2.2.2.1 r hr).1, ?_⟩, W.2.2.2.2.2.2⟩
      · show sT σ l < sR σ + 1
        have := (W.2.2.2.1 l hl).2
        omega
      · show r < sR σ + 1
        have := (W.2.2.2.2.2.1 r hr).2
        omega
    · exact ⟨⟨nI_1 _, X.1.2.1, X.1.2.2⟩, X.2⟩
    · exact ⟨⟨nI_1 _, Y.1.2.1, Y.1.2.2⟩, Y.2⟩
  · have := e1.mp q
    have := e2.mp q2
    omega
  · exfalso
    exact q (e1.mpr (by have : sR σ ≠ 12 := fun z => q2 (e2.mpr z); omega))
/-! piece -/
theorem cs_piece {σ : Sg} {M N : zM} (R : Rel σ M N) (x1 : Int32) (x2 : Int64) {post : Int32 → zM → Int32 → zM → Prop} (h : ∀ r σ' M' N', Rel σ' M' N' → post r M' r N') : pX5_piece M x1 x2 (fun r M1 => pX6_piece N x1 x2 (fun r' N1 => post r M1 r' N1)) := by
  have R0 := R
  obtain ⟨W, X, Y, A⟩ := R
  have hH := W.2.2.1
  unfold pX5_piece pX6_piece
  rcases ix3 x1 (n := sH σ) (by omega) with hx | ⟨p, hp, rfl⟩
  · refine sX2_isPiece_f X hx ⟨fun q => absurd rfl q, fun _ => sX6_isPiece_f W Y hx ⟨fun q => absurd rfl q, fun _ => h _ σ _ _ R0⟩⟩
  · refine sX2_isPiece_t W X hp ⟨fun _ => ⟨vp_in_nI (by omega) (by omega), sX6_isPiece_t W Y hp ⟨fun _ => ⟨vp_in_nI (by omega) (by omega), ?_⟩, fun q => by cases q⟩⟩, fun q => by cases q⟩
    rw [nI_clamp (by omega)]
    refine h 0 (σ.1, (fun k => if k = p then x2 else sP σ k), σ.2.2) _ _ ⟨W, ?_, ?_, A⟩
    · refine ⟨X.1, X.2.1, X.2.2.1, X.2.2.2.1, X.2.2.2.2.1, X.2.2.2.2.2.1, fun k hk => ?_, X.2.2.2.2.2.2.2⟩
      show (if k = p then x2 else M.2 9 k) = if k = p then x2 else sP σ k
      rw [X.2.2.2.2.2.2.1 k hk]
    · refine ⟨Y.1, fun k hk => ?_, Y.2.2⟩
      show (if k = p then x2 else N.2 22 k) = if k = p then x2 else sP σ k
      rw [Y.2.1 k hk]
/-! pieces -/
def filJ (v : Int64) (f : Nat → Int64) (n : Nat) : Nat → Int64 := fun p => if p < n then v else f p
theorem filJ_succ (v : Int64) (f : Nat → Int64) (n : Nat) : vp_updL (filJ v f n) n v = filJ v f (n + 1) := by
  funext p
  unfold vp_updL filJ
  by_cases e : p = n
  · subst e; rw [if_pos rfl, if_pos (by omega)]
  · rw [if_neg e]
    by_cases e2 : p < n
    · rw [if_pos e2, if_pos (by omega)]
    · rw [if_neg e2, if_neg (by omega)]
theorem zrj_self (M : zM) (c : Nat) : zrj M c (M.2 c) = M := by
  unfold zrj
  refine Prod.ext rfl ?_
  funext a
  by_cases e : a = c
  · subst e; simp
  · simp [e]
theorem zsj_zrj (M : zM) (c k : Nat) (f : Nat → Int64) (v : Int64) : zsj (zrj M c f) c k v = zrj M c (vp_updL f k v) := by
  unfold zsj zrj
  refine Prod.ext rfl ?_
  funext a
  by_cases e : a = c
  · subst e; simp
  · simp [e]
theorem sJ7_fill9 {M : zM} {v : Int64} {post : zM → Prop} (h : post (zrj M 9 (filJ v (M.2 9) 4))) : pJ7_fill_d0a16_9 M v post := by
  unfold pJ7_fill_d0a16_9 pJ7_fill_d0a16_9_L6
  refine ⟨fun n x1 x3 x4 M1 => ∃ k, k ≤ 4 ∧ n = 4 - k ∧ x1 = v ∧ x3 = nI k ∧ x4 = 4 ∧ M1 = zrj M 9 (filJ v (M.2 9) k), ⟨4, 0, by omega, rfl, rfl, rfl, rfl, ?_⟩, ?_⟩
  · have : filJ v (M.2 9) 0 = M.2 9 := by funext p; unfold filJ; rw [if_neg (by omega)]
    rw [this, zrj_self]
  · rintro n x1 x3 x4 M1 ⟨k, hk, hn, rfl, rfl, rfl, rfl⟩
    unfold pJ7_fill_d0a16_9_b6
    have e4 : ((4 : Int32) ≤ nI k) ↔ 4 ≤ k := nI_leI (a := 4) (by decide) (by omega)
    refine ⟨fun q => ?_, fun q => ?_⟩
    · have : k = 4 := by have := e4.mp q; omega
      subst this; exact h
    · have hk4 : k < 4 := by
        rcases Nat.lt_or_ge k 4 with z | z
        · exact z
        · exact absurd (e4.mpr z) q
      refine ⟨vp_in_nI hk4 (by decide), 4 - (k + 1), by omega, k + 1, by omega, rfl, rfl, nI_1 k, rfl, ?_⟩
      rw [nI_clamp (by omega), zsj_zrj, filJ_succ]
theorem sX6_piecesL {N : zM} {w : Int32} {post : Int32 → zM → Prop} (h : post w (zrj N 22 (filJ 0 (N.2 22) 4))) : pX6_pieces_L34 post w 0 N := by
  unfold pX6_pieces_L34
  refine ⟨fun n x2 x3 M1 => ∃ k, k ≤ 4 ∧ n = 4 - k ∧ x2 = w ∧ x3 = nI k ∧ M1 = zrj N 22 (filJ 0 (N.2 22) k), ⟨4, 0, by omega, rfl, rfl, rfl, ?_⟩, ?_⟩
  · have : filJ 0 (N.2 22) 0 = N.2 22 := by funext p; unfold filJ; rw [if_neg (by omega)]
    rw [this, zrj_self]
  · rintro n x2 x3 M1 ⟨k, hk, hn, rfl, rfl, rfl⟩
    unfold pX6_pieces_b34
    have e4 : ((4 : Int32) ≤ nI k) ↔ 4 ≤ k := nI_leI (a := 4) (by decide) (by omega)
    refine ⟨fun q => ?_, fun q => ?_⟩
    · have : k = 4 := by have := e4.mp q; omega
      subst this; exact h
    · have hk4 : k < 4 := by
        rcases Nat.lt_or_ge k 4 with z | z
        · exact z
        · exact absurd (e4.mpr z) q
      refine ⟨vp_in_nI hk4 (by decide), 4 - (k + 1), by omega, k + 1, by omega, rfl, rfl, nI_1 k, ?_⟩
      rw [nI_clamp (by omega), zsj_zrj, filJ_succ]
theorem cs_pieces {σ : Sg} {M N : zM} (R : Rel σ M N) (x1 : Int32) {post : Int32 → zM → Int32 → zM → Prop} (h : ∀ r σ' M' N', Rel σ' M' N' → post r M' r N') : pX5_pieces M x1 (fun r M1 => pX6_pieces N x1 (fun r' N1 => post r M1 r' N1)) := by
  have R0 := R
  obtain ⟨W, X, Y, A⟩ := R
  have hL := W.2.1
  have hH := W.2.2.1
  unfold pX5_pieces pX6_pieces pX5_pieces_b10
  have e0 : (nI (sL σ) ≤ 0) ↔ sL σ ≤ 0 := nI_leI (b := 0) (by omega) (by decide)
  have t1 : (1 : Int32).toInt = 1 := by decide
  have t4 : (4 : Int32).toInt = 4 := by decide
  by_cases hin : x1 < 1 ∨ 4 < x1
  · have bad : pX6_in x1 1 4 (fun r3 => (¬ (r3 = 0) → ((N.1 21 2) ≤ 0 → pX6_pieces_L34 (fun r' N1 => post (-2) M r' N1) (N.1 21 3) 0 (zsi N 21 3 x1)) ∧ (¬ ((N.1 21 2) ≤ 0) → post (-2) M (-3) N)) ∧ (r3 = 0 → post (-2) M (-2) N)) := sX6_in_f hin ⟨fun q => absurd rfl q, fun _ => h _ σ _ _ R0⟩
    refine ⟨fun _ => bad, fun q => ⟨fun q2 => ?_, fun _ => bad⟩⟩
    exfalso
    rcases hin with z | z
    · exact q z
    · rw [Int32.lt_iff_toInt_lt] at z
      rw [Int32.le_iff_toInt_le] at q2
      omega
  · have h1 : ¬ x1 < 1 := fun z => hin (Or.inl z)
    have h2 : ¬ 4 < x1 := fun z => hin (Or.inr z)
    have h1' : 1 ≤ x1.toInt := by rw [Int32.lt_iff_toInt_lt] at h1; omega
    have h2' : x1.toInt ≤ 4 := by rw [Int32.lt_iff_toInt_lt] at h2; omega
    have t0 : (0 : Int32).toInt = 0 := by decide
    obtain ⟨j, hj, rfl⟩ : ∃ j, j < 2 ^ 31 ∧ x1 = nI j := nI_of (by rw [Int32.lt_iff_toInt_lt]; omega)
    rw [nI_toInt hj] at h1' h2'
    refine ⟨fun q => absurd q h1, fun _ => ⟨fun _ => ?_, fun q => absurd (by rw [Int32.le_iff_toInt_le, nI_toInt hj]; omega) q⟩⟩
    rw [X.1.2.1, X.1.2.2, Y.1.2.1, Y.1.2.2]
    refine ⟨fun q => ?_, fun q => sX6_in_t h1 h2 ⟨fun _ => ⟨fun q2 => absurd q2 q, fun _ => h _ σ _ _ R0⟩, fun q2 => by cases q2⟩⟩
    refine sJ7_fill9 (sX6_in_t h1 h2 ⟨fun _ => ⟨fun _ => ?_, fun q2 => absurd q q2⟩, fun q2 => by cases q2⟩)
    refine sX6_piecesL ?_
    refine h (nI (sH σ)) ((sR σ, sL σ, j), (fun _ => 0), σ.2.2) _ _ ⟨⟨W.1, W.2.1, ⟨by show 1 ≤ j; omega, by show j ≤ 4; omega⟩, W.2.2.2⟩, ?_, ?_, A⟩
    · refine ⟨⟨X.1.1, X.1.2.1, rfl⟩, X.2.1, X.2.2.1, X.2.2.2.1, X.2.2.2.2.1, X.2.2.2.2.2.1, fun k hk => ?_, X.2.2.2.2.2.2.2⟩
      show filJ 0 _ 4 k = 0
      unfold filJ
      rw [if_pos hk]
    · refine ⟨⟨Y.1.1, Y.1.2.1, rfl⟩, fun k hk => ?_, Y.2.2⟩
      show filJ 0 _ 4 k = 0
      unfold filJ
      rw [if_pos hk]
