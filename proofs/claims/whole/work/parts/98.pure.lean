/-! the law's loop -/
def sg0 : Sg := ((1, 0, 1), fun _ => 0, fun _ => false, (fun _ => 0, fun _ => 0), fun _ => false, fun _ => false, fun _ => 0, fun _ => 0)
theorem Rel_0 : Rel sg0 zM0 zN0 := by
  have hL : sL sg0 = 0 := rfl
  refine ⟨⟨⟨Nat.le_refl 1, by decide⟩, by decide, ⟨Nat.le_refl 1, by decide⟩, fun l hl => absurd hl (Nat.not_lt_zero l), fun k => (by decide : (0 : Nat) < 256), fun r hr => (by cases hr), fun l hl => (by cases hl)⟩, ⟨⟨rfl, rfl, rfl⟩, fun i _ => b_0 i, fun i _ => b_0 i, fun i _ => b_0 i, fun l hl => absurd hl (Nat.not_lt_zero l), fun l _ => rfl, fun p _ => rfl, fun k _ => rfl, fun r i l _ hin => absurd hin.1 (Nat.not_lt_zero l), fun r _ => rfl, fun _ => 0, fun k hk => absurd hk (Nat.not_lt_zero k), fun i j _ hj => absurd hj (Nat.not_lt_zero j), fun i j _ hj => absurd hj (Nat.not_lt_zero j)⟩, ⟨⟨rfl, rfl, rfl⟩, fun p _ => rfl, fun r _ => rfl, fun l hl => absurd hl (Nat.not_lt_zero l), fun l _ => ⟨rfl, rfl⟩, fun l _ => rfl, fun k _ => rfl⟩, ⟨rfl, rfl⟩⟩
theorem cmp_ii {r r' : Int32} {P : Prop} (h : P) (e : r = r') : (r = r' → P) ∧ (¬ r = r' → False) := ⟨fun _ => h, fun q => q e⟩
theorem cmp_ll {r : Int64} {P : Prop} (h : P) : (lg_cmp r r = 0 → P) ∧ (¬ lg_cmp r r = 0 → False) := ⟨fun _ => h, fun q => q ((lg_cmp_eq r r).mpr rfl)⟩
theorem lc_relay {xs : Nat → Int32} {L : Nat} {ag : Int32 → zM → zM → Prop} {x3 : Int32} {σ : Sg} {M N : zM} (R : Rel σ M N) (h : ∀ σ' M' N', Rel σ' M' N' → ag (x3 + 4) M' N') : pL_b172 xs L ag x3 M N := by
  unfold pL_b172 pL_b1107
  exact cs_relay R (fun r σ' M' N' R' => cmp_ii (h σ' M' N' R') rfl)
theorem lc_line {xs : Nat → Int32} {L : Nat} {ag : Int32 → zM → zM → Prop} {x3 : Int32} {σ : Sg} {M N : zM} (R : Rel σ M N) (e1 : vp_in (x3 + (1 : Int32)) L) (e2 : vp_in (x3 + (2 : Int32)) L) (h : ∀ σ' M' N', Rel σ' M' N' → ag (x3 + 4) M' N') : pL_b185 xs L ag x3 M N := by
  unfold pL_b185 pL_b1107
  simp only [eq_true e1, eq_true e2, true_and]
  exact cs_line R _ _ (fun r σ' M' N' R' => cmp_ii (h σ' M' N' R') rfl)
theorem lc_pieces {xs : Nat → Int32} {L : Nat} {ag : Int32 → zM → zM → Prop} {x3 : Int32} {σ : Sg} {M N : zM} (R : Rel σ M N) (e1 : vp_in (x3 + (1 : Int32)) L) (h : ∀ σ' M' N', Rel σ' M' N' → ag (x3 + 4) M' N') : pL_b218 xs L ag x3 M N := by
  unfold pL_b218 pL_b1107
  simp only [eq_true e1, true_and]
  exact cs_pieces R _ (fun r σ' M' N' R' => cmp_ii (h σ' M' N' R') rfl)
theorem lc_piece {xs : Nat → Int32} {L : Nat} {ag : Int32 → zM → zM → Prop} {x3 : Int32} {σ : Sg} {M N : zM} (R : Rel σ M N) (e1 : vp_in (x3 + (1 : Int32)) L) (e2 : vp_in (x3 + (2 : Int32)) L) (e3 : vp_in (x3 + (3 : Int32)) L) (h : ∀ σ' M' N', Rel σ' M' N' → ag (x3 + 4) M' N') : pL_b241 xs L ag x3 M N := by
  unfold pL_b241 pL_b1107
  simp only [eq_true e1, eq_true e2, eq_true e3, true_and]
  exact cs_piece R _ _ (fun r σ' M' N' R' => cmp_ii (h σ' M' N' R') rfl)
theorem lc_end {xs : Nat → Int32} {L : Nat} {ag : Int32 → zM → zM → Prop} {x3 : Int32} {σ : Sg} {M N : zM} (R : Rel σ M N) (e1 : vp_in (x3 + (1 : Int32)) L) (e2 : vp_in (x3 + (2 : Int32)) L) (h : ∀ σ' M' N', Rel σ' M' N' → ag (x3 + 4) M' N') : pL_b304 xs L ag x3 M N := by
  unfold pL_b304 pL_b1107
  simp only [eq_true e1, eq_true e2, true_and]
  exact cs_end R _ _ (fun r σ' M' N' R' => cmp_ii (h σ' M' N' R') rfl)
theorem lc_factor {xs : Nat → Int32} {L : Nat} {ag : Int32 → zM → zM → Prop} {x3 : Int32} {σ : Sg} {M N : zM} (R : Rel σ M N) (e1 : vp_in (x3 + (1 : Int32)) L) (e2 : vp_in (x3 + (2 : Int32)) L) (e3 : vp_in (x3 + (3 : Int32)) L) (h : ∀ σ' M' N', Rel σ' M' N' → ag (x3 + 4) M' N') : pL_b337 xs L ag x3 M N := by
  unfold pL_b337 pL_b1107
  simp only [eq_true e1, eq_true e2, eq_true e3, true_and]
  exact cs_factor R _ _ _ (fun r σ' M' N' R' => cmp_ii (h σ' M' N' R') rfl)
theorem lc_keep {xs : Nat → Int32} {L : Nat} {ag : Int32 → zM → zM → Prop} {x3 : Int32} {σ : Sg} {M N : zM} (R : Rel σ M N) (e1 : vp_in (x3 + (1 : Int32)) L) (e2 : vp_in (x3 + (2 : Int32)) L) (h : ∀ σ' M' N', Rel σ' M' N' → ag (x3 + 4) M' N') : pL_b380 xs L ag x3 M N := by
  unfold pL_b380 pL_b1107
  simp only [eq_true e1, eq_true e2, true_and]
  exact cs_keep R _ _ (fun r σ' M' N' R' => cmp_ii (h σ' M' N' R') rfl)
theorem lc_broken {xs : Nat → Int32} {L : Nat} {ag : Int32 → zM → zM → Prop} {x3 : Int32} {σ : Sg} {M N : zM} (R : Rel σ M N) (e1 : vp_in (x3 + (1 : Int32)) L) (e2 : vp_in (x3 + (2 : Int32)) L) (h : ∀ σ' M' N', Rel σ' M' N' → ag (x3 + 4) M' N') : pL_b413 xs L ag x3 M N := by
  unfold pL_b413 pL_b1107
  simp only [eq_true e1, eq_true e2, true_and]
  exact cs_broken R _ _ (fun r σ' M' N' R' => cmp_ii (h σ' M' N' R') rfl)
theorem lc_bend {xs : Nat → Int32} {L : Nat} {ag : Int32 → zM → zM → Prop} {x3 : Int32} {σ : Sg} {M N : zM} (R : Rel σ M N) (e1 : vp_in (x3 + (1 : Int32)) L) (e2 : vp_in (x3 + (2 : Int32)) L) (e3 : vp_in (x3 + (3 : Int32)) L) (h : ∀ σ' M' N', Rel σ' M' N' → ag (x3 + 4) M' N') : pL_b446 xs L ag x3 M N := by
  unfold pL_b446 pL_b1107
  simp only [eq_true e1, eq_true e2, eq_true e3, true_and]
  exact cs_bend R _ _ (fun r σ' M' N' R' => cmp_ii (h σ' M' N' R') rfl)
theorem lc_about {xs : Nat → Int32} {L : Nat} {ag : Int32 → zM → zM → Prop} {x3 : Int32} {σ : Sg} {M N : zM} (R : Rel σ M N) (e1 : vp_in (x3 + (1 : Int32)) L) (e2 : vp_in (x3 + (2 : Int32)) L) (h : ∀ σ' M' N', Rel σ' M' N' → ag (x3 + 4) M' N') : pL_b509 xs L ag x3 M N := by
  unfold pL_b509 pL_b1107
  simp only [eq_true e1, eq_true e2, true_and]
  exact cs_about R _ _ (fun r => cmp_ii (h σ M N R) rfl)
theorem lc_times {xs : Nat → Int32} {L : Nat} {ag : Int32 → zM → zM → Prop} {x3 : Int32} {σ : Sg} {M N : zM} (R : Rel σ M N) (e1 : vp_in (x3 + (1 : Int32)) L) (e2 : vp_in (x3 + (2 : Int32)) L) (h : ∀ σ' M' N', Rel σ' M' N' → ag (x3 + 4) M' N') : pL_b542 xs L ag x3 M N := by
  unfold pL_b542 pL_b1107
  simp only [eq_true e1, eq_true e2, true_and]
  exact cs_times _ _ (fun r => cmp_ii (h σ M N R) rfl)
theorem lc_inverse {xs : Nat → Int32} {L : Nat} {ag : Int32 → zM → zM → Prop} {x3 : Int32} {σ : Sg} {M N : zM} (R : Rel σ M N) (e1 : vp_in (x3 + (1 : Int32)) L) (h : ∀ σ' M' N', Rel σ' M' N' → ag (x3 + 4) M' N') : pL_b575 xs L ag x3 M N := by
  unfold pL_b575 pL_b1107
  simp only [eq_true e1, true_and]
  exact cs_inverse _ (fun r => cmp_ii (h σ M N R) rfl)
theorem lc_flow {xs : Nat → Int32} {L : Nat} {ag : Int32 → zM → zM → Prop} {x3 : Int32} {σ : Sg} {M N : zM} (R : Rel σ M N) (e1 : vp_in (x3 + (1 : Int32)) L) (h : ∀ σ' M' N', Rel σ' M' N' → ag (x3 + 4) M' N') : pL_b598 xs L ag x3 M N := by
  unfold pL_b598 pL_b1107
  simp only [eq_true e1, true_and]
  exact cs_flow R _ (fun r σ' M' N' R' => cmp_ii (h σ' M' N' R') rfl)
theorem lc_cut {xs : Nat → Int32} {L : Nat} {ag : Int32 → zM → zM → Prop} {x3 : Int32} {σ : Sg} {M N : zM} (R : Rel σ M N) (e1 : vp_in (x3 + (1 : Int32)) L) (e2 : vp_in (x3 + (2 : Int32)) L) (h : ∀ σ' M' N', Rel σ' M' N' → ag (x3 + 4) M' N') : pL_b621 xs L ag x3 M N := by
  unfold pL_b621 pL_b1107
  simp only [eq_true e1, eq_true e2, true_and]
  exact cs_cut R _ _ (fun r σ' M' N' R' => cmp_ii (h σ' M' N' R') rfl)
theorem lc_rate {xs : Nat → Int32} {L : Nat} {ag : Int32 → zM → zM → Prop} {x3 : Int32} {σ : Sg} {M N : zM} (R : Rel σ M N) (h : ∀ σ' M' N', Rel σ' M' N' → ag (x3 + 4) M' N') : pL_b654 xs L ag x3 M N := by
  unfold pL_b654 pL_b1107
  exact cs_rate R (fun r σ' M' N' R' => cmp_ii (h σ' M' N' R') rfl)
theorem lc_vector {xs : Nat → Int32} {L : Nat} {ag : Int32 → zM → zM → Prop} {x3 : Int32} {σ : Sg} {M N : zM} (R : Rel σ M N) (e1 : vp_in (x3 + (1 : Int32)) L) (e2 : vp_in (x3 + (2 : Int32)) L) (h : ∀ σ' M' N', Rel σ' M' N' → ag (x3 + 4) M' N') : pL_b667 xs L ag x3 M N := by
  unfold pL_b667 pL_b1107
  simp only [eq_true e1, eq_true e2, true_and]
  exact cs_vector R _ _ (fun r σ' M' N' R' => cmp_ii (h σ' M' N' R') rfl)
theorem lc_carries {xs : Nat → Int32} {L : Nat} {ag : Int32 → zM → zM → Prop} {x3 : Int32} {σ : Sg} {M N : zM} (R : Rel σ M N) (e1 : vp_in (x3 + (1 : Int32)) L) (h : ∀ σ' M' N', Rel σ' M' N' → ag (x3 + 4) M' N') : pL_b700 xs L ag x3 M N := by
  unfold pL_b700 pL_b1107
  simp only [eq_true e1, true_and]
  exact cs_carries R _ (fun r σ' M' N' R' => cmp_ll (h σ' M' N' R'))
theorem lc_rank {xs : Nat → Int32} {L : Nat} {ag : Int32 → zM → zM → Prop} {x3 : Int32} {σ : Sg} {M N : zM} (R : Rel σ M N) (e1 : vp_in (x3 + (1 : Int32)) L) (h : ∀ σ' M' N', Rel σ' M' N' → ag (x3 + 4) M' N') : pL_b724 xs L ag x3 M N := by
  unfold pL_b724 pL_b1107
  simp only [eq_true e1, true_and]
  exact cs_rank R _ (fun r σ' M' N' R' => cmp_ii (h σ' M' N' R') rfl)
theorem lc_fresh {xs : Nat → Int32} {L : Nat} {ag : Int32 → zM → zM → Prop} {x3 : Int32} {σ : Sg} {M N : zM} (R : Rel σ M N) (e1 : vp_in (x3 + (1 : Int32)) L) (e2 : vp_in (x3 + (2 : Int32)) L) (h : ∀ σ' M' N', Rel σ' M' N' → ag (x3 + 4) M' N') : pL_b747 xs L ag x3 M N := by
  unfold pL_b747 pL_b1107
  simp only [eq_true e1, eq_true e2, true_and]
  exact cs_fresh R _ _ (fun r σ' M' N' R' => cmp_ii (h σ' M' N' R') rfl)
theorem lc_solves {xs : Nat → Int32} {L : Nat} {ag : Int32 → zM → zM → Prop} {x3 : Int32} {σ : Sg} {M N : zM} (R : Rel σ M N) (e1 : vp_in (x3 + (1 : Int32)) L) (e2 : vp_in (x3 + (2 : Int32)) L) (h : ∀ σ' M' N', Rel σ' M' N' → ag (x3 + 4) M' N') : pL_b780 xs L ag x3 M N := by
  unfold pL_b780 pL_b1107
  simp only [eq_true e1, eq_true e2, true_and]
  exact cs_solves R _ _ (fun r σ' M' N' R' => cmp_ii (h σ' M' N' R') rfl)
theorem lc_key {xs : Nat → Int32} {L : Nat} {ag : Int32 → zM → zM → Prop} {x3 : Int32} {σ : Sg} {M N : zM} (R : Rel σ M N) (e1 : vp_in (x3 + (1 : Int32)) L) (e2 : vp_in (x3 + (2 : Int32)) L) (e3 : vp_in (x3 + (3 : Int32)) L) (h : ∀ σ' M' N', Rel σ' M' N' → ag (x3 + 4) M' N') : pL_b813 xs L ag x3 M N := by
  unfold pL_b813 pL_b1107
  simp only [eq_true e1, eq_true e2, eq_true e3, true_and]
  exact cs_key R _ _ _ (fun r σ' M' N' R' => cmp_ii (h σ' M' N' R') rfl)
theorem lc_gets {xs : Nat → Int32} {L : Nat} {ag : Int32 → zM → zM → Prop} {x3 : Int32} {σ : Sg} {M N : zM} (R : Rel σ M N) (e1 : vp_in (x3 + (1 : Int32)) L) (e2 : vp_in (x3 + (2 : Int32)) L) (h : ∀ σ' M' N', Rel σ' M' N' → ag (x3 + 4) M' N') : pL_b856 xs L ag x3 M N := by
  unfold pL_b856 pL_b1107
  simp only [eq_true e1, eq_true e2, true_and]
  exact cs_gets R _ _ (fun r σ' M' N' R' => cmp_ll (h σ' M' N' R'))
theorem lc_lack {xs : Nat → Int32} {L : Nat} {ag : Int32 → zM → zM → Prop} {x3 : Int32} {σ : Sg} {M N : zM} (R : Rel σ M N) (e1 : vp_in (x3 + (1 : Int32)) L) (e2 : vp_in (x3 + (2 : Int32)) L) (e3 : vp_in (x3 + (3 : Int32)) L) (h : ∀ σ' M' N', Rel σ' M' N' → ag (x3 + 4) M' N') : pL_b890 xs L ag x3 M N := by
  unfold pL_b890 pL_b1107
  simp only [eq_true e1, eq_true e2, eq_true e3, true_and]
  exact cs_lack R _ _ _ (fun r σ' M' N' R' => cmp_ii (h σ' M' N' R') rfl)
theorem lc_wrong {xs : Nat → Int32} {L : Nat} {ag : Int32 → zM → zM → Prop} {x3 : Int32} {σ : Sg} {M N : zM} (R : Rel σ M N) (h : ∀ σ' M' N', Rel σ' M' N' → ag (x3 + 4) M' N') : pL_b933 xs L ag x3 M N := by
  unfold pL_b933 pL_b1107
  exact cs_wrong R (fun r σ' M' N' R' => cmp_ii (h σ' M' N' R') rfl)
theorem lc_left {xs : Nat → Int32} {L : Nat} {ag : Int32 → zM → zM → Prop} {x3 : Int32} {σ : Sg} {M N : zM} (R : Rel σ M N) (h : ∀ σ' M' N', Rel σ' M' N' → ag (x3 + 4) M' N') : pL_b946 xs L ag x3 M N := by
  unfold pL_b946 pL_b1107
  exact cs_left R (fun r σ' M' N' R' => cmp_ii (h σ' M' N' R') rfl)
theorem lc_draw {xs : Nat → Int32} {L : Nat} {ag : Int32 → zM → zM → Prop} {x3 : Int32} {σ : Sg} {M N : zM} (R : Rel σ M N) (e1 : vp_in (x3 + (1 : Int32)) L) (h : ∀ σ' M' N', Rel σ' M' N' → ag (x3 + 4) M' N') : pL_b959 xs L ag x3 M N := by
  unfold pL_b959 pL_b1107
  simp only [eq_true e1, true_and]
  exact cs_draw R _ (fun r σ' M' N' R' => cmp_ii (h σ' M' N' R') rfl)
theorem lc_find {xs : Nat → Int32} {L : Nat} {ag : Int32 → zM → zM → Prop} {x3 : Int32} {σ : Sg} {M N : zM} (R : Rel σ M N) (h : ∀ σ' M' N', Rel σ' M' N' → ag (x3 + 4) M' N') : pL_b982 xs L ag x3 M N := by
  unfold pL_b982 pL_b1107
  exact cs_find R (fun r σ' M' N' R' => cmp_ii (h σ' M' N' R') rfl)
theorem lc_leave {xs : Nat → Int32} {L : Nat} {ag : Int32 → zM → zM → Prop} {x3 : Int32} {σ : Sg} {M N : zM} (R : Rel σ M N) (h : ∀ σ' M' N', Rel σ' M' N' → ag (x3 + 4) M' N') : pL_b995 xs L ag x3 M N := by
  unfold pL_b995 pL_b1107
  exact cs_leave R (fun r σ' M' N' R' => cmp_ii (h σ' M' N' R') rfl)
theorem lc_safe {xs : Nat → Int32} {L : Nat} {ag : Int32 → zM → zM → Prop} {x3 : Int32} {σ : Sg} {M N : zM} (R : Rel σ M N) (e1 : vp_in (x3 + (1 : Int32)) L) (e2 : vp_in (x3 + (2 : Int32)) L) (h : ∀ σ' M' N', Rel σ' M' N' → ag (x3 + 4) M' N') : pL_b1008 xs L ag x3 M N := by
  unfold pL_b1008 pL_b1107
  simp only [eq_true e1, eq_true e2, true_and]
  exact cs_safe R _ _ (fun r σ' M' N' R' => cmp_ii (h σ' M' N' R') rfl)
theorem lc_breaks {xs : Nat → Int32} {L : Nat} {ag : Int32 → zM → zM → Prop} {x3 : Int32} {σ : Sg} {M N : zM} (R : Rel σ M N) (e1 : vp_in (x3 + (1 : Int32)) L) (e2 : vp_in (x3 + (2 : Int32)) L) (e3 : vp_in (x3 + (3 : Int32)) L) (h : ∀ σ' M' N', Rel σ' M' N' → ag (x3 + 4) M' N') : pL_b1041 xs L ag x3 M N := by
  unfold pL_b1041 pL_b1107
  simp only [eq_true e1, eq_true e2, eq_true e3, true_and]
  exact cs_breaks R _ _ _ (fun r σ' M' N' R' => cmp_ii (h σ' M' N' R') rfl)
theorem lc_count {xs : Nat → Int32} {L : Nat} {ag : Int32 → zM → zM → Prop} {x3 : Int32} {σ : Sg} {M N : zM} (R : Rel σ M N) (e1 : vp_in (x3 + (1 : Int32)) L) (h : ∀ σ' M' N', Rel σ' M' N' → ag (x3 + 4) M' N') : pL_b1084 xs L ag x3 M N := by
  unfold pL_b1084 pL_b1107
  simp only [eq_true e1, true_and]
  exact cs_count R _ (fun r => cmp_ii (h σ M N R) rfl)
set_option maxRecDepth 100000 in
theorem pure_law (xs : Nat → Int32) (L : Nat) (hL : L ≤ 2048) : pL_L18 xs L 0 zM0 zN0 := by
  unfold pL_L18
  refine ⟨fun n x3 M N => ∃ j σ, 4 * j ≤ L ∧ n = L - 4 * j ∧ x3 = nI (4 * j) ∧ Rel σ M N, ⟨L, 0, sg0, by omega, rfl, rfl, Rel_0⟩, ?_⟩
  rintro n x3 M N ⟨j, σ, hj, hn, rfl, R⟩
  unfold pL_b18
  refine ⟨fun _ => trivial, fun q => ?_⟩
  have hj4 : 4 * j + 4 ≤ L := by
    rw [Int32.lt_iff_toInt_lt, show (Int32.ofNat L - (4 : Int32)).toInt = (L : Int) - 4 from pk_sub_toInt (a := L) (b := 4) (by omega) (by omega), nI_toInt (by omega)] at q
    omega
  have e0 : vp_in (nI (4 * j)) L := vp_in_nI (by omega) (by omega)
  have e1 : vp_in (nI (4 * j) + (1 : Int32)) L := by rw [show nI (4 * j) + (1 : Int32) = nI (4 * j + 1) from nI_add _ 1]; exact vp_in_nI (by omega) (by omega)
  have e2 : vp_in (nI (4 * j) + (2 : Int32)) L := by rw [show nI (4 * j) + (2 : Int32) = nI (4 * j + 2) from nI_add _ 2]; exact vp_in_nI (by omega) (by omega)
  have e3 : vp_in (nI (4 * j) + (3 : Int32)) L := by rw [show nI (4 * j) + (3 : Int32) = nI (4 * j + 3) from nI_add _ 3]; exact vp_in_nI (by omega) (by omega)
  have go : ∀ σ' M' N', Rel σ' M' N' → (fun x3 M N => ∃ k, k < n ∧ ∃ j σ, 4 * j ≤ L ∧ k = L - 4 * j ∧ x3 = nI (4 * j) ∧ Rel σ M N) (nI (4 * j) + 4) M' N' := fun σ' M' N' R' =>
    ⟨L - 4 * (j + 1), by omega, j + 1, σ', by omega, rfl, nI_add (4 * j) 4, R'⟩
  refine ⟨e0, fun _ => lc_relay R go, fun _ => lc_line R e1 e2 go, fun _ => lc_pieces R e1 go, fun _ => lc_piece R e1 e2 e3 go, fun _ => lc_end R e1 e2 go, fun _ => lc_factor R e1 e2 e3 go, fun _ => lc_keep R e1 e2 go, fun _ => lc_broken R e1 e2 go, fun _ => lc_bend R e1 e2 e3 go, fun _ => lc_about R e1 e2 go, fun _ => lc_times R e1 e2 go, fun _ => lc_inverse R e1 go, fun _ => lc_flow R e1 go, fun _ => lc_cut R e1 e2 go, fun _ => lc_rate R go, fun _ => lc_vector R e1 e2 go, fun _ => lc_carries R e1 go, fun _ => lc_rank R e1 go, fun _ => lc_fresh R e1 e2 go, fun _ => lc_solves R e1 e2 go, fun _ => lc_key R e1 e2 e3 go, fun _ => lc_gets R e1 e2 go, fun _ => lc_lack R e1 e2 e3 go, fun _ => lc_wrong R go, fun _ => lc_left R go, fun _ => lc_draw R e1 go, fun _ => lc_find R go, fun _ => lc_leave R go, fun _ => lc_safe R e1 e2 go, fun _ => lc_breaks R e1 e2 e3 go, fun _ => lc_count R e1 go, fun _ _ _ _ _ _ _ _ _ _ _ _ _ _ _ _ _ _ _ _ _ _ _ _ _ _ _ _ _ _ _ => go σ M N R⟩
