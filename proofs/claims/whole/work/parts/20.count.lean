/-! counting bits -/
theorem and8 {a m : Nat} (b k : Nat) (ha : a < 256) (hm : m < 256) : (2 ^ 8 * b + a) &&& (2 ^ 8 * k + m) = 2 ^ 8 * (b &&& k) + (a &&& m) := by
  apply Nat.eq_of_testBit_eq
  intro j
  have hx : a &&& m < 2 ^ 8 := Nat.and_lt_two_pow _ hm
  rw [Nat.testBit_and, Nat.testBit_two_pow_mul_add b ha, Nat.testBit_two_pow_mul_add k hm, Nat.testBit_two_pow_mul_add _ hx]
  split
  · rw [Nat.testBit_and]
  · rw [Nat.testBit_and]
def d4 (a b c d : Nat) : Nat := 2 ^ 8 * (2 ^ 8 * (2 ^ 8 * d + c) + b) + a
theorem and32 {a b c a' b' c' : Nat} (d d' : Nat) (ha : a < 256) (hb : b < 256) (hc : c < 256) (ha' : a' < 256) (hb' : b' < 256) (hc' : c' < 256) : d4 a b c d &&& d4 a' b' c' d' = d4 (a &&& a') (b &&& b') (c &&& c') (d &&& d') := by
  unfold d4
  rw [and8 _ _ ha ha', and8 _ _ hb hb', and8 _ _ hc hc']
def bc1 (d : Nat) : Nat := d - ((d / 2) &&& 85)
def bc2 (d : Nat) : Nat := (bc1 d &&& 51) + ((bc1 d / 4) &&& 51)
def bc3 (d : Nat) : Nat := (bc2 d % 16) + (bc2 d / 16)
set_option maxRecDepth 100000 in
theorem bc_chk1 : gAll 256 (fun d => gAll 2 (fun c => Nat.beq ((d / 2 + 128 * c) &&& 85) ((d / 2) &&& 85)) && Nat.ble ((d / 2) &&& 85) d) = true := by decide +kernel
set_option maxRecDepth 100000 in
theorem bc_chk2 : gAll 256 (fun d => gAll 4 (fun c => Nat.beq ((bc1 d / 4 + 64 * c) &&& 51) ((bc1 d / 4) &&& 51)) && Nat.ble (bc1 d) 255) = true := by decide +kernel
set_option maxRecDepth 100000 in
theorem bc_chk3 : gAll 256 (fun d => (Nat.ble (bc2 d % 16) 4 && Nat.ble (bc2 d / 16) 4) && (Nat.beq (bc3 d) (fb_ct (fun j => d.testBit j) 8) && Nat.ble (bc3 d) 8)) = true := by decide +kernel
theorem bc_1 {d c : Nat} (hd : d < 256) (hc : c < 2) : (d / 2 + 128 * c) &&& 85 = (d / 2) &&& 85 ∧ (d / 2) &&& 85 ≤ d := by
  have := gAll_spec _ _ bc_chk1 d hd
  simp only [Bool.and_eq_true] at this
  exact ⟨Nat.eq_of_beq_eq_true (gAll_spec _ _ this.1 c hc), Nat.le_of_ble_eq_true this.2⟩
theorem bc_2 {d c : Nat} (hd : d < 256) (hc : c < 4) : (bc1 d / 4 + 64 * c) &&& 51 = (bc1 d / 4) &&& 51 ∧ bc1 d < 256 := by
  have := gAll_spec _ _ bc_chk2 d hd
  simp only [Bool.and_eq_true] at this
  exact ⟨Nat.eq_of_beq_eq_true (gAll_spec _ _ this.1 c hc), Nat.lt_succ_of_le (Nat.le_of_ble_eq_true this.2)⟩
theorem bc_3 {d : Nat} (hd : d < 256) : bc2 d % 16 ≤ 4 ∧ bc2 d / 16 ≤ 4 ∧ bc3 d = fb_ct (fun j => d.testBit j) 8 ∧ bc3 d ≤ 8 := by
  have := gAll_spec _ _ bc_chk3 d hd
  simp only [Bool.and_eq_true] at this
  exact ⟨Nat.le_of_ble_eq_true this.1.1, Nat.le_of_ble_eq_true this.1.2, Nat.eq_of_beq_eq_true this.2.1, Nat.le_of_ble_eq_true this.2.2⟩
theorem and15 (n : Nat) : n &&& 15 = n % 16 := Nat.and_two_pow_sub_one_eq_mod n 4
theorem sJ6_bitCount {n : Nat} (hn : n < 2 ^ 32) {post : Int32 → Prop} (h : post (nI (fb_ct (fun i => n.testBit i) 32))) : pJ6_bitCount_0f7a4 (nI n) post := by
  obtain ⟨a, b, c, d, ha, hb, hc, hd, rfl⟩ : ∃ a b c d, a < 256 ∧ b < 256 ∧ c < 256 ∧ d < 256 ∧ n = d4 a b c d := ⟨n % 256, n / 256 % 256, n / 65536 % 256, n / 16777216, by omega, by omega, by omega, by omega, by unfold d4; omega⟩
  unfold pJ6_bitCount_0f7a4
  have k1 := bc_1 (c := b % 2) ha (by omega)
  have k2 := bc_1 (c := c % 2) hb (by omega)
  have k3 := bc_1 (c := d % 2) hc (by omega)
  have k4 := bc_1 (c := 0) hd (by omega)
  have l1 := bc_2 (c := bc1 b % 4) ha (by omega)
  have l2 := bc_2 (c := bc1 c % 4) hb (by omega)
  have l3 := bc_2 (c := bc1 d % 4) hc (by omega)
  have l4 := bc_2 (c := 0) hd (by omega)
  have m1 := bc_3 ha
  have m2 := bc_3 hb
  have m3 := bc_3 hc
  have m4 := bc_3 hd
  have e1 : ((nI (d4 a b c d)).toUInt32 >>> (((1 : Int32)).toUInt32 &&& Int32.toUInt32 31)).toInt32 = nI (d4 (a / 2 + 128 * (b % 2)) (b / 2 + 128 * (c % 2)) (c / 2 + 128 * (d % 2)) (d / 2)) := by
    rw [pk_ushrN hn 1 1 (by decide)]
    congr 1
    unfold d4
    omega
  have e2 : nI (d4 (a / 2 + 128 * (b % 2)) (b / 2 + 128 * (c % 2)) (c / 2 + 128 * (d % 2)) (d / 2)) &&& (1431655765 : Int32) = nI (d4 ((a / 2) &&& 85) ((b / 2) &&& 85) ((c / 2) &&& 85) ((d / 2) &&& 85)) := by
    rw [show (1431655765 : Int32) = nI (d4 85 85 85 85) from rfl, fa_and, and32 _ _ (by omega) (by omega) (by omega) (by decide) (by decide) (by decide), k1.1, k2.1, k3.1]
  have e3 : nI (d4 a b c d) - nI (d4 ((a / 2) &&& 85) ((b / 2) &&& 85) ((c / 2) &&& 85) ((d / 2) &&& 85)) = nI (d4 (bc1 a) (bc1 b) (bc1 c) (bc1 d)) := by
    rw [pk_sub (by unfold d4; omega)]
    congr 1
    unfold d4 bc1
    omega
  rw [e1, e2, e3]
  have hx1 : d4 (bc1 a) (bc1 b) (bc1 c) (bc1 d) < 2 ^ 32 := by unfold d4; omega
  have e4 : ((nI (d4 (bc1 a) (bc1 b) (bc1 c) (bc1 d))).toUInt32 >>> (((2 : Int32)).toUInt32 &&& Int32.toUInt32 31)).toInt32 = nI (d4 (bc1 a / 4 + 64 * (bc1 b % 4)) (bc1 b / 4 + 64 * (bc1 c % 4)) (bc1 c / 4 + 64 * (bc1 d % 4)) (bc1 d / 4)) := by
    rw [pk_ushrN hx1 2 2 (by decide)]
    congr 1
    unfold d4
    omega
  have e5 : nI (d4 (bc1 a / 4 + 64 * (bc1 b % 4)) (bc1 b / 4 + 64 * (bc1 c % 4)) (bc1 c / 4 + 64 * (bc1 d % 4)) (bc1 d / 4)) &&& (858993459 : Int32) = nI (d4 ((bc1 a / 4) &&& 51) ((bc1 b / 4) &&& 51) ((bc1 c / 4) &&& 51) ((bc1 d / 4) &&& 51)) := by
    rw [show (858993459 : Int32) = nI (d4 51 51 51 51) from rfl, fa_and, and32 _ _ (by omega) (by omega) (by omega) (by decide) (by decide) (by decide), l1.1, l2.1, l3.1]
  have e6 : nI (d4 (bc1 a) (bc1 b) (bc1 c) (bc1 d)) &&& (858993459 : Int32) = nI (d4 (bc1 a &&& 51) (bc1 b &&& 51) (bc1 c &&& 51) (bc1 d &&& 51)) := by
    rw [show (858993459 : Int32) = nI (d4 51 51 51 51) from rfl, fa_and, and32 _ _ l1.2 l2.2 l3.2 (by decide) (by decide) (by decide)]
  have e7 : nI (d4 (bc1 a &&& 51) (bc1 b &&& 51) (bc1 c &&& 51) (bc1 d &&& 51)) + nI (d4 ((bc1 a / 4) &&& 51) ((bc1 b / 4) &&& 51) ((bc1 c / 4) &&& 51) ((bc1 d / 4) &&& 51)) = nI (d4 (bc2 a) (bc2 b) (bc2 c) (bc2 d)) := by
    rw [nI_add]
    congr 1
    unfold d4 bc2
    omega
  rw [e4, e5, e6, e7]
  have hx2 : d4 (bc2 a) (bc2 b) (bc2 c) (bc2 d) < 2 ^ 32 := by unfold d4; omega
  have e8 : ((nI (d4 (bc2 a) (bc2 b) (bc2 c) (bc2 d))).toUInt32 >>> (((4 : Int32)).toUInt32 &&& Int32.toUInt32 31)).toInt32 = nI (d4 (bc2 a / 16 + 16 * (bc2 b % 16)) (bc2 b / 16 + 16 * (bc2 c % 16)) (bc2 c / 16 + 16 * (bc2 d % 16)) (bc2 d / 16)) := by
    rw [pk_ushrN hx2 4 4 (by decide)]
    congr 1
    unfold d4
    omega
  have e9 : nI (d4 (bc2 a) (bc2 b) (bc2 c) (bc2 d)) + nI (d4 (bc2 a / 16 + 16 * (bc2 b % 16)) (bc2 b / 16 + 16 * (bc2 c % 16)) (bc2 c / 16 + 16 * (bc2 d % 16)) (bc2 d / 16)) = nI (d4 (bc2 a + bc2 a / 16 + 16 * (bc2 b % 16)) (bc2 b + bc2 b / 16 + 16 * (bc2 c % 16)) (bc2 c + bc2 c / 16 + 16 * (bc2 d % 16)) (bc2 d + bc2 d / 16)) := by
    rw [nI_add]
    congr 1
    unfold d4
    omega
  have e10 : nI (d4 (bc2 a + bc2 a / 16 + 16 * (bc2 b % 16)) (bc2 b + bc2 b / 16 + 16 * (bc2 c % 16)) (bc2 c + bc2 c / 16 + 16 * (bc2 d % 16)) (bc2 d + bc2 d / 16)) &&& (252645135 : Int32) = nI (d4 (bc3 a) (bc3 b) (bc3 c) (bc3 d)) := by
    rw [show (252645135 : Int32) = nI (d4 15 15 15 15) from rfl, fa_and, and32 _ _ (by omega) (by omega) (by omega) (by decide) (by decide) (by decide), and15, and15, and15, and15]
    have z : ∀ t s : Nat, t % 16 ≤ 4 → t / 16 ≤ 4 → (t + t / 16 + 16 * s) % 16 = t % 16 + t / 16 := by intro t s h1 h2; omega
    have z0 : ∀ t : Nat, t % 16 ≤ 4 → t / 16 ≤ 4 → (t + t / 16) % 16 = t % 16 + t / 16 := by intro t h1 h2; omega
    rw [z _ _ m1.1 m1.2.1, z _ _ m2.1 m2.2.1, z _ _ m3.1 m3.2.1, z0 _ m4.1 m4.2.1]
    rfl
  rw [e8, e9, e10]
  have hx3 : d4 (bc3 a) (bc3 b) (bc3 c) (bc3 d) < 2 ^ 32 := by unfold d4; omega
  have e11 : ((nI (d4 (bc3 a) (bc3 b) (bc3 c) (bc3 d))).toUInt32 >>> (((8 : Int32)).toUInt32 &&& Int32.toUInt32 31)).toInt32 = nI (d4 (bc3 b) (bc3 c) (bc3 d) 0) := by
    rw [pk_ushrN hx3 8 8 (by decide)]
    congr 1
    unfold d4
    omega
  have e12 : nI (d4 (bc3 a) (bc3 b) (bc3 c) (bc3 d)) + nI (d4 (bc3 b) (bc3 c) (bc3 d) 0) = nI (d4 (bc3 a + bc3 b) (bc3 b + bc3 c) (bc3 c + bc3 d) (bc3 d)) := by
    rw [nI_add]
    congr 1
    unfold d4
    omega
  rw [e11, e12]
  have hx4 : d4 (bc3 a + bc3 b) (bc3 b + bc3 c) (bc3 c + bc3 d) (bc3 d) < 2 ^ 32 := by unfold d4; omega
  have e13 : ((nI (d4 (bc3 a + bc3 b) (bc3 b + bc3 c) (bc3 c + bc3 d) (bc3 d))).toUInt32 >>> (((16 : Int32)).toUInt32 &&& Int32.toUInt32 31)).toInt32 = nI (d4 (bc3 c + bc3 d) (bc3 d) 0 0) := by
    rw [pk_ushrN hx4 16 16 (by decide)]
    congr 1
    unfold d4
    omega
  rw [e13, nI_add]
  have e14 : nI (d4 (bc3 a + bc3 b) (bc3 b + bc3 c) (bc3 c + bc3 d) (bc3 d) + d4 (bc3 c + bc3 d) (bc3 d) 0 0) &&& (63 : Int32) = nI (bc3 a + bc3 b + bc3 c + bc3 d) := by
    rw [show nI (d4 (bc3 a + bc3 b) (bc3 b + bc3 c) (bc3 c + bc3 d) (bc3 d) + d4 (bc3 c + bc3 d) (bc3 d) 0 0) &&& (63 : Int32) = nI ((d4 (bc3 a + bc3 b) (bc3 b + bc3 c) (bc3 c + bc3 d) (bc3 d) + d4 (bc3 c + bc3 d) (bc3 d) 0 0) % 2 ^ 6) from fa_mask _ 6]
    congr 1
    unfold d4
    omega
  rw [e14]
  have hf : fb_ct (fun i => (d4 a b c d).testBit i) 32 = bc3 a + bc3 b + bc3 c + bc3 d := by
    have t : ∀ i, (d4 a b c d).testBit i = if i < 8 then a.testBit i else if i < 16 then b.testBit (i - 8) else if i < 24 then c.testBit (i - 16) else d.testBit (i - 24) := by
      intro i
      unfold d4
      rw [Nat.testBit_two_pow_mul_add _ ha, Nat.testBit_two_pow_mul_add _ hb, Nat.testBit_two_pow_mul_add _ hc]
      by_cases h1 : i < 8
      · rw [if_pos h1, if_pos h1]
      · rw [if_neg h1, if_neg h1]
        by_cases h2 : i < 16
        · rw [if_pos (by omega), if_pos h2]
        · rw [if_neg (by omega), if_neg h2]
          by_cases h3 : i < 24
          · rw [if_pos (by omega), if_pos h3, show i - 8 - 8 = i - 16 by omega]
          · rw [if_neg (by omega), if_neg h3, show i - 8 - 8 - 8 = i - 24 by omega]
    rw [show (32 : Nat) = 8 + (8 + (8 + 8)) from rfl, fb_ct_split, fb_ct_split, fb_ct_split, m1.2.2.1, m2.2.2.1, m3.2.2.1, m4.2.2.1]
    have s1 : fb_ct (fun i => (d4 a b c d).testBit i) 8 = fb_ct (fun j => a.testBit j) 8 := fb_ct_cong (fun k hk => by rw [t, if_pos hk])
    have s2 : fb_ct (fun k => (d4 a b c d).testBit (8 + k)) 8 = fb_ct (fun j => b.testBit j) 8 := fb_ct_cong (fun k hk => by rw [t, if_neg (by omega), if_pos (by omega), show 8 + k - 8 = k by omega])
    have s3 : fb_ct (fun k => (d4 a b c d).testBit (8 + (8 + k))) 8 = fb_ct (fun j => c.testBit j) 8 := fb_ct_cong (fun k hk => by rw [t, if_neg (by omega), if_neg (by omega), if_pos (by omega), show 8 + (8 + k) - 16 = k by omega])
    have s4 : fb_ct (fun k => (d4 a b c d).testBit (8 + (8 + (8 + k)))) 8 = fb_ct (fun j => d.testBit j) 8 := fb_ct_cong (fun k hk => by rw [t, if_neg (by omega), if_neg (by omega), if_neg (by omega), show 8 + (8 + (8 + k)) - 24 = k by omega])
    rw [s1, s2, s3, s4]
    omega
  rw [hf] at h
  exact h
theorem bt_nI {n : Nat} (i : Nat) (hi : i < 32) : bt (nI n) i = n.testBit i := by
  show (BitVec.ofNat 32 n).getLsbD i = n.testBit i
  rw [BitVec.getLsbD_ofNat, decide_eq_true hi, Bool.true_and]
/-- a set of bits: how many -/
theorem sJ6_bits {s : Int32} {f : Nat → Bool} {n : Nat} (hn : n ≤ 32) (hs : ∀ i, i < 32 → bt s i = f i) (hf : ∀ i, f i = true → i < n) {post : Int32 → Prop} (h : post (nI (fb_ct f n))) : pJ6_bitCount_0f7a4 s post := by
  obtain ⟨m, hm, rfl⟩ := wb_of32 s
  refine sJ6_bitCount hm ?_
  have e : fb_ct (fun i => m.testBit i) 32 = fb_ct f n := by
    rw [fb_ct_cong (q := f) (fun k hk => by rw [← bt_nI k hk, hs k hk]), show (32 : Nat) = n + (32 - n) by omega, fb_ct_split, (fb_ct_zero (p := fun k => f (n + k))).mpr (fun k _ => by
      cases hq : f (n + k) with
      | false => rfl
      | true => have := hf _ hq; omega), Nat.add_zero]
  rw [e]
  exact h
theorem nI_bI (n : Nat) (b : Bool) : nI n + bI b = nI (n + (if b then 1 else 0)) := by
  cases b
  · exact nI_add n 0
  · exact nI_add n 1
theorem sX2_passingLines {σ : Sg} {M : zM} (W : Wf σ) (X : RX σ M) {post : Int32 → Prop} (h : post (nI (fb_ct (pas σ) (sL σ)))) : pX2_passingLines M post := by
  have hL := W.2.1
  unfold pX2_passingLines pX2_passingLines_L4
  refine ⟨fun n x1 x2 => ∃ k, k ≤ sL σ ∧ n = sL σ - k ∧ x1 = nI (fb_ct (pas σ) k) ∧ x2 = nI k, ⟨sL σ, 0, by omega, rfl, rfl, rfl⟩, ?_⟩
  rintro n x1 x2 ⟨k, hk, hn, rfl, rfl⟩
  unfold pX2_passingLines_b4
  rw [X.1.2.1]
  have e1 : (nI (sL σ) ≤ nI k) ↔ sL σ ≤ k := nI_leI (by omega) (by omega)
  refine ⟨fun q => ?_, fun q => ?_⟩
  · have : k = sL σ := by have := e1.mp q; omega
    rw [this]; exact h
  · have hk2 : k < sL σ := by
      rcases Nat.lt_or_ge k (sL σ) with z | z
      · exact z
      · exact absurd (e1.mpr z) q
    exact sX2_isPassing W X hk2 (sX5_asFlag ⟨sL σ - (k + 1), by omega, k + 1, by omega, rfl, by rw [nI_bI, fb_ct_succ], nI_1 k⟩)
theorem sX2_allFactors {σ : Sg} {M : zM} (W : Wf σ) (X : RX σ M) {post : Int32 → Prop} (h : post (nI (fb_sm (ins σ) (sL σ)))) : pX2_allFactors M post := by
  have hL := W.2.1
  unfold pX2_allFactors pX2_allFactors_L4
  refine ⟨fun n x1 x2 => ∃ k, k ≤ sL σ ∧ n = sL σ - k ∧ x1 = nI (fb_sm (ins σ) k) ∧ x2 = nI k, ⟨sL σ, 0, by omega, rfl, rfl, rfl⟩, ?_⟩
  rintro n x1 x2 ⟨k, hk, hn, rfl, rfl⟩
  unfold pX2_allFactors_b4
  rw [X.1.2.1]
  have e1 : (nI (sL σ) ≤ nI k) ↔ sL σ ≤ k := nI_leI (by omega) (by omega)
  refine ⟨fun q => ?_, fun q => ?_⟩
  · have : k = sL σ := by have := e1.mp q; omega
    rw [this]; exact h
  · have hk2 : k < sL σ := by
      rcases Nat.lt_or_ge k (sL σ) with z | z
      · exact z
      · exact absurd (e1.mpr z) q
    exact sX2_insOf W X hk2 ⟨sL σ - (k + 1), by omega, k + 1, by omega, rfl, by rw [nI_add, fb_sm_succ], nI_1 k⟩
theorem sX6_ends {σ : Sg} {N : zM} (W : Wf σ) (Y : RM σ N) {post : Int32 → Prop} (h : post (nI (fb_ct (sE σ) (sR σ)))) : pX6_ends N post := by
  have hR := W.1
  unfold pX6_ends pX6_ends_L4
  refine ⟨fun n x1 x2 => ∃ k, k ≤ sR σ ∧ n = sR σ - k ∧ x1 = nI (fb_ct (sE σ) k) ∧ x2 = nI k, ⟨sR σ, 0, by omega, rfl, rfl, rfl⟩, ?_⟩
  rintro n x1 x2 ⟨k, hk, hn, rfl, rfl⟩
  unfold pX6_ends_b4 pX6_ends_b27
  rw [Y.1.1]
  have e1 : (nI (sR σ) ≤ nI k) ↔ sR σ ≤ k := nI_leI (by omega) (by omega)
  refine ⟨fun q => ?_, fun q => ?_⟩
  · have : k = sR σ := by have := e1.mp q; omega
    rw [this]; exact h
  · have hk2 : k < sR σ := by
      rcases Nat.lt_or_ge k (sR σ) with z | z
      · exact z
      · exact absurd (e1.mpr z) q
    rw [nI_clamp (by omega), Y.2.2.1 k (by omega)]
    refine ⟨vp_in_nI (by omega) (by decide), bI_if (sE σ k) (P := fun t => ∃ k_1, k_1 < n ∧ ∃ k_2, k_2 ≤ sR σ ∧ k_1 = sR σ - k_2 ∧ nI (fb_ct (sE σ) k) + t = nI (fb_ct (sE σ) k_2) ∧ nI k + 1 = nI k_2) ⟨sR σ - (k + 1), by omega, k + 1, by omega, rfl, by rw [nI_bI, fb_ct_succ], nI_1 k⟩⟩
theorem sX6_count_L66 {σ : Sg} {N : zM} (W : Wf σ) (Y : RM σ N) {post : Int32 → Prop} (h : post (nI (fb_ct (sB σ) (sL σ)))) : pX6_count_L66 N post 0 0 := by
  have hL := W.2.1
  unfold pX6_count_L66
  refine ⟨fun n x1 x2 => ∃ k, k ≤ sL σ ∧ n = sL σ - k ∧ x1 = nI (fb_ct (sB σ) k) ∧ x2 = nI k, ⟨sL σ, 0, by omega, rfl, rfl, rfl⟩, ?_⟩
  rintro n x1 x2 ⟨k, hk, hn, rfl, rfl⟩
  unfold pX6_count_b66 pX6_count_b89
  rw [Y.1.2.1]
  have e1 : (nI (sL σ) ≤ nI k) ↔ sL σ ≤ k := nI_leI (by omega) (by omega)
  refine ⟨fun q => ?_, fun q => ?_⟩
  · have : k = sL σ := by have := e1.mp q; omega
    rw [this]; exact h
  · have hk2 : k < sL σ := by
      rcases Nat.lt_or_ge k (sL σ) with z | z
      · exact z
      · exact absurd (e1.mpr z) q
    rw [nI_clamp (by omega), (Y.2.2.2.2.1 k (by omega)).2]
    refine ⟨vp_in_nI (by omega) (by decide), bI_if (sB σ k) (P := fun t => ∃ k_1, k_1 < n ∧ ∃ k_2, k_2 ≤ sL σ ∧ k_1 = sL σ - k_2 ∧ nI (fb_ct (sB σ) k) + t = nI (fb_ct (sB σ) k_2) ∧ nI k + 1 = nI k_2) ⟨sL σ - (k + 1), by omega, k + 1, by omega, rfl, by rw [nI_bI, fb_ct_succ], nI_1 k⟩⟩
theorem sX6_count_L101 {σ : Sg} {N : zM} (W : Wf σ) (Y : RM σ N) {post : Int32 → Prop} (h : post (nI (fb_ct (pas σ) (sL σ)))) : pX6_count_L101 N post 0 0 := by
  have hL := W.2.1
  unfold pX6_count_L101
  refine ⟨fun n x1 x2 => ∃ k, k ≤ sL σ ∧ n = sL σ - k ∧ x1 = nI (fb_ct (pas σ) k) ∧ x2 = nI k, ⟨sL σ, 0, by omega, rfl, rfl, rfl⟩, ?_⟩
  rintro n x1 x2 ⟨k, hk, hn, rfl, rfl⟩
  unfold pX6_count_b101 pX6_count_b123
  rw [Y.1.2.1]
  have e1 : (nI (sL σ) ≤ nI k) ↔ sL σ ≤ k := nI_leI (by omega) (by omega)
  refine ⟨fun q => ?_, fun q => ?_⟩
  · have : k = sL σ := by have := e1.mp q; omega
    rw [this]; exact h
  · have hk2 : k < sL σ := by
      rcases Nat.lt_or_ge k (sL σ) with z | z
      · exact z
      · exact absurd (e1.mpr z) q
    refine sX6_isPassing W Y hk2 (bI_if (pas σ k) (P := fun t => ∃ k_1, k_1 < n ∧ ∃ k_2, k_2 ≤ sL σ ∧ k_1 = sL σ - k_2 ∧ nI (fb_ct (pas σ) k) + t = nI (fb_ct (pas σ) k_2) ∧ nI k + 1 = nI k_2) ⟨sL σ - (k + 1), by omega, k + 1, by omega, rfl, by rw [nI_bI, fb_ct_succ], nI_1 k⟩)
theorem sX6_count_L135 {σ : Sg} {N : zM} (W : Wf σ) (Y : RM σ N) {post : Int32 → Prop} (h : post (nI (fb_sm (ins σ) (sL σ)))) : pX6_count_L135 N post 0 0 := by
  have hL := W.2.1
  unfold pX6_count_L135
  refine ⟨fun n x1 x2 => ∃ k, k ≤ sL σ ∧ n = sL σ - k ∧ x1 = nI (fb_sm (ins σ) k) ∧ x2 = nI k, ⟨sL σ, 0, by omega, rfl, rfl, rfl⟩, ?_⟩
  rintro n x1 x2 ⟨k, hk, hn, rfl, rfl⟩
  unfold pX6_count_b135
  rw [Y.1.2.1]
  have e1 : (nI (sL σ) ≤ nI k) ↔ sL σ ≤ k := nI_leI (by omega) (by omega)
  refine ⟨fun q => ?_, fun q => ?_⟩
  · have : k = sL σ := by have := e1.mp q; omega
    rw [this]; exact h
  · have hk2 : k < sL σ := by
      rcases Nat.lt_or_ge k (sL σ) with z | z
      · exact z
      · exact absurd (e1.mpr z) q
    exact sX6_ins W Y hk2 ⟨sL σ - (k + 1), by omega, k + 1, by omega, rfl, by rw [nI_add, fb_sm_succ], nI_1 k⟩
theorem cs_count {σ : Sg} {M N : zM} (R : Rel σ M N) (x1 : Int32) {post : Int32 → Int32 → Prop} (h : ∀ r, post r r) : pX5_count M x1 (fun r => pX6_count N x1 (fun r' => post r r')) := by
  obtain ⟨W, X, Y, A⟩ := R
  have hL := W.2.1
  have hR := W.1
  have d : ∀ {a b : Int32} {P : Prop}, a ≠ b → x1 = a → x1 = b → P := fun hab e1 e2 => absurd (e1.symm.trans e2) hab
  unfold pX5_count pX6_count
  rw [X.1.1, X.1.2.1, X.1.2.2, Y.1.1, Y.1.2.1, Y.1.2.2]
  refine ⟨fun q => ?_, fun q => ?_, fun q => ?_, fun q => sJ6_bits (by omega) X.2.1 (fun i hi => (W.2.2.2.2.2.1 i hi).2) ?_, fun q => sJ6_bits (by omega) X.2.2.2.1 (fun i hi => W.2.2.2.2.2.2 i hi) ?_, fun q => sX2_passingLines W X ?_, fun q => sX2_allFactors W X ?_, fun n0 n1 n2 n3 n4 n5 n6 => ?_⟩
  · exact ⟨fun _ => h _, d (by decide) q, d (by decide) q, d (by decide) q, d (by decide) q, d (by decide) q, d (by decide) q, fun z => absurd q z⟩
  · exact ⟨d (by decide) q, fun _ => h _, d (by decide) q, d (by decide) q, d (by decide) q, d (by decide) q, d (by decide) q, fun _ z => absurd q z⟩
  · exact ⟨d (by decide) q, d (by decide) q, fun _ => h _, d (by decide) q, d (by decide) q, d (by decide) q, d (by decide) q, fun _ _ z => absurd q z⟩
  · exact ⟨d (by decide) q, d (by decide) q, d (by decide) q, fun _ => sX6_ends W Y (h _), d (by decide) q, d (by decide) q, d (by decide) q, fun _ _ _ z => absurd q z⟩
  · exact ⟨d (by decide) q, d (by decide) q, d (by decide) q, d (by decide) q, fun _ => sX6_count_L66 W Y (h _), d (by decide) q, d (by decide) q, fun _ _ _ _ z => absurd q z⟩
  · exact ⟨d (by decide) q, d (by decide) q, d (by decide) q, d (by decide) q, d (by decide) q, fun _ => sX6_count_L101 W Y (h _), d (by decide) q, fun _ _ _ _ _ z => absurd q z⟩
  · exact ⟨d (by decide) q, d (by decide) q, d (by decide) q, d (by decide) q, d (by decide) q, d (by decide) q, fun _ => sX6_count_L135 W Y (h _), fun _ _ _ _ _ _ z => absurd q z⟩
  · exact ⟨fun z => absurd z n0, fun z => absurd z n1, fun z => absurd z n2, fun z => absurd z n3, fun z => absurd z n4, fun z => absurd z n5, fun z => absurd z n6, fun _ _ _ _ _ _ _ => h _⟩
