/-! the field of 256 numbers, over Nat: x + y is xor -/
def gx2 (a : Nat) : Nat := if a < 128 then 2 * a else (2 * a) ^^^ 283
def gmr : Nat → Nat → Nat → Nat
  | 0, _, _ => 0
  | n + 1, a, b => (if b % 2 = 1 then a else 0) ^^^ gmr n (gx2 a) (b / 2)
def gm (a b : Nat) : Nat := gmr 8 a b
def gTE : Nat := 121466575815500734415996836054882879791832871126464106601702187317037704638720699736399773789881350966450612456712855012027411276600174289287471020404625812305602624065235109912861702064162581238381248958448422203687095403783548669481020115429473714815130546491650907227391014769411226625179674495964331439187933946584331397333639979447433688574122779091165484305754955373075414835846686739481168846087332879005575464100018941681806164995707250399423063311368515928344698269234575261926727907427524598329539937222090466892085999338983806607642276495436692919915470849325341672618663070658392065151738926641076044545
def gTL : Nat := 939374623831894136699086600277250597547650664638770418422125146541797353646788332867483593573384618611044815625336497665827114626705134492515730415652478061620339993830966980270842846318821775850471098591710629241171812800746666233448222972174585295916389942636813666312872914849454985560152530477328703759683306625234997237483834721220409437442253146756845415190424543171129629468776480674528486868811725071010351012234056630775688111116293610821126543142160426617079940511630006820862697466582575257349116925728488930366609138264019883664906661504235885380294353134295748489096855100647154935187045898006656778240
def gE (i : Nat) : Nat := (gTE >>> (8 * i)) % 256
def gL (a : Nat) : Nat := (gTL >>> (8 * a)) % 256
/-- the inverse -/
def gi (a : Nat) : Nat := gE ((255 - gL a) % 255)
def gAll : Nat → (Nat → Bool) → Bool
  | 0, _ => true
  | n + 1, f => gAll n f && f n
theorem gAll_spec (f : Nat → Bool) : ∀ n, gAll n f = true → ∀ a, a < n → f a = true := by
  intro n
  induction n with
  | zero => intro _ a h; omega
  | succ n ih =>
    intro h a ha
    have h2 : gAll n f = true ∧ f n = true := by simpa [gAll] using h
    rcases Nat.lt_or_ge a n with q | q
    · exact ih h2.1 a q
    · have : a = n := by omega
      rw [this]; exact h2.2
set_option maxRecDepth 100000 in
theorem gx2_chk : gAll 256 (fun a => gAll 256 (fun b => Nat.beq (gx2 (a ^^^ b)) (gx2 a ^^^ gx2 b))) = true := by decide +kernel
set_option maxRecDepth 100000 in
theorem gx2_lt_chk : gAll 256 (fun a => Nat.ble (gx2 a + 1) 256) = true := by decide +kernel
set_option maxRecDepth 100000 in
theorem gm_chk : gAll 256 (fun a => gAll 256 (fun b => Nat.beq (gm a b) (bif Nat.beq a 0 || Nat.beq b 0 then 0 else gE ((gL a + gL b) % 255)))) = true := by decide +kernel
set_option maxRecDepth 100000 in
theorem gE_chk : gAll 255 (fun i => Nat.beq (gL (gE i)) i && (Nat.ble (gE i + 1) 256 && Nat.ble 1 (gE i))) = true := by decide +kernel
set_option maxRecDepth 100000 in
theorem gL_chk : gAll 256 (fun a => Nat.beq a 0 || (Nat.beq (gE (gL a)) a && Nat.ble (gL a + 1) 255)) = true := by decide +kernel
theorem gx2_lt {a : Nat} (h : a < 256) : gx2 a < 256 := by
  have := gAll_spec _ _ gx2_lt_chk a h
  exact Nat.le_of_ble_eq_true this
theorem gx2_xor {a b : Nat} (ha : a < 256) (hb : b < 256) : gx2 (a ^^^ b) = gx2 a ^^^ gx2 b :=
  Nat.eq_of_beq_eq_true (gAll_spec _ _ (gAll_spec _ _ gx2_chk a ha) b hb)
theorem g_xor_lt {a b : Nat} (ha : a < 256) (hb : b < 256) : a ^^^ b < 256 := Nat.xor_lt_two_pow (n := 8) ha hb
theorem gmr_lt : ∀ (n a b : Nat), a < 256 → gmr n a b < 256 := by
  intro n
  induction n with
  | zero => intro a b _; show (0 : Nat) < 256; omega
  | succ n ih =>
    intro a b ha
    show (if b % 2 = 1 then a else 0) ^^^ gmr n (gx2 a) (b / 2) < 256
    refine g_xor_lt ?_ (ih _ _ (gx2_lt ha))
    split
    · exact ha
    · omega
theorem gm_lt {a b : Nat} (ha : a < 256) : gm a b < 256 := gmr_lt 8 a b ha
theorem gmr_xor : ∀ (n a b c : Nat), a < 256 → b < 256 → gmr n (a ^^^ b) c = gmr n a c ^^^ gmr n b c := by
  intro n
  induction n with
  | zero => intro a b c _ _; show (0 : Nat) = 0 ^^^ 0; rfl
  | succ n ih =>
    intro a b c ha hb
    show (if c % 2 = 1 then a ^^^ b else 0) ^^^ gmr n (gx2 (a ^^^ b)) (c / 2) = ((if c % 2 = 1 then a else 0) ^^^ gmr n (gx2 a) (c / 2)) ^^^ ((if c % 2 = 1 then b else 0) ^^^ gmr n (gx2 b) (c / 2))
    rw [gx2_xor ha hb, ih _ _ _ (gx2_lt ha) (gx2_lt hb)]
    split
    · ac_rfl
    · simp only [Nat.zero_xor]
/-- over the first number -/
theorem gm_xor {a b : Nat} (c : Nat) (ha : a < 256) (hb : b < 256) : gm (a ^^^ b) c = gm a c ^^^ gm b c := gmr_xor 8 a b c ha hb
theorem gm_eq {a b : Nat} (ha : a < 256) (hb : b < 256) : gm a b = if a = 0 ∨ b = 0 then 0 else gE ((gL a + gL b) % 255) := by
  have h := Nat.eq_of_beq_eq_true (gAll_spec _ _ (gAll_spec _ _ gm_chk a ha) b hb)
  rw [h]
  by_cases h1 : a = 0
  · subst h1; simp
  · by_cases h2 : b = 0
    · subst h2; simp
    · have e1 : Nat.beq a 0 = false := by cases a with
        | zero => exact absurd rfl h1
        | succ n => rfl
      have e2 : Nat.beq b 0 = false := by cases b with
        | zero => exact absurd rfl h2
        | succ n => rfl
      rw [e1, e2]
      simp [h1, h2]
theorem gE_lt {i : Nat} (h : i < 255) : gE i < 256 := by
  have := gAll_spec _ _ gE_chk i h
  simp only [Bool.and_eq_true] at this
  exact Nat.le_of_ble_eq_true this.2.1
theorem gE_pos {i : Nat} (h : i < 255) : gE i ≠ 0 := by
  have := gAll_spec _ _ gE_chk i h
  simp only [Bool.and_eq_true] at this
  have := Nat.le_of_ble_eq_true this.2.2
  omega
theorem gL_gE {i : Nat} (h : i < 255) : gL (gE i) = i := by
  have := gAll_spec _ _ gE_chk i h
  simp only [Bool.and_eq_true] at this
  exact Nat.eq_of_beq_eq_true this.1
theorem gL_at {a : Nat} (h : a < 256) (h0 : a ≠ 0) : gE (gL a) = a ∧ gL a < 255 := by
  have := gAll_spec _ _ gL_chk a h
  have e1 : Nat.beq a 0 = false := by cases a with
    | zero => exact absurd rfl h0
    | succ n => rfl
  rw [e1] at this
  simp only [Bool.false_or, Bool.and_eq_true] at this
  exact ⟨Nat.eq_of_beq_eq_true this.1, Nat.le_of_ble_eq_true this.2⟩
theorem gm_comm {a b : Nat} (ha : a < 256) (hb : b < 256) : gm a b = gm b a := by
  rw [gm_eq ha hb, gm_eq hb ha]
  by_cases h : a = 0 ∨ b = 0
  · rw [if_pos h, if_pos h.symm]
  · rw [if_neg h, if_neg (fun q => h q.symm), Nat.add_comm]
theorem gm_zero {a : Nat} (ha : a < 256) : gm a 0 = 0 := by rw [gm_eq ha (by omega)]; simp
theorem gm_zero' {a : Nat} (ha : a < 256) : gm 0 a = 0 := by rw [gm_eq (by omega) ha]; simp
theorem gm_ne {a b : Nat} (ha : a < 256) (hb : b < 256) (h1 : a ≠ 0) (h2 : b ≠ 0) : gm a b ≠ 0 := by
  rw [gm_eq ha hb, if_neg (by omega)]
  exact gE_pos (Nat.mod_lt _ (by omega))
theorem gm_xor' {a b : Nat} (c : Nat) (ha : a < 256) (hb : b < 256) (hc : c < 256) : gm c (a ^^^ b) = gm c a ^^^ gm c b := by
  rw [gm_comm hc (g_xor_lt ha hb), gm_xor c ha hb, gm_comm ha hc, gm_comm hb hc]
theorem gm_assoc {a b c : Nat} (ha : a < 256) (hb : b < 256) (hc : c < 256) : gm (gm a b) c = gm a (gm b c) := by
  by_cases h1 : a = 0
  · subst h1; rw [gm_zero' hb, gm_zero' hc, gm_zero' (gm_lt hb)]
  · by_cases h2 : b = 0
    · subst h2; rw [gm_zero ha, gm_zero' hc, gm_zero ha]
    · by_cases h3 : c = 0
      · subst h3; rw [gm_zero hb, gm_zero ha, gm_zero (gm_lt ha)]
      · have e1 : gm a b = gE ((gL a + gL b) % 255) := by rw [gm_eq ha hb, if_neg (by omega)]
        have e2 : gm b c = gE ((gL b + gL c) % 255) := by rw [gm_eq hb hc, if_neg (by omega)]
        have m1 : (gL a + gL b) % 255 < 255 := Nat.mod_lt _ (by omega)
        have m2 : (gL b + gL c) % 255 < 255 := Nat.mod_lt _ (by omega)
        rw [gm_eq (gm_lt ha) hc, gm_eq ha (gm_lt hb), if_neg (by rw [e1]; have := gE_pos m1; omega), if_neg (by rw [e2]; have := gE_pos m2; omega), e1, e2, gL_gE m1, gL_gE m2]
        congr 1
        omega
theorem gL_1 : gL 1 = 0 := by decide +kernel
theorem gE_0 : gE 0 = 1 := by decide +kernel
theorem gm_one {a : Nat} (ha : a < 256) : gm a 1 = a := by
  by_cases h : a = 0
  · subst h; exact gm_zero' (by omega)
  · obtain ⟨h1, h2⟩ := gL_at ha h
    rw [gm_eq ha (by omega), if_neg (by omega), gL_1, Nat.add_zero, Nat.mod_eq_of_lt h2, h1]
theorem gm_one' {a : Nat} (ha : a < 256) : gm 1 a = a := by rw [gm_comm (by omega) ha, gm_one ha]
theorem gi_lt (a : Nat) : gi a < 256 := gE_lt (Nat.mod_lt _ (by omega))
theorem gi_ne (a : Nat) : gi a ≠ 0 := gE_pos (Nat.mod_lt _ (by omega))
theorem gm_gi {a : Nat} (ha : a < 256) (h : a ≠ 0) : gm a (gi a) = 1 := by
  obtain ⟨h1, h2⟩ := gL_at ha h
  rw [gm_eq ha (gi_lt a), if_neg (by have := gi_ne a; omega)]
  unfold gi
  rw [gL_gE (Nat.mod_lt _ (by omega)), show (gL a + (255 - gL a) % 255) % 255 = 0 by omega, gE_0]
theorem gm_gi' {a : Nat} (ha : a < 256) (h : a ≠ 0) : gm (gi a) a = 1 := by rw [gm_comm (gi_lt a) ha, gm_gi ha h]
theorem gi_unique {a b : Nat} (ha : a < 256) (hb : b < 256) (h : gm a b = 1) : b = gi a := by
  have h0 : a ≠ 0 := by intro q; subst q; rw [gm_zero' hb] at h; omega
  have e : gm (gi a) (gm a b) = b := by rw [← gm_assoc (gi_lt a) ha hb, gm_gi' ha h0, gm_one' hb]
  rw [← e, h, gm_one (gi_lt a)]
theorem gi_pos {a : Nat} : 0 < gi a := Nat.pos_of_ne_zero (gi_ne a)
