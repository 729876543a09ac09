/-! the memory of the class and of the model as two pairs of functions (ints, longs; cell, place), the world that holds it, and rows over it -/
abbrev zM : Type := (Nat → Nat → Int32) × (Nat → Nat → Int64)
def zri (M : zM) (c : Nat) (f : Nat → Int32) : zM := (fun a => if a = c then f else M.1 a, M.2)
def zrj (M : zM) (c : Nat) (f : Nat → Int64) : zM := (M.1, fun a => if a = c then f else M.2 a)
def zsi (M : zM) (c k : Nat) (v : Int32) : zM := zri M c (upd (M.1 c) k v)
def zsj (M : zM) (c k : Nat) (v : Int64) : zM := zrj M c (vp_updL (M.2 c) k v)
/-- addresses of the cells; class numbers; the classes of int, long, boolean arrays; the address of UNITS -/
abbrev zG : Type := (Nat → Nat) × va_G × (ClassId × ClassId × ClassId) × Nat
def zU (j : Nat) : Int64 := match j with
  | 0 => 1
  | 1 => 256
  | 2 => 65536
  | _ => 16777216
def zUv (j : Nat) : Value := .long (zU j)
def zTy (G : zG) : List (ClassId × FieldType) := [(G.2.2.1.1, .int), (G.2.2.1.2.1, .long), (G.2.2.1.2.2, .boolean)]
def zAA (G : zG) (q : Nat) : Prop := ∃ c : Nat, c < 43 ∧ q = G.1 c
def zE (G : zG) (c : Nat) (f : Nat → Int32) (g : Nat → Int64) : va_E := match c with
  | 0 => .inr (5, [.ref (G.1 1), .ref (G.1 2), .ref (G.1 3), .ref (G.1 4), .ref (G.1 5)])
  | 1 => .inr (2, [.int (f 0), .int (f 1), .int (f 2), .int (f 3), .int (f 4), .int (f 5), .ref (G.1 6), .ref (G.1 7), .ref (G.1 8), .ref (G.1 9), .ref (G.1 10), .ref (G.1 11), .ref (G.1 12), .ref (G.1 13), .ref (G.1 14), .ref (G.1 15)])
  | 2 => .inr (4, [.ref (G.1 1), .ref (G.1 16), .int (f 2), .int (f 3)])
  | 3 => .inr (3, [.ref (G.1 1), .ref (G.1 17), .ref (G.1 18), .int (f 3)])
  | 4 => .inr (1, [.ref (G.1 1), .ref (G.1 3), .ref (G.1 19), .ref (G.1 20)])
  | 5 => .inr (0, [.ref (G.1 1), .ref (G.1 3), .int (f 2), .int (f 3), .int (f 4)])
  | 6 => .inl (G.2.2.1.1, 30, .inl f)
  | 7 => .inl (G.2.2.1.1, 30, .inl f)
  | 8 => .inl (G.2.2.1.2.1, 30, .inr (.inl g))
  | 9 => .inl (G.2.2.1.2.1, 4, .inr (.inl g))
  | 10 => .inl (G.2.2.1.1, 900, .inl f)
  | 11 => .inl (G.2.2.1.1, 360, .inl f)
  | 12 => .inl (G.2.2.1.1, 12, .inl f)
  | 13 => .inl (G.2.2.1.1, 30, .inl f)
  | 14 => .inl (G.2.2.1.2.1, 30, .inr (.inl g))
  | 15 => .inl (G.2.2.1.2.1, 30, .inr (.inl g))
  | 16 => .inl (G.2.2.1.1, 12, .inl f)
  | 17 => .inl (G.2.2.1.2.1, 4, .inr (.inl g))
  | 18 => .inl (G.2.2.1.1, 4, .inl f)
  | 19 => .inl (G.2.2.1.1, 900, .inl f)
  | 20 => .inl (G.2.2.1.1, 12, .inl f)
  | 21 => .inr (6, [.int (f 0), .int (f 1), .int (f 2), .int (f 3), .ref (G.1 22), .ref (G.1 23), .ref (G.1 24), .ref (G.1 25), .ref (G.1 26), .ref (G.1 27), .ref (G.1 28), .ref (G.1 29), .ref (G.1 30), .ref (G.1 31), .ref (G.1 32), .ref (G.1 33), .ref (G.1 34), .int (f 17), .int (f 18), .ref (G.1 35), .ref (G.1 36), .ref (G.1 37), .int (f 22), .ref (G.1 38), .ref (G.1 39), .ref (G.1 40), .ref (G.1 41), .ref (G.1 42), .int (f 28), .int (f 29), .int (f 30)])
  | 22 => .inl (G.2.2.1.2.1, 4, .inr (.inl g))
  | 23 => .inl (G.2.2.1.2.2, 12, .inl f)
  | 24 => .inl (G.2.2.1.1, 30, .inl f)
  | 25 => .inl (G.2.2.1.1, 30, .inl f)
  | 26 => .inl (G.2.2.1.2.2, 30, .inl f)
  | 27 => .inl (G.2.2.1.2.2, 30, .inl f)
  | 28 => .inl (G.2.2.1.2.1, 30, .inr (.inl g))
  | 29 => .inl (G.2.2.1.1, 900, .inl f)
  | 30 => .inl (G.2.2.1.2.2, 30, .inl f)
  | 31 => .inl (G.2.2.1.2.2, 12, .inl f)
  | 32 => .inl (G.2.2.1.1, 12, .inl f)
  | 33 => .inl (G.2.2.1.1, 120, .inl f)
  | 34 => .inl (G.2.2.1.2.1, 30, .inr (.inl g))
  | 35 => .inl (G.2.2.1.1, 36, .inl f)
  | 36 => .inl (G.2.2.1.1, 4, .inl f)
  | 37 => .inl (G.2.2.1.1, 4, .inl f)
  | 38 => .inl (G.2.2.1.1, 9, .inl f)
  | 39 => .inl (G.2.2.1.1, 4, .inl f)
  | 40 => .inl (G.2.2.1.1, 25, .inl f)
  | 41 => .inl (G.2.2.1.1, 900, .inl f)
  | _ => .inl (G.2.2.1.1, 12, .inl f)
theorem zE_0 (G : zG) (f : Nat → Int32) (g : Nat → Int64) : zE G 0 f g = .inr (5, [.ref (G.1 1), .ref (G.1 2), .ref (G.1 3), .ref (G.1 4), .ref (G.1 5)]) := rfl
theorem zE_1 (G : zG) (f : Nat → Int32) (g : Nat → Int64) : zE G 1 f g = .inr (2, [.int (f 0), .int (f 1), .int (f 2), .int (f 3), .int (f 4), .int (f 5), .ref (G.1 6), .ref (G.1 7), .ref (G.1 8), .ref (G.1 9), .ref (G.1 10), .ref (G.1 11), .ref (G.1 12), .ref (G.1 13), .ref (G.1 14), .ref (G.1 15)]) := rfl
theorem zE_2 (G : zG) (f : Nat → Int32) (g : Nat → Int64) : zE G 2 f g = .inr (4, [.ref (G.1 1), .ref (G.1 16), .int (f 2), .int (f 3)]) := rfl
theorem zE_3 (G : zG) (f : Nat → Int32) (g : Nat → Int64) : zE G 3 f g = .inr (3, [.ref (G.1 1), .ref (G.1 17), .ref (G.1 18), .int (f 3)]) := rfl
theorem zE_4 (G : zG) (f : Nat → Int32) (g : Nat → Int64) : zE G 4 f g = .inr (1, [.ref (G.1 1), .ref (G.1 3), .ref (G.1 19), .ref (G.1 20)]) := rfl
theorem zE_5 (G : zG) (f : Nat → Int32) (g : Nat → Int64) : zE G 5 f g = .inr (0, [.ref (G.1 1), .ref (G.1 3), .int (f 2), .int (f 3), .int (f 4)]) := rfl
theorem zE_6 (G : zG) (f : Nat → Int32) (g : Nat → Int64) : zE G 6 f g = .inl (G.2.2.1.1, 30, .inl f) := rfl
theorem zE_7 (G : zG) (f : Nat → Int32) (g : Nat → Int64) : zE G 7 f g = .inl (G.2.2.1.1, 30, .inl f) := rfl
theorem zE_8 (G : zG) (f : Nat → Int32) (g : Nat → Int64) : zE G 8 f g = .inl (G.2.2.1.2.1, 30, .inr (.inl g)) := rfl
theorem zE_9 (G : zG) (f : Nat → Int32) (g : Nat → Int64) : zE G 9 f g = .inl (G.2.2.1.2.1, 4, .inr (.inl g)) := rfl
theorem zE_10 (G : zG) (f : Nat → Int32) (g : Nat → Int64) : zE G 10 f g = .inl (G.2.2.1.1, 900, .inl f) := rfl
theorem zE_11 (G : zG) (f : Nat → Int32) (g : Nat → Int64) : zE G 11 f g = .inl (G.2.2.1.1, 360, .inl f) := rfl
theorem zE_12 (G : zG) (f : Nat → Int32) (g : Nat → Int64) : zE G 12 f g = .inl (G.2.2.1.1, 12, .inl f) := rfl
theorem zE_13 (G : zG) (f : Nat → Int32) (g : Nat → Int64) : zE G 13 f g = .inl (G.2.2.1.1, 30, .inl f) := rfl
theorem zE_14 (G : zG) (f : Nat → Int32) (g : Nat → Int64) : zE G 14 f g = .inl (G.2.2.1.2.1, 30, .inr (.inl g)) := rfl
theorem zE_15 (G : zG) (f : Nat → Int32) (g : Nat → Int64) : zE G 15 f g = .inl (G.2.2.1.2.1, 30, .inr (.inl g)) := rfl
theorem zE_16 (G : zG) (f : Nat → Int32) (g : Nat → Int64) : zE G 16 f g = .inl (G.2.2.1.1, 12, .inl f) := rfl
theorem zE_17 (G : zG) (f : Nat → Int32) (g : Nat → Int64) : zE G 17 f g = .inl (G.2.2.1.2.1, 4, .inr (.inl g)) := rfl
theorem zE_18 (G : zG) (f : Nat → Int32) (g : Nat → Int64) : zE G 18 f g = .inl (G.2.2.1.1, 4, .inl f) := rfl
theorem zE_19 (G : zG) (f : Nat → Int32) (g : Nat → Int64) : zE G 19 f g = .inl (G.2.2.1.1, 900, .inl f) := rfl
theorem zE_20 (G : zG) (f : Nat → Int32) (g : Nat → Int64) : zE G 20 f g = .inl (G.2.2.1.1, 12, .inl f) := rfl
theorem zE_21 (G : zG) (f : Nat → Int32) (g : Nat → Int64) : zE G 21 f g = .inr (6, [.int (f 0), .int (f 1), .int (f 2), .int (f 3), .ref (G.1 22), .ref (G.1 23), .ref (G.1 24), .ref (G.1 25), .ref (G.1 26), .ref (G.1 27), .ref (G.1 28), .ref (G.1 29), .ref (G.1 30), .ref (G.1 31), .ref (G.1 32), .ref (G.1 33), .ref (G.1 34), .int (f 17), .int (f 18), .ref (G.1 35), .ref (G.1 36), .ref (G.1 37), .int (f 22), .ref (G.1 38), .ref (G.1 39), .ref (G.1 40), .ref (G.1 41), .ref (G.1 42), .int (f 28), .int (f 29), .int (f 30)]) := rfl
theorem zE_22 (G : zG) (f : Nat → Int32) (g : Nat → Int64) : zE G 22 f g = .inl (G.2.2.1.2.1, 4, .inr (.inl g)) := rfl
theorem zE_23 (G : zG) (f : Nat → Int32) (g : Nat → Int64) : zE G 23 f g = .inl (G.2.2.1.2.2, 12, .inl f) := rfl
theorem zE_24 (G : zG) (f : Nat → Int32) (g : Nat → Int64) : zE G 24 f g = .inl (G.2.2.1.1, 30, .inl f) := rfl
theorem zE_25 (G : zG) (f : Nat → Int32) (g : Nat → Int64) : zE G 25 f g = .inl (G.2.2.1.1, 30, .inl f) := rfl
theorem zE_26 (G : zG) (f : Nat → Int32) (g : Nat → Int64) : zE G 26 f g = .inl (G.2.2.1.2.2, 30, .inl f) := rfl
theorem zE_27 (G : zG) (f : Nat → Int32) (g : Nat → Int64) : zE G 27 f g = .inl (G.2.2.1.2.2, 30, .inl f) := rfl
theorem zE_28 (G : zG) (f : Nat → Int32) (g : Nat → Int64) : zE G 28 f g = .inl (G.2.2.1.2.1, 30, .inr (.inl g)) := rfl
theorem zE_29 (G : zG) (f : Nat → Int32) (g : Nat → Int64) : zE G 29 f g = .inl (G.2.2.1.1, 900, .inl f) := rfl
theorem zE_30 (G : zG) (f : Nat → Int32) (g : Nat → Int64) : zE G 30 f g = .inl (G.2.2.1.2.2, 30, .inl f) := rfl
theorem zE_31 (G : zG) (f : Nat → Int32) (g : Nat → Int64) : zE G 31 f g = .inl (G.2.2.1.2.2, 12, .inl f) := rfl
theorem zE_32 (G : zG) (f : Nat → Int32) (g : Nat → Int64) : zE G 32 f g = .inl (G.2.2.1.1, 12, .inl f) := rfl
theorem zE_33 (G : zG) (f : Nat → Int32) (g : Nat → Int64) : zE G 33 f g = .inl (G.2.2.1.1, 120, .inl f) := rfl
theorem zE_34 (G : zG) (f : Nat → Int32) (g : Nat → Int64) : zE G 34 f g = .inl (G.2.2.1.2.1, 30, .inr (.inl g)) := rfl
theorem zE_35 (G : zG) (f : Nat → Int32) (g : Nat → Int64) : zE G 35 f g = .inl (G.2.2.1.1, 36, .inl f) := rfl
theorem zE_36 (G : zG) (f : Nat → Int32) (g : Nat → Int64) : zE G 36 f g = .inl (G.2.2.1.1, 4, .inl f) := rfl
theorem zE_37 (G : zG) (f : Nat → Int32) (g : Nat → Int64) : zE G 37 f g = .inl (G.2.2.1.1, 4, .inl f) := rfl
theorem zE_38 (G : zG) (f : Nat → Int32) (g : Nat → Int64) : zE G 38 f g = .inl (G.2.2.1.1, 9, .inl f) := rfl
theorem zE_39 (G : zG) (f : Nat → Int32) (g : Nat → Int64) : zE G 39 f g = .inl (G.2.2.1.1, 4, .inl f) := rfl
theorem zE_40 (G : zG) (f : Nat → Int32) (g : Nat → Int64) : zE G 40 f g = .inl (G.2.2.1.1, 25, .inl f) := rfl
theorem zE_41 (G : zG) (f : Nat → Int32) (g : Nat → Int64) : zE G 41 f g = .inl (G.2.2.1.1, 900, .inl f) := rfl
theorem zE_42 (G : zG) (f : Nat → Int32) (g : Nat → Int64) : zE G 42 f g = .inl (G.2.2.1.1, 12, .inl f) := rfl
def zW (G : zG) (b : Bool) (M O : zM) : va_W := (List.range 43).map (fun c => (G.1 c, if decide (c < 21) = b then zE G c (M.1 c) (M.2 c) else zE G c (O.1 c) (O.2 c)))
theorem zW_get {G : zG} {b : Bool} {M O : zM} {c : Nat} (hc : c < 43) : (zW G b M O)[c]? = some (G.1 c, if decide (c < 21) = b then zE G c (M.1 c) (M.2 c) else zE G c (O.1 c) (O.2 c)) := by
  unfold zW
  rw [List.getElem?_map, List.getElem?_range hc]
  rfl
theorem zW_out {G : zG} {b : Bool} {M O : zM} {c : Nat} (hc : ¬ c < 43) : (zW G b M O)[c]? = none := by
  apply List.getElem?_eq_none
  simp [zW]
  omega
theorem zW_at {G : zG} {b : Bool} {M O : zM} {c : Nat} (hc : c < 43) (hb : decide (c < 21) = b) : (zW G b M O)[c]? = some (G.1 c, zE G c (M.1 c) (M.2 c)) := by
  rw [zW_get hc, if_pos hb]
theorem zW_len {G : zG} {b : Bool} {M O : zM} : (zW G b M O).length = 43 := by simp [zW]
theorem zW_set {G : zG} {b : Bool} {M O : zM} {c : Nat} {e : va_E} (M1 : zM) (hc : c < 43) (hb : decide (c < 21) = b) (h1 : ∀ a, a ≠ c → M1.1 a = M.1 a) (h2 : ∀ a, a ≠ c → M1.2 a = M.2 a) (he : zE G c (M1.1 c) (M1.2 c) = e) : (zW G b M O).set c (G.1 c, e) = zW G b M1 O := by
  apply List.ext_getElem?
  intro i
  by_cases hi : i < 43
  · by_cases hci : c = i
    · subst hci
      rw [List.getElem?_set_self (by rw [zW_len]; exact hc), zW_at hc hb, he]
    · rw [List.getElem?_set_ne hci, zW_get hi, zW_get hi, h1 i (Ne.symm hci), h2 i (Ne.symm hci)]
  · rw [zW_out hi, List.getElem?_eq_none (by rw [List.length_set, zW_len]; omega)]
theorem zW_swap {G : zG} {M O : zM} : zW G true M O = zW G false O M := by
  apply List.ext_getElem?
  intro i
  by_cases hi : i < 43
  · rw [zW_get hi, zW_get hi]
    by_cases h : i < 21 <;> simp [h]
  · rw [zW_out hi, zW_out hi]

def zNest : List Cond := [Cond.methodLinkNest "MixingRelays$Net" 62 ⟨"MixingRelays", "slot", "(II)I"⟩ "MixingRelays", Cond.methodLinkNest "MixingRelays$Net" 70 ⟨"MixingRelays", "asFlag", "(Z)I"⟩ "MixingRelays", Cond.methodLinkNest "MixingRelays$Ways" 34 ⟨"MixingRelays", "flag", "(II)I"⟩ "MixingRelays", Cond.methodLinkNest "MixingRelays$Net" 78 ⟨"MixingRelays", "flag", "(II)I"⟩ "MixingRelays", Cond.methodLinkNest "MixingRelays$Net" 88 ⟨"MixingRelays", "scaled", "(JI)J"⟩ "MixingRelays", Cond.methodLinkNest "MixingRelays$Span" 55 ⟨"MixingRelays", "slot", "(II)I"⟩ "MixingRelays", Cond.methodLinkNest "MixingRelays$Span" 68 ⟨"MixingRelays", "byteOf", "(JI)I"⟩ "MixingRelays", Cond.methodLinkNest "MixingRelays$Span" 72 ⟨"MixingRelays", "scaled", "(JI)J"⟩ "MixingRelays", Cond.methodLinkNest "MixingRelays$Span" 79 ⟨"MixingRelays", "inverseOf", "(I)I"⟩ "MixingRelays", Cond.methodLinkNest "MixingRelays$Span" 90 ⟨"MixingRelays", "product", "(II)I"⟩ "MixingRelays", Cond.methodLinkNest "MixingRelays$Span" 110 ⟨"MixingRelays", "flag", "(II)I"⟩ "MixingRelays", Cond.methodLinkNest "MixingRelays$Mixer" 35 ⟨"MixingRelays", "flag", "(II)I"⟩ "MixingRelays", Cond.methodLinkNest "MixingRelays$Mixer" 47 ⟨"MixingRelays", "slot", "(II)I"⟩ "MixingRelays", Cond.methodLinkNest "MixingRelays$Mixer" 78 ⟨"MixingRelays", "asFlag", "(Z)I"⟩ "MixingRelays", Cond.methodLinkNest "MixingRelays$Breaker" 48 ⟨"MixingRelays", "flag", "(II)I"⟩ "MixingRelays", Cond.fieldLinkNest "MixingRelays$Net" 81 "MixingRelays" "UNITS" "[J" "MixingRelays", Cond.fieldLinkNest "MixingRelays$Span" 65 "MixingRelays" "UNITS" "[J" "MixingRelays"]
def zNok (w : Cond) : Prop := (∃ a i x h, w = .methodLinkNest a i x h) ∨ (∃ a i b n d h, w = .fieldLinkNest a i b n d h)
theorem zNest_ok : ∀ w ∈ zNest, zNok w := List.forall_mem_cons.mpr ⟨Or.inl ⟨_, _, _, _, rfl⟩, List.forall_mem_cons.mpr ⟨Or.inl ⟨_, _, _, _, rfl⟩, List.forall_mem_cons.mpr ⟨Or.inl ⟨_, _, _, _, rfl⟩, List.forall_mem_cons.mpr ⟨Or.inl ⟨_, _, _, _, rfl⟩, List.forall_mem_cons.mpr ⟨Or.inl ⟨_, _, _, _, rfl⟩, List.forall_mem_cons.mpr ⟨Or.inl ⟨_, _, _, _, rfl⟩, List.forall_mem_cons.mpr ⟨Or.inl ⟨_, _, _, _, rfl⟩, List.forall_mem_cons.mpr ⟨Or.inl ⟨_, _, _, _, rfl⟩, List.forall_mem_cons.mpr ⟨Or.inl ⟨_, _, _, _, rfl⟩, List.forall_mem_cons.mpr ⟨Or.inl ⟨_, _, _, _, rfl⟩, List.forall_mem_cons.mpr ⟨Or.inl ⟨_, _, _, _, rfl⟩, List.forall_mem_cons.mpr ⟨Or.inl ⟨_, _, _, _, rfl⟩, List.forall_mem_cons.mpr ⟨Or.inl ⟨_, _, _, _, rfl⟩, List.forall_mem_cons.mpr ⟨Or.inl ⟨_, _, _, _, rfl⟩, List.forall_mem_cons.mpr ⟨Or.inl ⟨_, _, _, _, rfl⟩, List.forall_mem_cons.mpr ⟨Or.inr ⟨_, _, _, _, _, _, rfl⟩, List.forall_mem_cons.mpr ⟨Or.inr ⟨_, _, _, _, _, _, rfl⟩, fun _ h => absurd h List.not_mem_nil⟩⟩⟩⟩⟩⟩⟩⟩⟩⟩⟩⟩⟩⟩⟩⟩⟩
theorem zNest_X2_62 : Cond.methodLinkNest "MixingRelays$Net" 62 ⟨"MixingRelays", "slot", "(II)I"⟩ "MixingRelays" ∈ zNest := List.mem_of_getElem? (i := 0) rfl
theorem zNest_X2_70 : Cond.methodLinkNest "MixingRelays$Net" 70 ⟨"MixingRelays", "asFlag", "(Z)I"⟩ "MixingRelays" ∈ zNest := List.mem_of_getElem? (i := 1) rfl
theorem zNest_X4_34 : Cond.methodLinkNest "MixingRelays$Ways" 34 ⟨"MixingRelays", "flag", "(II)I"⟩ "MixingRelays" ∈ zNest := List.mem_of_getElem? (i := 2) rfl
theorem zNest_X2_78 : Cond.methodLinkNest "MixingRelays$Net" 78 ⟨"MixingRelays", "flag", "(II)I"⟩ "MixingRelays" ∈ zNest := List.mem_of_getElem? (i := 3) rfl
theorem zNest_X2_88 : Cond.methodLinkNest "MixingRelays$Net" 88 ⟨"MixingRelays", "scaled", "(JI)J"⟩ "MixingRelays" ∈ zNest := List.mem_of_getElem? (i := 4) rfl
theorem zNest_X3_55 : Cond.methodLinkNest "MixingRelays$Span" 55 ⟨"MixingRelays", "slot", "(II)I"⟩ "MixingRelays" ∈ zNest := List.mem_of_getElem? (i := 5) rfl
theorem zNest_X3_68 : Cond.methodLinkNest "MixingRelays$Span" 68 ⟨"MixingRelays", "byteOf", "(JI)I"⟩ "MixingRelays" ∈ zNest := List.mem_of_getElem? (i := 6) rfl
theorem zNest_X3_72 : Cond.methodLinkNest "MixingRelays$Span" 72 ⟨"MixingRelays", "scaled", "(JI)J"⟩ "MixingRelays" ∈ zNest := List.mem_of_getElem? (i := 7) rfl
theorem zNest_X3_79 : Cond.methodLinkNest "MixingRelays$Span" 79 ⟨"MixingRelays", "inverseOf", "(I)I"⟩ "MixingRelays" ∈ zNest := List.mem_of_getElem? (i := 8) rfl
theorem zNest_X3_90 : Cond.methodLinkNest "MixingRelays$Span" 90 ⟨"MixingRelays", "product", "(II)I"⟩ "MixingRelays" ∈ zNest := List.mem_of_getElem? (i := 9) rfl
theorem zNest_X3_110 : Cond.methodLinkNest "MixingRelays$Span" 110 ⟨"MixingRelays", "flag", "(II)I"⟩ "MixingRelays" ∈ zNest := List.mem_of_getElem? (i := 10) rfl
theorem zNest_X1_35 : Cond.methodLinkNest "MixingRelays$Mixer" 35 ⟨"MixingRelays", "flag", "(II)I"⟩ "MixingRelays" ∈ zNest := List.mem_of_getElem? (i := 11) rfl
theorem zNest_X1_47 : Cond.methodLinkNest "MixingRelays$Mixer" 47 ⟨"MixingRelays", "slot", "(II)I"⟩ "MixingRelays" ∈ zNest := List.mem_of_getElem? (i := 12) rfl
theorem zNest_X1_78 : Cond.methodLinkNest "MixingRelays$Mixer" 78 ⟨"MixingRelays", "asFlag", "(Z)I"⟩ "MixingRelays" ∈ zNest := List.mem_of_getElem? (i := 13) rfl
theorem zNest_X0_48 : Cond.methodLinkNest "MixingRelays$Breaker" 48 ⟨"MixingRelays", "flag", "(II)I"⟩ "MixingRelays" ∈ zNest := List.mem_of_getElem? (i := 14) rfl
theorem zNest_X2_81 : Cond.fieldLinkNest "MixingRelays$Net" 81 "MixingRelays" "UNITS" "[J" "MixingRelays" ∈ zNest := List.mem_of_getElem? (i := 15) rfl
theorem zNest_X3_65 : Cond.fieldLinkNest "MixingRelays$Span" 65 "MixingRelays" "UNITS" "[J" "MixingRelays" ∈ zNest := List.mem_of_getElem? (i := 16) rfl
theorem zNok_warm {w : Cond} (hw : zNok w) {s U : State} (hW : s.WarmedH U.vm) (h : va_Nw w s) : va_Nw w U := by
  rcases hw with ⟨a, i, x, g, rfl⟩ | ⟨a, i, b, n, d, g, rfl⟩
  · exact va_Nw.warmM hW h
  · exact va_Nw.warmF hW h
theorem zNok_same {w : Cond} (hw : zNok w) {s U : State} (hv : s.vm = U.vm) (h : va_Nw w s) : va_Nw w U := by
  rcases hw with ⟨a, i, x, g, rfl⟩ | ⟨a, i, b, n, d, g, rfl⟩
  · exact va_Nw.same rfl hv h
  · exact va_Nw.same rfl hv h
/-- what stays through all of it: the tables, the addresses apart, the nest words, UNITS -/
def zSt (G : zG) (s : State) : Prop := va_K G.2.1 vwCl (zTy G) s ∧ (∀ i j, i < 43 → j < 43 → G.1 i = G.1 j → i = j) ∧ (∀ w ∈ zNest, va_Nw w s) ∧ va_Z "MixingRelays" "UNITS" "[J" (.ref G.2.2.2) (zAA G) s s.heap ∧ va_T .long G.2.2.2 4 zUv (zAA G) s s.heap
/-- what moves: the heap holds the memories -/
def zH (G : zG) (b : Bool) (s : State) (H : Heap) (locs : List Loc) (M O : zM) : Prop := va_P G.2.1 vwCl (zW G b M O) H ∧ va_S (zAA G) s.heap H locs
theorem zW_D {G : zG} {b : Bool} {M O : zM} (h : ∀ i j, i < 43 → j < 43 → G.1 i = G.1 j → i = j) : va_D (zAA G) (zW G b M O) := by
  have key : ∀ (k : Nat) (q : Nat × va_E), (zW G b M O)[k]? = some q → k < 43 ∧ q.1 = G.1 k := by
    intro k q hq
    by_cases hk : k < 43
    · rw [zW_get hk] at hq
      cases hq
      exact ⟨hk, rfl⟩
    · rw [zW_out hk] at hq
      cases hq
  refine ⟨fun i j p q hp hq hpq => ?_, fun k q hq => ?_⟩
  · obtain ⟨h1, h2⟩ := key i p hp
    obtain ⟨h3, h4⟩ := key j q hq
    exact h i j h1 h3 (by rw [← h2, ← h4]; exact hpq)
  · obtain ⟨h1, h2⟩ := key k q hq
    exact ⟨k, h1, h2⟩
theorem zSt.warm {G : zG} {b : Bool} {s U : State} {H : Heap} {locs : List Loc} {M O : zM} (h : zSt G s) (hH : zH G b s H locs M O) (hU : U.heap = H) (hW : s.WarmedH U.vm) : zSt G U := by
  obtain ⟨h1, h2, h3, h4, h5⟩ := h
  refine ⟨va_K.moved hW.alike h1, h2, fun w hw => zNok_warm (zNest_ok w hw) hW (h3 w hw), ?_, ?_⟩
  · rw [hU]; exact (h4.moved hW.alike).kept hH.2.2.1
  · rw [hU]; exact (h5.moved hW.alike).kept hH.2.2.1
theorem zSt.calling {G : zG} {U : State} (g : JFrame) (mk : MethodId) (a : Array Value) (h : zSt G U) : zSt G (U.calling g mk a) := by
  obtain ⟨h1, h2, h3, h4, h5⟩ := h
  exact ⟨va_K.moved (u := U) (U := U.calling g mk a) (Vm.Alike.refl U.vm) h1, h2, fun w hw => zNok_same (s := U) (U := U.calling g mk a) (zNest_ok w hw) rfl (h3 w hw), va_Z.moved (u := U) (U := U.calling g mk a) (Vm.Alike.refl U.vm) h4, va_T.moved (u := U) (U := U.calling g mk a) (Vm.Alike.refl U.vm) h5⟩
abbrev zPc (G : zG) (b : Bool) (M O : zM) (av : List Value) : Array Value → State → Prop := va_Pc av (fun U => zSt G U ∧ va_P G.2.1 vwCl (zW G b M O) U.heap)
def zB (G : zG) (b : Bool) (O : zM) (M : zM) (t : State) : Prop := va_P G.2.1 vwCl (zW G b M O) t.heap
section ZR
variable {p : Program} {l : Launch} {e : Env} {R : Room} {s : State} {m : MethodId} {args : Array Value} {below : List Frame} {meth : Method} {c : Code} {H : Heap} {locs : List Loc} {cells slots : Nat} {Q : State → Prop}
variable {cc : ByteArray} {pc nL : Nat} {ls : Array Slot} {rest st0 : List Value} {Ts : List Cond} {own : String} {G : zG} {b : Bool} {M O : zM}
theorem zpreS (hSt : zSt G s) (hH : zH G b s H locs M O) (As : List Value) : PreS s H (zPc G b M O As) As :=
  ⟨fun a U g mk q => ⟨q.1, q.2.1.calling g mk a, q.2.2⟩, fun U hU hW => ⟨rfl, hSt.warm hH hU hW, by rw [hU]; exact hH.1⟩⟩
theorem zpreV (hSt : zSt G s) (hH : zH G b s H locs M O) (k0 : Nat) (hc : k0 < 43) (hb : decide (k0 < 21) = b) {ci : Nat} {fs : List Value} (hE : zE G k0 (M.1 k0) (M.2 k0) = .inr (ci, fs)) {q : vw_C} (hcl : vwCl[ci]? = some q) (As : List Value) : PreV s H q.1 (G.1 k0) (zPc G b M O (.ref (G.1 k0) :: As)) As :=
  ⟨fun a U g mk q => ⟨q.1, q.2.1.calling g mk a, q.2.2⟩, va_recv hSt.1 hH.1 hcl (q0 := k0) (by rw [zW_at hc hb, hE]), fun U hU hW => ⟨rfl, hSt.warm hH hU hW, by rw [hU]; exact hH.1⟩⟩
theorem zget (hF : CallFix p m c cc nL s args Ts own) (hSt : zSt G s) (hH : zH G b s H locs M O) (k0 : Nat) (hc : k0 < 43) (hb : decide (k0 < 21) = b) {ci : Nat} {fs : List Value} (hE : zE G k0 (M.1 k0) (M.2 k0) = .inr (ci, fs)) {C : String} {T : u_T} {N : Nat} (hcl : vwCl[ci]? = some (C, T, N)) (hin : ∀ w ∈ u_ws C T N, w ∈ Ts) (k : Nat) (hk : k < N) {index : Nat} (hlink : Cond.fieldLink own index (T k).1 (T k).2.1 (T k).2.2.1 ∈ Ts) {v : Value} (hv : fs[k]? = some v) (hdg : decode cc pc = .ok (.getfield index, 3))
    (kk : W p l e R s m args below meth c H locs cells slots Q (F0 m (pc + 3) ls (v :: rest))) : W p l e R s m args below meth c H locs cells slots Q (F0 m pc ls (.ref (G.1 k0) :: rest)) :=
  va_get hF.1 hF.2.1 hF.2.2.2.2 hin hF.2.2.2.1 hSt.1 hH.1 k0 (by rw [zW_at hc hb, hE]) hcl k hk (hF.2.2.2.2 _ hlink) (fun _ h => h) hv hdg kk
theorem zput (hF : CallFix p m c cc nL s args Ts own) (hSt : zSt G s) (hH : zH G b s H locs M O) (k0 : Nat) (hc : k0 < 43) (hb : decide (k0 < 21) = b) {ci : Nat} {fs : List Value} (hE : zE G k0 (M.1 k0) (M.2 k0) = .inr (ci, fs)) {C : String} {T : u_T} {N : Nat} (hcl : vwCl[ci]? = some (C, T, N)) (hin : ∀ w ∈ u_ws C T N, w ∈ Ts) (ty0 : Nat → FieldType) (hty : ∀ k, k < N → parseFieldDescriptor (T k).2.2.1 = some (ty0 k)) (hnm : ∀ a, a < N → ∀ b, b < N → a ≠ b → (T a).2.1 ≠ (T b).2.1) (k : Nat) (hk : k < N) {index : Nat} (hlink : Cond.fieldLink own index (T k).1 (T k).2.1 (T k).2.2.1 ∈ Ts) (hfin : (T k).2.2.2 = false) (hd : parseFieldDescriptor (T k).2.2.1 = some .int) (hl : k < fs.length) {x : Int32} (hE2 : zE G k0 (upd (M.1 k0) k x) (M.2 k0) = .inr (ci, fs.set k (.int x))) (hdg : decode cc pc = .ok (.putfield index, 3))
    (kk : ∀ (H1 : Heap) (locs1 : List Loc), zH G b s H1 locs1 (zsi M k0 k x) O → W p l e R s m args below meth c H1 locs1 cells slots Q (F0 m (pc + 3) ls rest)) : W p l e R s m args below meth c H locs cells slots Q (F0 m pc ls (.int x :: .ref (G.1 k0) :: rest)) := by
  refine va_put (ty := .int) hF.1 hF.2.1 hF.2.2.2.2 hin ty0 hty hnm hF.2.2.2.1 hSt.1 hH.1 (zW_D hSt.2.1) hH.2 k0 (by rw [zW_at hc hb, hE]) hcl k hk (hF.2.2.2.2 _ hlink) (fun _ h => h) hfin hd rfl rfl hl hdg (fun H1 locs1 hP _ hS => kk H1 locs1 ⟨?_, hS⟩)
  rw [zW_set (G := G) (M := M) (O := O) (zsi M k0 k x) hc hb (fun a ha => by simp [zsi, zri, ha]) (fun a ha => rfl) (by simpa [zsi, zri] using hE2)] at hP
  exact hP
theorem zald (hF : CallFix p m c cc nL s args Ts own) (hSt : zSt G s) (hH : zH G b s H locs M O) (k0 : Nat) (hc : k0 < 43) (hb : decide (k0 < 21) = b) {n : Nat} (hE : zE G k0 (M.1 k0) (M.2 k0) = .inl (G.2.2.1.1, n, .inl (M.1 k0))) {i : Int32} (hin : vp_in i n) (hdg : decode cc pc = .ok (.iaload, 1))
    (kk : W p l e R s m args below meth c H locs cells slots Q (F0 m (pc + 1) ls (.int (M.1 k0 i.toNatClampNeg) :: rest))) : W p l e R s m args below meth c H locs cells slots Q (F0 m pc ls (.int i :: .ref (G.1 k0) :: rest)) :=
  va_iald hF.1 hF.2.1 hSt.1 hH.1 k0 0 (by rw [zW_at hc hb, hE]) rfl hin hdg kk
theorem zzald (hF : CallFix p m c cc nL s args Ts own) (hSt : zSt G s) (hH : zH G b s H locs M O) (k0 : Nat) (hc : k0 < 43) (hb : decide (k0 < 21) = b) {n : Nat} (hE : zE G k0 (M.1 k0) (M.2 k0) = .inl (G.2.2.1.2.2, n, .inl (M.1 k0))) {i : Int32} (hin : vp_in i n) (hdg : decode cc pc = .ok (.baload, 1))
    (kk : W p l e R s m args below meth c H locs cells slots Q (F0 m (pc + 1) ls (.int (M.1 k0 i.toNatClampNeg) :: rest))) : W p l e R s m args below meth c H locs cells slots Q (F0 m pc ls (.int i :: .ref (G.1 k0) :: rest)) :=
  va_zald hF.1 hF.2.1 hSt.1 hH.1 k0 2 (by rw [zW_at hc hb, hE]) rfl hin hdg kk
theorem zlald (hF : CallFix p m c cc nL s args Ts own) (hSt : zSt G s) (hH : zH G b s H locs M O) (k0 : Nat) (hc : k0 < 43) (hb : decide (k0 < 21) = b) {n : Nat} (hE : zE G k0 (M.1 k0) (M.2 k0) = .inl (G.2.2.1.2.1, n, .inr (.inl (M.2 k0)))) {i : Int32} (hin : vp_in i n) (hdg : decode cc pc = .ok (.laload, 1))
    (kk : W p l e R s m args below meth c H locs cells slots Q (F0 m (pc + 1) ls (.long (M.2 k0 i.toNatClampNeg) :: rest))) : W p l e R s m args below meth c H locs cells slots Q (F0 m pc ls (.int i :: .ref (G.1 k0) :: rest)) :=
  va_lald hF.1 hF.2.1 hSt.1 hH.1 k0 1 (by rw [zW_at hc hb, hE]) rfl hin hdg kk
theorem zuald (hF : CallFix p m c cc nL s args Ts own) (hSt : zSt G s) (hH : zH G b s H locs M O) {i : Int32} (hin : vp_in i 4) (hdg : decode cc pc = .ok (.laload, 1))
    (kk : W p l e R s m args below meth c H locs cells slots Q (F0 m (pc + 1) ls (.long (zU i.toNatClampNeg) :: rest))) : W p l e R s m args below meth c H locs cells slots Q (F0 m pc ls (.int i :: .ref G.2.2.2 :: rest)) :=
  va_tl hF.1 hF.2.1 hSt.2.2.2.2 hH.2 hin (v := .long (zU i.toNatClampNeg)) rfl hdg kk
theorem zugets (hF : CallFix p m c cc nL s args Ts own) (hSt : zSt G s) (hH : zH G b s H locs M O) {index : Nat} (hw : Cond.fieldLinkNest own index "MixingRelays" "UNITS" "[J" "MixingRelays" ∈ zNest) (hdg : decode cc pc = .ok (.getstatic index, 3))
    (kk : W p l e R s m args below meth c H locs cells slots Q (F0 m (pc + 3) ls (.ref G.2.2.2 :: rest))) : W p l e R s m args below meth c H locs cells slots Q (F0 m pc ls rest) :=
  va_getsN hF.1 hF.2.1 hSt.2.2.2.1 hH.2 hF.2.2.2.1 (va_Nw.use rfl (hSt.2.2.1 _ hw)) (fun _ h => h) hdg kk
theorem zast (hF : CallFix p m c cc nL s args Ts own) (hSt : zSt G s) (hH : zH G b s H locs M O) (k0 : Nat) (hc : k0 < 43) (hb : decide (k0 < 21) = b) {n : Nat} (hE : ∀ f g, zE G k0 f g = .inl (G.2.2.1.1, n, .inl f)) {i x : Int32} (hin : vp_in i n) (hdg : decode cc pc = .ok (.iastore, 1))
    (kk : ∀ (H1 : Heap) (locs1 : List Loc), zH G b s H1 locs1 (zsi M k0 i.toNatClampNeg x) O → W p l e R s m args below meth c H1 locs1 cells slots Q (F0 m (pc + 1) ls rest)) : W p l e R s m args below meth c H locs cells slots Q (F0 m pc ls (.int x :: .int i :: .ref (G.1 k0) :: rest)) := by
  refine va_iast (f := M.1 k0) hF.1 hF.2.1 hSt.1 hH.1 (zW_D hSt.2.1) hH.2 k0 0 (by rw [zW_at hc hb, hE]) rfl hin hdg (fun H1 locs1 hP _ hS => kk H1 locs1 ⟨?_, hS⟩)
  rw [zW_set (G := G) (M := M) (O := O) (zsi M k0 i.toNatClampNeg x) hc hb (fun a ha => by simp [zsi, zri, ha]) (fun a ha => rfl) (by rw [hE]; simp [zsi, zri])] at hP
  exact hP
theorem zzast (hF : CallFix p m c cc nL s args Ts own) (hSt : zSt G s) (hH : zH G b s H locs M O) (k0 : Nat) (hc : k0 < 43) (hb : decide (k0 < 21) = b) {n : Nat} (hE : ∀ f g, zE G k0 f g = .inl (G.2.2.1.2.2, n, .inl f)) {i x : Int32} (hin : vp_in i n) (hdg : decode cc pc = .ok (.bastore, 1))
    (kk : ∀ (H1 : Heap) (locs1 : List Loc), zH G b s H1 locs1 (zsi M k0 i.toNatClampNeg (vp_nar .boolean x)) O → W p l e R s m args below meth c H1 locs1 cells slots Q (F0 m (pc + 1) ls rest)) : W p l e R s m args below meth c H locs cells slots Q (F0 m pc ls (.int x :: .int i :: .ref (G.1 k0) :: rest)) := by
  refine va_zast (f := M.1 k0) hF.1 hF.2.1 hSt.1 hH.1 (zW_D hSt.2.1) hH.2 k0 2 (by rw [zW_at hc hb, hE]) rfl hin hdg (fun H1 locs1 hP _ hS => kk H1 locs1 ⟨?_, hS⟩)
  rw [zW_set (G := G) (M := M) (O := O) (zsi M k0 i.toNatClampNeg (vp_nar .boolean x)) hc hb (fun a ha => by simp [zsi, zri, ha]) (fun a ha => rfl) (by rw [hE]; simp [zsi, zri])] at hP
  exact hP
theorem zlast (hF : CallFix p m c cc nL s args Ts own) (hSt : zSt G s) (hH : zH G b s H locs M O) (k0 : Nat) (hc : k0 < 43) (hb : decide (k0 < 21) = b) {n : Nat} (hE : ∀ f g, zE G k0 f g = .inl (G.2.2.1.2.1, n, .inr (.inl g))) {i : Int32} {x : Int64} (hin : vp_in i n) (hdg : decode cc pc = .ok (.lastore, 1))
    (kk : ∀ (H1 : Heap) (locs1 : List Loc), zH G b s H1 locs1 (zsj M k0 i.toNatClampNeg x) O → W p l e R s m args below meth c H1 locs1 cells slots Q (F0 m (pc + 1) ls rest)) : W p l e R s m args below meth c H locs cells slots Q (F0 m pc ls (.long x :: .int i :: .ref (G.1 k0) :: rest)) := by
  refine va_last (f := M.2 k0) hF.1 hF.2.1 hSt.1 hH.1 (zW_D hSt.2.1) hH.2 k0 1 (by rw [zW_at hc hb, hE]) rfl hin hdg (fun H1 locs1 hP _ hS => kk H1 locs1 ⟨?_, hS⟩)
  rw [zW_set (G := G) (M := M) (O := O) (zsj M k0 i.toNatClampNeg x) hc hb (fun a ha => rfl) (fun a ha => by simp [zsj, zrj, ha]) (by rw [hE]; simp [zsj, zrj])] at hP
  exact hP
theorem zalenI (hF : CallFix p m c cc nL s args Ts own) (hSt : zSt G s) (hH : zH G b s H locs M O) (k0 : Nat) (hc : k0 < 43) (hb : decide (k0 < 21) = b) {n : Nat} (hE : zE G k0 (M.1 k0) (M.2 k0) = .inl (G.2.2.1.1, n, .inl (M.1 k0))) {v : Int32} (hv : Int32.ofNat n = v) (hdg : decode cc pc = .ok (.arraylength, 1))
    (kk : W p l e R s m args below meth c H locs cells slots Q (F0 m (pc + 1) ls (.int v :: rest))) : W p l e R s m args below meth c H locs cells slots Q (F0 m pc ls (.ref (G.1 k0) :: rest)) :=
  va_alen (x := (n, .inl (M.1 k0))) hF.1 hF.2.1 hSt.1 hH.1 k0 0 (by rw [zW_at hc hb, hE]) rfl hv hdg kk
theorem zalenJ (hF : CallFix p m c cc nL s args Ts own) (hSt : zSt G s) (hH : zH G b s H locs M O) (k0 : Nat) (hc : k0 < 43) (hb : decide (k0 < 21) = b) {n : Nat} (hE : zE G k0 (M.1 k0) (M.2 k0) = .inl (G.2.2.1.2.1, n, .inr (.inl (M.2 k0)))) {v : Int32} (hv : Int32.ofNat n = v) (hdg : decode cc pc = .ok (.arraylength, 1))
    (kk : W p l e R s m args below meth c H locs cells slots Q (F0 m (pc + 1) ls (.int v :: rest))) : W p l e R s m args below meth c H locs cells slots Q (F0 m pc ls (.ref (G.1 k0) :: rest)) :=
  va_alen (x := (n, .inr (.inl (M.2 k0)))) hF.1 hF.2.1 hSt.1 hH.1 k0 1 (by rw [zW_at hc hb, hE]) rfl hv hdg kk
theorem zcopy (hF : CallFix p m c cc nL s args Ts own) (hSt : zSt G s) (hH : zH G b s H locs M O) (hls : ls.size = nL) {index : Nat} (hlink : Cond.methodLink own index arraycopyName ∈ Ts) (hnat : Cond.native arraycopyName ∈ Ts) (hstat : Cond.static arraycopyName ∈ Ts) (hini : Cond.initialized "java/lang/System" ∈ Ts) (k0 k1 : Nat) (hc0 : k0 < 43) (hb0 : decide (k0 < 21) = b) (hc1 : k1 < 43) (hb1 : decide (k1 < 21) = b) {n0 n1 : Nat} (hE0 : ∀ f g, zE G k0 f g = .inl (G.2.2.1.1, n0, .inl f)) (hE1 : ∀ f g, zE G k1 f g = .inl (G.2.2.1.1, n1, .inl f)) {sp dp n : Int32} (h1 : ¬ sp < 0) (h2 : ¬ dp < 0) (h3 : ¬ n < 0) (h4 : sp.toNatClampNeg + n.toNatClampNeg ≤ n0) (h5 : dp.toNatClampNeg + n.toNatClampNeg ≤ n1) (hframes : 1 ≤ R.frames) (hlocals : (rest.map fun v => v.category).sum + (nativeFrameWords "java/lang/System" "arraycopy" 5 + 11) ≤ R.locals) (hdg : decode cc pc = .ok (.invokestatic index, 3))
    (kk : ∀ (H1 : Heap) (locs1 : List Loc), zH G b s H1 locs1 (zri M k1 (va_cpy (M.1 k0) (M.1 k1) sp.toNatClampNeg dp.toNatClampNeg n.toNatClampNeg)) O → W p l e R s m args below meth c H1 locs1 cells slots Q (F0 m (pc + 3) ls rest)) : W p l e R s m args below meth c H locs cells slots Q (F0 m pc ls (.int n :: .int dp :: .ref (G.1 k1) :: .int sp :: .ref (G.1 k0) :: rest)) := by
  refine va_copyi (ty := .int) hF.1 hF.2.1 (hF.2.2.1.trans hls.symm) hF.2.2.2.1 (hF.2.2.2.2 _ hlink) (hF.2.2.2.2 _ hnat) (hF.2.2.2.2 _ hstat) (hF.2.2.2.2 _ hini) hSt.1 hH.1 (zW_D hSt.2.1) hH.2 k0 k1 0 0 (by rw [zW_at hc0 hb0, hE0]) (by rw [zW_at hc1 hb1, hE1]) rfl rfl rfl h1 h2 h3 h4 h5 (fun _ _ => rfl) hframes hlocals hdg (fun H1 locs1 hP _ hS => kk H1 locs1 ⟨?_, hS⟩)
  rw [zW_set (G := G) (M := M) (O := O) (zri M k1 (va_cpy (M.1 k0) (M.1 k1) sp.toNatClampNeg dp.toNatClampNeg n.toNatClampNeg)) hc1 hb1 (fun a ha => by simp [zri, ha]) (fun a ha => rfl) (by rw [hE1]; simp [zri])] at hP
  exact hP
/-- calls: what writes, what only reads -/
theorem zcalli {post : Int32 → zM → Prop} {a : Array Value} (hH : zH G b s H locs M O) (hr : va_Run p l e R s m args below meth c H locs cells slots 0 0 (F0 m pc ls st0) rest (va_Qi post (zB G b O) (zAA G) a) (zAA G))
    (kk : ∀ (r : Int32) (M1 : zM) (H1 : Heap) (locs1 : List Loc), post r M1 → zH G b s H1 locs1 M1 O → W p l e R s m args below meth c H1 locs1 cells slots Q (F0 m (pc + 3) ls (.int r :: rest))) : W p l e R s m args below meth c H locs cells slots Q (F0 m pc ls st0) :=
  va_calli hr hH.2 (fun _ _ h => h) (fun _ h => h) (fun r u t H1 locs1 ht _ hp hB _ _ hS => kk r u H1 locs1 hp ⟨by rw [← ht]; exact hB, hS⟩)
theorem zcalliP {post : Int32 → Prop} {a : Array Value} (hH : zH G b s H locs M O) (hr : va_Run p l e R s m args below meth c H locs cells slots 0 0 (F0 m pc ls st0) rest (va_Qi (fun r M1 => M1 = M ∧ post r) (zB G b O) (zAA G) a) (zAA G))
    (kk : ∀ (r : Int32) (H1 : Heap) (locs1 : List Loc), post r → zH G b s H1 locs1 M O → W p l e R s m args below meth c H1 locs1 cells slots Q (F0 m (pc + 3) ls (.int r :: rest))) : W p l e R s m args below meth c H locs cells slots Q (F0 m pc ls st0) :=
  zcalli hH hr (fun r M1 H1 locs1 hp hH1 => kk r H1 locs1 hp.2 (by rw [← hp.1]; exact hH1))
theorem zcalll {post : Int64 → zM → Prop} {a : Array Value} (hH : zH G b s H locs M O) (hr : va_Run p l e R s m args below meth c H locs cells slots 0 0 (F0 m pc ls st0) rest (va_Ql post (zB G b O) (zAA G) a) (zAA G))
    (kk : ∀ (r : Int64) (M1 : zM) (H1 : Heap) (locs1 : List Loc), post r M1 → zH G b s H1 locs1 M1 O → W p l e R s m args below meth c H1 locs1 cells slots Q (F0 m (pc + 3) ls (.long r :: rest))) : W p l e R s m args below meth c H locs cells slots Q (F0 m pc ls st0) :=
  va_calll hr hH.2 (fun _ _ h => h) (fun _ h => h) (fun r u t H1 locs1 ht _ hp hB _ _ hS => kk r u H1 locs1 hp ⟨by rw [← ht]; exact hB, hS⟩)
theorem zcalllP {post : Int64 → Prop} {a : Array Value} (hH : zH G b s H locs M O) (hr : va_Run p l e R s m args below meth c H locs cells slots 0 0 (F0 m pc ls st0) rest (va_Ql (fun r M1 => M1 = M ∧ post r) (zB G b O) (zAA G) a) (zAA G))
    (kk : ∀ (r : Int64) (H1 : Heap) (locs1 : List Loc), post r → zH G b s H1 locs1 M O → W p l e R s m args below meth c H1 locs1 cells slots Q (F0 m (pc + 3) ls (.long r :: rest))) : W p l e R s m args below meth c H locs cells slots Q (F0 m pc ls st0) :=
  zcalll hH hr (fun r M1 H1 locs1 hp hH1 => kk r H1 locs1 hp.2 (by rw [← hp.1]; exact hH1))
theorem zcallv {post : zM → Prop} {a : Array Value} (hH : zH G b s H locs M O) (hr : va_Run p l e R s m args below meth c H locs cells slots 0 0 (F0 m pc ls st0) rest (va_Qv post (zB G b O) (zAA G) a) (zAA G))
    (kk : ∀ (M1 : zM) (H1 : Heap) (locs1 : List Loc), post M1 → zH G b s H1 locs1 M1 O → W p l e R s m args below meth c H1 locs1 cells slots Q (F0 m (pc + 3) ls rest)) : W p l e R s m args below meth c H locs cells slots Q (F0 m pc ls st0) :=
  va_callv hr hH.2 (fun _ _ h => h) (fun _ h => h) (fun u t H1 locs1 ht _ hp hB _ _ hS => kk u H1 locs1 hp ⟨by rw [← ht]; exact hB, hS⟩)
theorem zcallvP {post : Prop} {a : Array Value} (hH : zH G b s H locs M O) (hr : va_Run p l e R s m args below meth c H locs cells slots 0 0 (F0 m pc ls st0) rest (va_Qv (fun M1 => M1 = M ∧ post) (zB G b O) (zAA G) a) (zAA G))
    (kk : ∀ (H1 : Heap) (locs1 : List Loc), post → zH G b s H1 locs1 M O → W p l e R s m args below meth c H1 locs1 cells slots Q (F0 m (pc + 3) ls rest)) : W p l e R s m args below meth c H locs cells slots Q (F0 m pc ls st0) :=
  zcallv hH hr (fun M1 H1 locs1 hp hH1 => kk H1 locs1 hp.2 (by rw [← hp.1]; exact hH1))
end ZR
/-- ends -/
def zRi (p : Program) (l : Launch) (e : Env) (R : Room) (s : State) (m : MethodId) (args : Array Value) (below : List Frame) (meth : Method) (c : Code) (Q : State → Prop) (cc : ByteArray) (G : zG) (b : Bool) (O : zM) (post : Int32 → zM → Prop) : Prop := ∀ (r : Int32) (M : zM) (H : Heap) (locs : List Loc) (ls : Array Slot) (pc : Nat), decode cc pc = .ok (.ireturn, 1) → post r M → zH G b s H locs M O → W p l e R s m args below meth c H locs 0 0 Q (F0 m pc ls [.int r])
def zRz (p : Program) (l : Launch) (e : Env) (R : Room) (s : State) (m : MethodId) (args : Array Value) (below : List Frame) (meth : Method) (c : Code) (Q : State → Prop) (cc : ByteArray) (G : zG) (b : Bool) (O : zM) (post : Int32 → zM → Prop) : Prop := ∀ (r : Int32) (M : zM) (H : Heap) (locs : List Loc) (ls : Array Slot) (pc : Nat), decode cc pc = .ok (.ireturn, 1) → (r = 0 ∨ r = 1) ∧ post r M → zH G b s H locs M O → W p l e R s m args below meth c H locs 0 0 Q (F0 m pc ls [.int r])
def zRl (p : Program) (l : Launch) (e : Env) (R : Room) (s : State) (m : MethodId) (args : Array Value) (below : List Frame) (meth : Method) (c : Code) (Q : State → Prop) (cc : ByteArray) (G : zG) (b : Bool) (O : zM) (post : Int64 → zM → Prop) : Prop := ∀ (r : Int64) (M : zM) (H : Heap) (locs : List Loc) (ls : Array Slot) (pc : Nat), decode cc pc = .ok (.lreturn, 1) → post r M → zH G b s H locs M O → W p l e R s m args below meth c H locs 0 0 Q (F0 m pc ls [.long r])
def zRv (p : Program) (l : Launch) (e : Env) (R : Room) (s : State) (m : MethodId) (args : Array Value) (below : List Frame) (meth : Method) (c : Code) (Q : State → Prop) (cc : ByteArray) (G : zG) (b : Bool) (O : zM) (post : zM → Prop) : Prop := ∀ (M : zM) (H : Heap) (locs : List Loc) (ls : Array Slot) (pc : Nat), decode cc pc = .ok (.return_, 1) → post M → zH G b s H locs M O → W p l e R s m args below meth c H locs 0 0 Q (F0 m pc ls [])

theorem zmet_i {l : Launch} {y : MethodName} {ws ws' : List Cond} {rm : Room} {cc : ByteArray} {maxL : Nat} {G : zG} {b : Bool} {M O : zM} {post : Int32 → zM → Prop} {av : List Value} (hy : plainName y.cls = true) (hw : ws = Cond.code y cc maxL (some .int) :: ws') (hlen : (lg_sl av).length ≤ maxL)
    (walk : ∀ {p : Program} {e : Env} {s : State} {m : MethodId} {args : Array Value} {below : List Frame} {meth : Method} {c : Code} {Q : State → Prop}, CallFix p m c cc maxL s args ws y.cls → zSt G s → zRi p l e rm s m args below meth c Q cc G b O post → ∀ (H : Heap) (locs : List Loc) (ls : Array Slot), zH G b s H locs M O → lv_has ls maxL (lv_args 0 av) → W p l e rm s m args below meth c H locs 0 0 Q (F0 m 0 ls [])) :
    Met l y ws rm (zPc G b M O av) (va_Qi post (zB G b O) (zAA G)) 0 0 (zAA G) := by
  refine Met.ofW (cc := cc) (maxL := maxL) (ret := some .int) hy hw ?_
  intro p e s m args below meth c s₁ B hml hv
  obtain ⟨rfl, hSt, hP⟩ := hv
  rw [lg_entry_eq]
  exact walk ⟨B.exec, B.bytes, hml, findClass_of_methodNamed B.named, atoms_spec (ws := ws) B.pre⟩ hSt (fun r M1 H locs ls pc hdg hp hH => W.iret B.exec B.bytes B.returns (fun t ht _ => ⟨⟨r, M1, rfl, hp, by show va_P _ _ _ _; rw [ht]; exact hH.1⟩, hH.2.F ht⟩) hH.2.2.2 hdg B.notSynchronized) s.heap [] _ ⟨hP, va_S.rf⟩ (lv_entry av hlen)
theorem zmet_z {l : Launch} {y : MethodName} {ws ws' : List Cond} {rm : Room} {cc : ByteArray} {maxL : Nat} {G : zG} {b : Bool} {M O : zM} {post : Int32 → zM → Prop} {av : List Value} (hy : plainName y.cls = true) (hw : ws = Cond.code y cc maxL (some .boolean) :: ws') (hlen : (lg_sl av).length ≤ maxL)
    (walk : ∀ {p : Program} {e : Env} {s : State} {m : MethodId} {args : Array Value} {below : List Frame} {meth : Method} {c : Code} {Q : State → Prop}, CallFix p m c cc maxL s args ws y.cls → zSt G s → zRz p l e rm s m args below meth c Q cc G b O post → ∀ (H : Heap) (locs : List Loc) (ls : Array Slot), zH G b s H locs M O → lv_has ls maxL (lv_args 0 av) → W p l e rm s m args below meth c H locs 0 0 Q (F0 m 0 ls [])) :
    Met l y ws rm (zPc G b M O av) (va_Qi post (zB G b O) (zAA G)) 0 0 (zAA G) := by
  refine Met.ofW (cc := cc) (maxL := maxL) (ret := some .boolean) hy hw ?_
  intro p e s m args below meth c s₁ B hml hv
  obtain ⟨rfl, hSt, hP⟩ := hv
  rw [lg_entry_eq]
  exact walk ⟨B.exec, B.bytes, hml, findClass_of_methodNamed B.named, atoms_spec (ws := ws) B.pre⟩ hSt (fun r M1 H locs ls pc hdg hp hH => W.zret B.exec B.bytes B.returns (by rcases hp.1 with q | q <;> rw [q] <;> rfl) (fun t ht _ => ⟨⟨r, M1, rfl, hp.2, by show va_P _ _ _ _; rw [ht]; exact hH.1⟩, hH.2.F ht⟩) hH.2.2.2 hdg B.notSynchronized) s.heap [] _ ⟨hP, va_S.rf⟩ (lv_entry av hlen)
theorem zmet_l {l : Launch} {y : MethodName} {ws ws' : List Cond} {rm : Room} {cc : ByteArray} {maxL : Nat} {G : zG} {b : Bool} {M O : zM} {post : Int64 → zM → Prop} {av : List Value} (hy : plainName y.cls = true) (hw : ws = Cond.code y cc maxL (some .long) :: ws') (hlen : (lg_sl av).length ≤ maxL)
    (walk : ∀ {p : Program} {e : Env} {s : State} {m : MethodId} {args : Array Value} {below : List Frame} {meth : Method} {c : Code} {Q : State → Prop}, CallFix p m c cc maxL s args ws y.cls → zSt G s → zRl p l e rm s m args below meth c Q cc G b O post → ∀ (H : Heap) (locs : List Loc) (ls : Array Slot), zH G b s H locs M O → lv_has ls maxL (lv_args 0 av) → W p l e rm s m args below meth c H locs 0 0 Q (F0 m 0 ls [])) :
    Met l y ws rm (zPc G b M O av) (va_Ql post (zB G b O) (zAA G)) 0 0 (zAA G) := by
  refine Met.ofW (cc := cc) (maxL := maxL) (ret := some .long) hy hw ?_
  intro p e s m args below meth c s₁ B hml hv
  obtain ⟨rfl, hSt, hP⟩ := hv
  rw [lg_entry_eq]
  exact walk ⟨B.exec, B.bytes, hml, findClass_of_methodNamed B.named, atoms_spec (ws := ws) B.pre⟩ hSt (fun r M1 H locs ls pc hdg hp hH => W.lret B.exec B.bytes B.returns (fun t ht _ => ⟨⟨r, M1, rfl, hp, by show va_P _ _ _ _; rw [ht]; exact hH.1⟩, hH.2.F ht⟩) hH.2.2.2 hdg B.notSynchronized) s.heap [] _ ⟨hP, va_S.rf⟩ (lv_entry av hlen)
theorem zmet_v {l : Launch} {y : MethodName} {ws ws' : List Cond} {rm : Room} {cc : ByteArray} {maxL : Nat} {G : zG} {b : Bool} {M O : zM} {post : zM → Prop} {av : List Value} (hy : plainName y.cls = true) (hw : ws = Cond.code y cc maxL (none) :: ws') (hlen : (lg_sl av).length ≤ maxL)
    (walk : ∀ {p : Program} {e : Env} {s : State} {m : MethodId} {args : Array Value} {below : List Frame} {meth : Method} {c : Code} {Q : State → Prop}, CallFix p m c cc maxL s args ws y.cls → zSt G s → zRv p l e rm s m args below meth c Q cc G b O post → ∀ (H : Heap) (locs : List Loc) (ls : Array Slot), zH G b s H locs M O → lv_has ls maxL (lv_args 0 av) → W p l e rm s m args below meth c H locs 0 0 Q (F0 m 0 ls [])) :
    Met l y ws rm (zPc G b M O av) (va_Qv post (zB G b O) (zAA G)) 0 0 (zAA G) := by
  refine Met.ofW (cc := cc) (maxL := maxL) (ret := none) hy hw ?_
  intro p e s m args below meth c s₁ B hml hv
  obtain ⟨rfl, hSt, hP⟩ := hv
  rw [lg_entry_eq]
  exact walk ⟨B.exec, B.bytes, hml, findClass_of_methodNamed B.named, atoms_spec (ws := ws) B.pre⟩ hSt (fun M1 H locs ls pc hdg hp hH => W.vret B.exec B.bytes B.returns (fun t ht _ => ⟨⟨M1, rfl, hp, by show va_P _ _ _ _; rw [ht]; exact hH.1⟩, hH.2.F ht⟩) hH.2.2.2 hdg B.notSynchronized) s.heap [] _ ⟨hP, va_S.rf⟩ (lv_entry av hlen)
