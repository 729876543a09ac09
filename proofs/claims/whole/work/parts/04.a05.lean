theorem znX3_take_X3 : ∀ w ∈ wsX30, w ∈ wsX3_take := fun _ h => List.mem_cons_of_mem _ (List.mem_append_left _ (List.mem_append_right _ h))
theorem znX3_take_X2 : ∀ w ∈ wsX20, w ∈ wsX3_take := fun _ h => List.mem_cons_of_mem _ (List.mem_append_right _ h)
theorem zdX3_take : yX3_take.cls ≠ "java/lang/invoke/MethodHandle" ∧ yX3_take.cls ≠ "java/lang/invoke/VarHandle" ∧ (parseMethodDescriptor yX3_take.desc).map (fun d => d.parameters.length) = some 1 := by decide +kernel
-- MixingRelays$Span take(I)V
section
variable {p : Program} {l : Launch} {e : Env} {s : State} {m : MethodId} {args : Array Value} {below : List Frame} {meth : Method} {c : Code} {Q : State → Prop} {G : zG} {O : zM}
def pX3_take_b99 (post : zM → Prop) (ag99 : Int32 → Int64 → Int32 → Int32 → zM → Prop) (x1 : Int32) (x2 : Int64) (x4 : Int32) (x5 : Int32) (M : zM) : Prop :=
  ((M.1 1 2) ≤ x5 → vp_in x4 4 ∧ vp_in ((zsj M 17 x4.toNatClampNeg x2).1 3 3) 4 ∧ post (zsi (zsi (zsj M 17 x4.toNatClampNeg x2) 18 (((zsj M 17 x4.toNatClampNeg x2).1 3 3)).toNatClampNeg x1) 3 3 (((zsi (zsj M 17 x4.toNatClampNeg x2) 18 (((zsj M 17 x4.toNatClampNeg x2).1 3 3)).toNatClampNeg x1).1 3 3) + (1 : Int32)))) ∧ (¬ ((M.1 1 2) ≤ x5) → vp_in x5 4 ∧ vp_in x5 4 ∧ pX5_byteOf (M.2 17 x5.toNatClampNeg) x4 (fun r129 => pX5_scaled x2 r129 (fun r132 => vp_in x5 4 ∧ ag99 x1 x2 x4 (x5 + (1 : Int32)) (zsj M 17 x5.toNatClampNeg ((M.2 17 x5.toNatClampNeg) ^^^ r132)))))
set_option maxHeartbeats 4000000 in
set_option maxRecDepth 100000 in
theorem wX3_take_b99 {post : zM → Prop} {ag99 : Int32 → Int64 → Int32 → Int32 → zM → Prop} (hF : CallFix p m c cX3_take 6 s args wsX3_take RX3) (hSt : zSt G s) (hret : zRv p l e ({ frames := 2, cells := 0, slots := 0, locals := 55 } : Room) s m args below meth c Q cX3_take G true O post) (hag99 : ∀ (x1 : Int32) (x2 : Int64) (x4 : Int32) (x5 : Int32) (M : zM) (H : Heap) (locs : List Loc) (ls : Array Slot), ag99 x1 x2 x4 x5 M → zH G true s H locs M O → lv_has ls 6 [(0, .ref (G.1 3)), (1, .int x1), (2, .long x2), (4, .int x4), (5, .int x5)] → W p l e ({ frames := 2, cells := 0, slots := 0, locals := 55 } : Room) s m args below meth c H locs 0 0 Q (F0 m 99 ls [])) (x1 : Int32) (x2 : Int64) (x4 : Int32) (x5 : Int32) (M : zM) (H : Heap) (locs : List Loc) (ls : Array Slot) (hH : zH G true s H locs M O) (hl : lv_has ls 6 [(0, .ref (G.1 3)), (1, .int x1), (2, .long x2), (4, .int x4), (5, .int x5)]) (h : pX3_take_b99 post ag99 x1 x2 x4 x5 M) : W p l e ({ frames := 2, cells := 0, slots := 0, locals := 55 } : Room) s m args below meth c H locs 0 0 Q (F0 m 99 ls []) := by
  obtain ⟨hx, hb, hml, hown, hts⟩ := id hF
  unfold pX3_take_b99 at h
  refine lv_iload hx hb dX3_take_99 (lv_at hl 4 rfl) ?_
  refine lv_aload_n hx hb dX3_take_101 rfl (lv_at hl 0 rfl) ?_
  refine zget (v := .ref (G.1 1)) hF hSt hH 3 (by decide) rfl (zE_3 _ _ _) (C := RX3) (T := TX3) (N := 4) rfl znX3_take_X3 0 (by decide) (List.mem_of_getElem? (i := 1) rfl) rfl dX3_take_102 ?_
  refine zget (v := .int (M.1 1 2)) hF hSt hH 1 (by decide) rfl (zE_1 _ _ _) (C := RX2) (T := TX2) (N := 16) rfl znX3_take_X2 2 (by decide) (List.mem_of_getElem? (i := 4) rfl) rfl dX3_take_105 ?_
  refine lv_icmp_ge (tgt := 143) hx hb dX3_take_108 (by decide) (fun q108 => ?_) (fun q108 => ?_)
  · have h := h.1 q108
    refine lv_aload_n hx hb dX3_take_143 rfl (lv_at hl 0 rfl) ?_
    refine zget (v := .ref (G.1 17)) hF hSt hH 3 (by decide) rfl (zE_3 _ _ _) (C := RX3) (T := TX3) (N := 4) rfl znX3_take_X3 1 (by decide) (List.mem_of_getElem? (i := 5) rfl) rfl dX3_take_144 ?_
    refine lv_iload hx hb dX3_take_147 (lv_at hl 3 rfl) ?_
    refine lv_lload_n hx hb dX3_take_149 rfl (lv_at hl 2 rfl) ?_
    obtain ⟨q150, h⟩ := h
    refine zlast hF hSt hH 17 (by decide) rfl (zE_17 _) (x := x2) q150 dX3_take_150 (fun H locs hH => ?_)
    refine lv_aload_n hx hb dX3_take_151 rfl (lv_at hl 0 rfl) ?_
    refine zget (v := .ref (G.1 18)) hF hSt hH 3 (by decide) rfl (zE_3 _ _ _) (C := RX3) (T := TX3) (N := 4) rfl znX3_take_X3 2 (by decide) (List.mem_of_getElem? (i := 6) rfl) rfl dX3_take_152 ?_
    refine lv_aload_n hx hb dX3_take_155 rfl (lv_at hl 0 rfl) ?_
    refine zget (v := .int ((zsj M 17 x4.toNatClampNeg x2).1 3 3)) hF hSt hH 3 (by decide) rfl (zE_3 _ _ _) (C := RX3) (T := TX3) (N := 4) rfl znX3_take_X3 3 (by decide) (List.mem_of_getElem? (i := 3) rfl) rfl dX3_take_156 ?_
    refine lv_iload_n hx hb dX3_take_159 rfl (lv_at hl 1 rfl) ?_
    obtain ⟨q160, h⟩ := h
    refine zast hF hSt hH 18 (by decide) rfl (zE_18 _) (x := x1) q160 dX3_take_160 (fun H locs hH => ?_)
    refine lv_aload_n hx hb dX3_take_161 rfl (lv_at hl 0 rfl) ?_
    refine lv_dup hx hb dX3_take_162 rfl ?_
    refine zget (v := .int ((zsi (zsj M 17 x4.toNatClampNeg x2) 18 (((zsj M 17 x4.toNatClampNeg x2).1 3 3)).toNatClampNeg x1).1 3 3)) hF hSt hH 3 (by decide) rfl (zE_3 _ _ _) (C := RX3) (T := TX3) (N := 4) rfl znX3_take_X3 3 (by decide) (List.mem_of_getElem? (i := 3) rfl) rfl dX3_take_163 ?_
    refine lv_iconst (v := (1 : Int32)) hx hb dX3_take_166 (by decide) ?_
    refine lv_iadd hx hb dX3_take_167 ?_
    refine zput hF hSt hH 3 (by decide) rfl (zE_3 _ _ _) (C := RX3) (T := TX3) (N := 4) rfl znX3_take_X3 tyX3 tyX3_ok nmX3 3 (by decide) (List.mem_of_getElem? (i := 3) rfl) rfl (by decide +kernel) (Nat.le_of_ble_eq_true rfl) (x := (((zsi (zsj M 17 x4.toNatClampNeg x2) 18 (((zsj M 17 x4.toNatClampNeg x2).1 3 3)).toNatClampNeg x1).1 3 3) + (1 : Int32))) rfl dX3_take_168 (fun H locs hH => ?_)
    exact hret _ _ _ _ _ dX3_take_171 h hH
  · have h := h.2 q108
    refine lv_aload_n hx hb dX3_take_111 rfl (lv_at hl 0 rfl) ?_
    refine zget (v := .ref (G.1 17)) hF hSt hH 3 (by decide) rfl (zE_3 _ _ _) (C := RX3) (T := TX3) (N := 4) rfl znX3_take_X3 1 (by decide) (List.mem_of_getElem? (i := 5) rfl) rfl dX3_take_112 ?_
    refine lv_iload hx hb dX3_take_115 (lv_at hl 4 rfl) ?_
    refine lv_dup2_11 hx hb dX3_take_117 rfl rfl ?_
    obtain ⟨q118, h⟩ := h
    refine zlald hF hSt hH 17 (by decide) rfl (zE_17 _ _ _) q118 dX3_take_118 ?_
    refine lv_lload_n hx hb dX3_take_119 rfl (lv_at hl 2 rfl) ?_
    refine lv_aload_n hx hb dX3_take_120 rfl (lv_at hl 0 rfl) ?_
    refine zget (v := .ref (G.1 17)) hF hSt hH 3 (by decide) rfl (zE_3 _ _ _) (C := RX3) (T := TX3) (N := 4) rfl znX3_take_X3 1 (by decide) (List.mem_of_getElem? (i := 5) rfl) rfl dX3_take_121 ?_
    refine lv_iload hx hb dX3_take_124 (lv_at hl 4 rfl) ?_
    obtain ⟨q126, h⟩ := h
    refine zlald hF hSt hH 17 (by decide) rfl (zE_17 _ _ _) q126 dX3_take_126 ?_
    refine lv_iload hx hb dX3_take_127 (lv_at hl 3 rfl) ?_
    refine zcalliP hH (va_runSN (As := [.long (M.2 17 x5.toNatClampNeg), .int x4]) (rest := [.long x2, .long (M.2 17 x5.toNatClampNeg), .int x5, .ref (G.1 17)]) hF (kX5_byteOf l G M O (M.2 17 x5.toNatClampNeg) x4 _ h) ⟨va_cnB 2 hts gX3_take_X5_byteOf_n68 rfl rfl rfl (hSt.2.2.1 _ zNest_X3_68) (hts _ (List.mem_of_getElem? (i := 8) rfl)) zdX5_byteOf ⟨Nat.le_of_ble_eq_true rfl, Nat.le_of_ble_eq_true rfl⟩, hts _ (List.mem_of_getElem? (i := 7) rfl), trivial⟩ (zpreS hSt hH [.long (M.2 17 x5.toNatClampNeg), .int x4]) rfl rfl hl.1 rfl (lv_room (Nat.le_of_ble_eq_true rfl)) dX3_take_129 ⟨Nat.zero_le _, Nat.zero_le _⟩) (fun r129 H locs h hH => ?_)
    refine zcalllP hH (va_runSN (As := [.long x2, .int r129]) (rest := [.long (M.2 17 x5.toNatClampNeg), .int x5, .ref (G.1 17)]) hF (kX5_scaled l G M O x2 r129 _ h) ⟨va_cnB 2 hts gX3_take_X5_scaled_n72 rfl rfl rfl (hSt.2.2.1 _ zNest_X3_72) (hts _ (List.mem_of_getElem? (i := 8) rfl)) zdX5_scaled ⟨Nat.le_of_ble_eq_true rfl, Nat.le_of_ble_eq_true rfl⟩, hts _ (List.mem_of_getElem? (i := 10) rfl), trivial⟩ (zpreS hSt hH [.long x2, .int r129]) rfl rfl hl.1 rfl (lv_room (Nat.le_of_ble_eq_true rfl)) dX3_take_132 ⟨Nat.zero_le _, Nat.zero_le _⟩) (fun r132 H locs h hH => ?_)
    refine lv_lxor hx hb dX3_take_135 ?_
    obtain ⟨q136, h⟩ := h
    refine zlast hF hSt hH 17 (by decide) rfl (zE_17 _) (x := ((M.2 17 x5.toNatClampNeg) ^^^ r132)) q136 dX3_take_136 (fun H locs hH => ?_)
    refine lv_iinc (v := (x5 + (1 : Int32))) (lv' := [(5, .int (x5 + (1 : Int32))), (0, .ref (G.1 3)), (1, .int x1), (2, .long x2), (4, .int x4)]) hx hb dX3_take_137 hl (k := 4) rfl rfl (by decide) rfl (fun ls hl => ?_)
    refine lv_goto (tgt := 99) hx hb dX3_take_140 (by decide) ?_
    exact hag99 x1 x2 x4 (x5 + (1 : Int32)) (zsj M 17 x5.toNatClampNeg ((M.2 17 x5.toNatClampNeg) ^^^ r132)) H locs ls h hH (lv_sub hl [1, 2, 3, 4, 0] rfl)
def pX3_take_L99 (post : zM → Prop) (x1 : Int32) (x2 : Int64) (x4 : Int32) (x5 : Int32) (M : zM) : Prop :=
  ∃ I : Nat → Int32 → Int64 → Int32 → Int32 → zM → Prop, (∃ n, I n x1 x2 x4 x5 M) ∧ ∀ n x1 x2 x4 x5 M, I n x1 x2 x4 x5 M → pX3_take_b99 post (fun x1 x2 x4 x5 M => ∃ k, k < n ∧ I k x1 x2 x4 x5 M) x1 x2 x4 x5 M
set_option maxHeartbeats 4000000 in
theorem wX3_take_L99 {post : zM → Prop}  (hF : CallFix p m c cX3_take 6 s args wsX3_take RX3) (hSt : zSt G s) (hret : zRv p l e ({ frames := 2, cells := 0, slots := 0, locals := 55 } : Room) s m args below meth c Q cX3_take G true O post) (x1 : Int32) (x2 : Int64) (x4 : Int32) (x5 : Int32) (M : zM) (H : Heap) (locs : List Loc) (ls : Array Slot) (hH : zH G true s H locs M O) (hl : lv_has ls 6 [(0, .ref (G.1 3)), (1, .int x1), (2, .long x2), (4, .int x4), (5, .int x5)]) (h : pX3_take_L99 post x1 x2 x4 x5 M) : W p l e ({ frames := 2, cells := 0, slots := 0, locals := 55 } : Room) s m args below meth c H locs 0 0 Q (F0 m 99 ls []) := by
  obtain ⟨I, ⟨n, hI⟩, hs⟩ := h
  have key : ∀ (n : Nat) (x1 : Int32) (x2 : Int64) (x4 : Int32) (x5 : Int32) (M : zM) (H : Heap) (locs : List Loc) (ls : Array Slot), I n x1 x2 x4 x5 M → zH G true s H locs M O → lv_has ls 6 [(0, .ref (G.1 3)), (1, .int x1), (2, .long x2), (4, .int x4), (5, .int x5)] → W p l e ({ frames := 2, cells := 0, slots := 0, locals := 55 } : Room) s m args below meth c H locs 0 0 Q (F0 m 99 ls []) := by
    intro n
    induction n using Nat.strongRecOn with
    | _ n ih =>
      intro x1 x2 x4 x5 M H locs ls hI hH hl
      exact wX3_take_b99 hF hSt hret (fun x1 x2 x4 x5 M H locs ls h hH hl => by obtain ⟨k, hk, hI⟩ := h; exact ih k hk x1 x2 x4 x5 M H locs ls hI hH hl) x1 x2 x4 x5 M H locs ls hH hl (hs n x1 x2 x4 x5 M hI)
  exact key n x1 x2 x4 x5 M H locs ls hI hH hl
def pX3_take_b25 (post : zM → Prop) (ag25 : Int32 → Int64 → Int32 → zM → Prop) (x1 : Int32) (x2 : Int64) (x4 : Int32) (M : zM) : Prop :=
  ((M.1 1 2) ≤ x4 → pX3_lastPieceIn x2 (M.1 1 2) (fun r70 => (¬ (r70 = (-1 : Int32)) → pX5_byteOf x2 r70 (fun r86 => pX5_inverseOf r86 (fun r89 => pX5_scaled x2 r89 (fun r92 => pX3_take_L99 post x1 r92 r70 (0 : Int32) M)))) ∧ (r70 = (-1 : Int32) → post M))) ∧ (¬ ((M.1 1 2) ≤ x4) → vp_in x4 4 ∧ pX5_byteOf x2 x4 (fun r48 => pX5_scaled (M.2 17 x4.toNatClampNeg) r48 (fun r51 => ag25 x1 (x2 ^^^ r51) (x4 + (1 : Int32)) M)))
set_option maxHeartbeats 4000000 in
set_option maxRecDepth 100000 in
theorem wX3_take_b25 {post : zM → Prop} {ag25 : Int32 → Int64 → Int32 → zM → Prop} (hF : CallFix p m c cX3_take 6 s args wsX3_take RX3) (hSt : zSt G s) (hret : zRv p l e ({ frames := 2, cells := 0, slots := 0, locals := 55 } : Room) s m args below meth c Q cX3_take G true O post) (hag25 : ∀ (x1 : Int32) (x2 : Int64) (x4 : Int32) (M : zM) (H : Heap) (locs : List Loc) (ls : Array Slot), ag25 x1 x2 x4 M → zH G true s H locs M O → lv_has ls 6 [(0, .ref (G.1 3)), (1, .int x1), (2, .long x2), (4, .int x4)] → W p l e ({ frames := 2, cells := 0, slots := 0, locals := 55 } : Room) s m args below meth c H locs 0 0 Q (F0 m 25 ls [])) (x1 : Int32) (x2 : Int64) (x4 : Int32) (M : zM) (H : Heap) (locs : List Loc) (ls : Array Slot) (hH : zH G true s H locs M O) (hl : lv_has ls 6 [(0, .ref (G.1 3)), (1, .int x1), (2, .long x2), (4, .int x4)]) (h : pX3_take_b25 post ag25 x1 x2 x4 M) : W p l e ({ frames := 2, cells := 0, slots := 0, locals := 55 } : Room) s m args below meth c H locs 0 0 Q (F0 m 25 ls []) := by
  obtain ⟨hx, hb, hml, hown, hts⟩ := id hF
  unfold pX3_take_b25 at h
  refine lv_iload hx hb dX3_take_25 (lv_at hl 3 rfl) ?_
  refine lv_aload_n hx hb dX3_take_27 rfl (lv_at hl 0 rfl) ?_
  refine zget (v := .ref (G.1 1)) hF hSt hH 3 (by decide) rfl (zE_3 _ _ _) (C := RX3) (T := TX3) (N := 4) rfl znX3_take_X3 0 (by decide) (List.mem_of_getElem? (i := 1) rfl) rfl dX3_take_28 ?_
  refine zget (v := .int (M.1 1 2)) hF hSt hH 1 (by decide) rfl (zE_1 _ _ _) (C := RX2) (T := TX2) (N := 16) rfl znX3_take_X2 2 (by decide) (List.mem_of_getElem? (i := 4) rfl) rfl dX3_take_31 ?_
  refine lv_icmp_ge (tgt := 62) hx hb dX3_take_34 (by decide) (fun q34 => ?_) (fun q34 => ?_)
  · have h := h.1 q34
    refine lv_lload_n hx hb dX3_take_62 rfl (lv_at hl 2 rfl) ?_
    refine lv_aload_n hx hb dX3_take_63 rfl (lv_at hl 0 rfl) ?_
    refine zget (v := .ref (G.1 1)) hF hSt hH 3 (by decide) rfl (zE_3 _ _ _) (C := RX3) (T := TX3) (N := 4) rfl znX3_take_X3 0 (by decide) (List.mem_of_getElem? (i := 1) rfl) rfl dX3_take_64 ?_
    refine zget (v := .int (M.1 1 2)) hF hSt hH 1 (by decide) rfl (zE_1 _ _ _) (C := RX2) (T := TX2) (N := 16) rfl znX3_take_X2 2 (by decide) (List.mem_of_getElem? (i := 4) rfl) rfl dX3_take_67 ?_
    refine zcalliP hH (va_runS (As := [.long x2, .int (M.1 1 2)]) (rest := []) hF (kX3_lastPieceIn l G M O x2 (M.1 1 2) _ h) (va_cwS 2 hts gX3_take_X3_lastPieceIn rfl rfl rfl zdX3_lastPieceIn ⟨Nat.le_of_ble_eq_true rfl, Nat.le_of_ble_eq_true rfl⟩) (zpreS hSt hH [.long x2, .int (M.1 1 2)]) rfl rfl hl.1 rfl (lv_room (Nat.le_of_ble_eq_true rfl)) dX3_take_70 ⟨Nat.zero_le _, Nat.zero_le _⟩) (fun r70 H locs h hH => ?_)
    refine lv_istore (lv' := [(4, .int r70), (0, .ref (G.1 3)), (1, .int x1), (2, .long x2)]) hx hb dX3_take_73 hl (by decide) rfl (fun ls hl => ?_)
    refine lv_iload hx hb dX3_take_75 (lv_at hl 0 rfl) ?_
    refine lv_iconst (v := (-1 : Int32)) hx hb dX3_take_77 (by decide) ?_
    refine lv_icmp_ne (tgt := 82) hx hb dX3_take_78 (by decide) (fun q78 => ?_) (fun q78 => ?_)
    · have h := h.1 q78
      refine lv_lload_n hx hb dX3_take_82 rfl (lv_at hl 3 rfl) ?_
      refine lv_lload_n hx hb dX3_take_83 rfl (lv_at hl 3 rfl) ?_
      refine lv_iload hx hb dX3_take_84 (lv_at hl 0 rfl) ?_
      refine zcalliP hH (va_runSN (As := [.long x2, .int r70]) (rest := [.long x2]) hF (kX5_byteOf l G M O x2 r70 _ h) ⟨va_cnB 2 hts gX3_take_X5_byteOf_n68 rfl rfl rfl (hSt.2.2.1 _ zNest_X3_68) (hts _ (List.mem_of_getElem? (i := 8) rfl)) zdX5_byteOf ⟨Nat.le_of_ble_eq_true rfl, Nat.le_of_ble_eq_true rfl⟩, hts _ (List.mem_of_getElem? (i := 7) rfl), trivial⟩ (zpreS hSt hH [.long x2, .int r70]) rfl rfl hl.1 rfl (lv_room (Nat.le_of_ble_eq_true rfl)) dX3_take_86 ⟨Nat.zero_le _, Nat.zero_le _⟩) (fun r86 H locs h hH => ?_)
      refine zcalliP hH (va_runSN (As := [.int r86]) (rest := [.long x2]) hF (kX5_inverseOf l G M O r86 _ h) ⟨va_cnB 1 hts gX3_take_X5_inverseOf_n79 rfl rfl rfl (hSt.2.2.1 _ zNest_X3_79) (hts _ (List.mem_of_getElem? (i := 8) rfl)) zdX5_inverseOf ⟨Nat.le_of_ble_eq_true rfl, Nat.le_of_ble_eq_true rfl⟩, hts _ (List.mem_of_getElem? (i := 19) rfl), trivial⟩ (zpreS hSt hH [.int r86]) rfl rfl hl.1 rfl (lv_room (Nat.le_of_ble_eq_true rfl)) dX3_take_89 ⟨Nat.zero_le _, Nat.zero_le _⟩) (fun r89 H locs h hH => ?_)
      refine zcalllP hH (va_runSN (As := [.long x2, .int r89]) (rest := []) hF (kX5_scaled l G M O x2 r89 _ h) ⟨va_cnB 2 hts gX3_take_X5_scaled_n72 rfl rfl rfl (hSt.2.2.1 _ zNest_X3_72) (hts _ (List.mem_of_getElem? (i := 8) rfl)) zdX5_scaled ⟨Nat.le_of_ble_eq_true rfl, Nat.le_of_ble_eq_true rfl⟩, hts _ (List.mem_of_getElem? (i := 10) rfl), trivial⟩ (zpreS hSt hH [.long x2, .int r89]) rfl rfl hl.1 rfl (lv_room (Nat.le_of_ble_eq_true rfl)) dX3_take_92 ⟨Nat.zero_le _, Nat.zero_le _⟩) (fun r92 H locs h hH => ?_)
      refine lv_lstore_n (lv' := [(2, .long r92), (4, .int r70), (0, .ref (G.1 3)), (1, .int x1)]) hx hb dX3_take_95 rfl hl (by decide) rfl (fun ls hl => ?_)
      refine lv_iconst (v := (0 : Int32)) hx hb dX3_take_96 (by decide) ?_
      refine lv_istore (lv' := [(5, .int (0 : Int32)), (2, .long r92), (4, .int r70), (0, .ref (G.1 3)), (1, .int x1)]) hx hb dX3_take_97 hl (by decide) rfl (fun ls hl => ?_)
      exact wX3_take_L99 hF hSt hret x1 r92 r70 (0 : Int32) M H locs ls hH (lv_sub hl [3, 4, 1, 2, 0] rfl) h
    · have h := h.2 q78
      exact hret _ _ _ _ _ dX3_take_81 h hH
  · have h := h.2 q34
    refine lv_lload_n hx hb dX3_take_37 rfl (lv_at hl 2 rfl) ?_
    refine lv_aload_n hx hb dX3_take_38 rfl (lv_at hl 0 rfl) ?_
    refine zget (v := .ref (G.1 17)) hF hSt hH 3 (by decide) rfl (zE_3 _ _ _) (C := RX3) (T := TX3) (N := 4) rfl znX3_take_X3 1 (by decide) (List.mem_of_getElem? (i := 5) rfl) rfl dX3_take_39 ?_
    refine lv_iload hx hb dX3_take_42 (lv_at hl 3 rfl) ?_
    obtain ⟨q44, h⟩ := h
    refine zlald hF hSt hH 17 (by decide) rfl (zE_17 _ _ _) q44 dX3_take_44 ?_
    refine lv_lload_n hx hb dX3_take_45 rfl (lv_at hl 2 rfl) ?_
    refine lv_iload hx hb dX3_take_46 (lv_at hl 3 rfl) ?_
    refine zcalliP hH (va_runSN (As := [.long x2, .int x4]) (rest := [.long (M.2 17 x4.toNatClampNeg), .long x2]) hF (kX5_byteOf l G M O x2 x4 _ h) ⟨va_cnB 2 hts gX3_take_X5_byteOf_n68 rfl rfl rfl (hSt.2.2.1 _ zNest_X3_68) (hts _ (List.mem_of_getElem? (i := 8) rfl)) zdX5_byteOf ⟨Nat.le_of_ble_eq_true rfl, Nat.le_of_ble_eq_true rfl⟩, hts _ (List.mem_of_getElem? (i := 7) rfl), trivial⟩ (zpreS hSt hH [.long x2, .int x4]) rfl rfl hl.1 rfl (lv_room (Nat.le_of_ble_eq_true rfl)) dX3_take_48 ⟨Nat.zero_le _, Nat.zero_le _⟩) (fun r48 H locs h hH => ?_)
    refine zcalllP hH (va_runSN (As := [.long (M.2 17 x4.toNatClampNeg), .int r48]) (rest := [.long x2]) hF (kX5_scaled l G M O (M.2 17 x4.toNatClampNeg) r48 _ h) ⟨va_cnB 2 hts gX3_take_X5_scaled_n72 rfl rfl rfl (hSt.2.2.1 _ zNest_X3_72) (hts _ (List.mem_of_getElem? (i := 8) rfl)) zdX5_scaled ⟨Nat.le_of_ble_eq_true rfl, Nat.le_of_ble_eq_true rfl⟩, hts _ (List.mem_of_getElem? (i := 10) rfl), trivial⟩ (zpreS hSt hH [.long (M.2 17 x4.toNatClampNeg), .int r48]) rfl rfl hl.1 rfl (lv_room (Nat.le_of_ble_eq_true rfl)) dX3_take_51 ⟨Nat.zero_le _, Nat.zero_le _⟩) (fun r51 H locs h hH => ?_)
    refine lv_lxor hx hb dX3_take_54 ?_
    refine lv_lstore_n (lv' := [(2, .long (x2 ^^^ r51)), (0, .ref (G.1 3)), (1, .int x1), (4, .int x4)]) hx hb dX3_take_55 rfl hl (by decide) rfl (fun ls hl => ?_)
    refine lv_iinc (v := (x4 + (1 : Int32))) (lv' := [(4, .int (x4 + (1 : Int32))), (2, .long (x2 ^^^ r51)), (0, .ref (G.1 3)), (1, .int x1)]) hx hb dX3_take_56 hl (k := 3) rfl rfl (by decide) rfl (fun ls hl => ?_)
    refine lv_goto (tgt := 25) hx hb dX3_take_59 (by decide) ?_
    exact hag25 x1 (x2 ^^^ r51) (x4 + (1 : Int32)) M H locs ls h hH (lv_sub hl [2, 3, 1, 0] rfl)
def pX3_take_L25 (post : zM → Prop) (x1 : Int32) (x2 : Int64) (x4 : Int32) (M : zM) : Prop :=
  ∃ I : Nat → Int32 → Int64 → Int32 → zM → Prop, (∃ n, I n x1 x2 x4 M) ∧ ∀ n x1 x2 x4 M, I n x1 x2 x4 M → pX3_take_b25 post (fun x1 x2 x4 M => ∃ k, k < n ∧ I k x1 x2 x4 M) x1 x2 x4 M
set_option maxHeartbeats 4000000 in
theorem wX3_take_L25 {post : zM → Prop}  (hF : CallFix p m c cX3_take 6 s args wsX3_take RX3) (hSt : zSt G s) (hret : zRv p l e ({ frames := 2, cells := 0, slots := 0, locals := 55 } : Room) s m args below meth c Q cX3_take G true O post) (x1 : Int32) (x2 : Int64) (x4 : Int32) (M : zM) (H : Heap) (locs : List Loc) (ls : Array Slot) (hH : zH G true s H locs M O) (hl : lv_has ls 6 [(0, .ref (G.1 3)), (1, .int x1), (2, .long x2), (4, .int x4)]) (h : pX3_take_L25 post x1 x2 x4 M) : W p l e ({ frames := 2, cells := 0, slots := 0, locals := 55 } : Room) s m args below meth c H locs 0 0 Q (F0 m 25 ls []) := by
  obtain ⟨I, ⟨n, hI⟩, hs⟩ := h
  have key : ∀ (n : Nat) (x1 : Int32) (x2 : Int64) (x4 : Int32) (M : zM) (H : Heap) (locs : List Loc) (ls : Array Slot), I n x1 x2 x4 M → zH G true s H locs M O → lv_has ls 6 [(0, .ref (G.1 3)), (1, .int x1), (2, .long x2), (4, .int x4)] → W p l e ({ frames := 2, cells := 0, slots := 0, locals := 55 } : Room) s m args below meth c H locs 0 0 Q (F0 m 25 ls []) := by
    intro n
    induction n using Nat.strongRecOn with
    | _ n ih =>
      intro x1 x2 x4 M H locs ls hI hH hl
      exact wX3_take_b25 hF hSt hret (fun x1 x2 x4 M H locs ls h hH hl => by obtain ⟨k, hk, hI⟩ := h; exact ih k hk x1 x2 x4 M H locs ls hI hH hl) x1 x2 x4 M H locs ls hH hl (hs n x1 x2 x4 M hI)
  exact key n x1 x2 x4 M H locs ls hI hH hl
def pX3_take (M : zM) (x1 : Int32) (post : zM → Prop) : Prop :=
  vp_in x1 30 ∧ vp_in (M.1 3 3) 4 ∧ pX3_take_L25 post x1 ((M.2 14 x1.toNatClampNeg) ||| ((zU ((M.1 3 3)).toNatClampNeg) <<< (((32 : Int32)).toInt64 &&& 63))) (0 : Int32) M
set_option maxHeartbeats 4000000 in
set_option maxRecDepth 100000 in
theorem wX3_take {M : zM} {post : zM → Prop} (hF : CallFix p m c cX3_take 6 s args wsX3_take RX3) (hSt : zSt G s) (hret : zRv p l e ({ frames := 2, cells := 0, slots := 0, locals := 55 } : Room) s m args below meth c Q cX3_take G true O post) (x1 : Int32) (H : Heap) (locs : List Loc) (ls : Array Slot) (hH : zH G true s H locs M O) (hl : lv_has ls 6 [(0, .ref (G.1 3)), (1, .int x1)]) (h : pX3_take M x1 post) : W p l e ({ frames := 2, cells := 0, slots := 0, locals := 55 } : Room) s m args below meth c H locs 0 0 Q (F0 m 0 ls []) := by
  obtain ⟨hx, hb, hml, hown, hts⟩ := id hF
  unfold pX3_take at h
  refine lv_aload_n hx hb dX3_take_0 rfl (lv_at hl 0 rfl) ?_
  refine zget (v := .ref (G.1 1)) hF hSt hH 3 (by decide) rfl (zE_3 _ _ _) (C := RX3) (T := TX3) (N := 4) rfl znX3_take_X3 0 (by decide) (List.mem_of_getElem? (i := 1) rfl) rfl dX3_take_1 ?_
  refine zget (v := .ref (G.1 14)) hF hSt hH 1 (by decide) rfl (zE_1 _ _ _) (C := RX2) (T := TX2) (N := 16) rfl znX3_take_X2 14 (by decide) (List.mem_of_getElem? (i := 2) rfl) rfl dX3_take_4 ?_
  refine lv_iload_n hx hb dX3_take_7 rfl (lv_at hl 1 rfl) ?_
  obtain ⟨q8, h⟩ := h
  refine zlald hF hSt hH 14 (by decide) rfl (zE_14 _ _ _) q8 dX3_take_8 ?_
  refine zugets hF hSt hH zNest_X3_65 dX3_take_9 ?_
  refine lv_aload_n hx hb dX3_take_12 rfl (lv_at hl 0 rfl) ?_
  refine zget (v := .int (M.1 3 3)) hF hSt hH 3 (by decide) rfl (zE_3 _ _ _) (C := RX3) (T := TX3) (N := 4) rfl znX3_take_X3 3 (by decide) (List.mem_of_getElem? (i := 3) rfl) rfl dX3_take_13 ?_
  obtain ⟨q16, h⟩ := h
  refine zuald hF hSt hH q16 dX3_take_16 ?_
  refine lv_bipush (v := (32 : Int32)) hx hb dX3_take_17 (by decide) ?_
  refine lv_lshl hx hb dX3_take_19 rfl ?_
  refine lv_lor hx hb dX3_take_20 ?_
  refine lv_lstore_n (lv' := [(2, .long ((M.2 14 x1.toNatClampNeg) ||| ((zU ((M.1 3 3)).toNatClampNeg) <<< (((32 : Int32)).toInt64 &&& 63)))), (0, .ref (G.1 3)), (1, .int x1)]) hx hb dX3_take_21 rfl hl (by decide) rfl (fun ls hl => ?_)
  refine lv_iconst (v := (0 : Int32)) hx hb dX3_take_22 (by decide) ?_
  refine lv_istore (lv' := [(4, .int (0 : Int32)), (2, .long ((M.2 14 x1.toNatClampNeg) ||| ((zU ((M.1 3 3)).toNatClampNeg) <<< (((32 : Int32)).toInt64 &&& 63)))), (0, .ref (G.1 3)), (1, .int x1)]) hx hb dX3_take_23 hl (by decide) rfl (fun ls hl => ?_)
  exact wX3_take_L25 hF hSt hret x1 ((M.2 14 x1.toNatClampNeg) ||| ((zU ((M.1 3 3)).toNatClampNeg) <<< (((32 : Int32)).toInt64 &&& 63))) (0 : Int32) M H locs ls hH (lv_sub hl [2, 3, 1, 0] rfl) h
set_option maxRecDepth 100000 in
theorem kX3_take (l : Launch) (G : zG) (M O : zM) (x1 : Int32) (post : zM → Prop) (h : pX3_take M x1 post) : Met l yX3_take wsX3_take ({ frames := 2, cells := 0, slots := 0, locals := 55 } : Room) (zPc G true M O [.ref (G.1 3), .int x1]) (va_Qv post (zB G true O) (zAA G)) 0 0 (zAA G) :=
  zmet_v (by decide) rfl (Nat.le_of_ble_eq_true rfl) (fun hF hSt hret H locs ls hH hl => wX3_take hF hSt hret x1 H locs ls hH hl h)
end
theorem znX3_gather_X3 : ∀ w ∈ wsX30, w ∈ wsX3_gather := fun _ h => List.mem_cons_of_mem _ (List.mem_append_left _ (List.mem_append_right _ h))
theorem znX3_gather_X2 : ∀ w ∈ wsX20, w ∈ wsX3_gather := fun _ h => List.mem_cons_of_mem _ (List.mem_append_right _ h)
theorem zdX3_gather : yX3_gather.cls ≠ "java/lang/invoke/MethodHandle" ∧ yX3_gather.cls ≠ "java/lang/invoke/VarHandle" ∧ (parseMethodDescriptor yX3_gather.desc).map (fun d => d.parameters.length) = some 1 := by decide +kernel
-- MixingRelays$Span gather(I)I
section
variable {p : Program} {l : Launch} {e : Env} {s : State} {m : MethodId} {args : Array Value} {below : List Frame} {meth : Method} {c : Code} {Q : State → Prop} {G : zG} {O : zM}
def pX3_gather_b65 (post : Int32 → zM → Prop) (M : zM) : Prop :=
  post (M.1 3 3) M
set_option maxHeartbeats 4000000 in
set_option maxRecDepth 100000 in
theorem wX3_gather_b65 {post : Int32 → zM → Prop}  (hF : CallFix p m c cX3_gather 3 s args wsX3_gather RX3) (hSt : zSt G s) (hret : zRi p l e ({ frames := 3, cells := 0, slots := 0, locals := 80 } : Room) s m args below meth c Q cX3_gather G true O post) (M : zM) (H : Heap) (locs : List Loc) (ls : Array Slot) (hH : zH G true s H locs M O) (hl : lv_has ls 3 [(0, .ref (G.1 3))]) (h : pX3_gather_b65 post M) : W p l e ({ frames := 3, cells := 0, slots := 0, locals := 80 } : Room) s m args below meth c H locs 0 0 Q (F0 m 65 ls []) := by
  obtain ⟨hx, hb, hml, hown, hts⟩ := id hF
  unfold pX3_gather_b65 at h
  refine lv_aload_n hx hb dX3_gather_65 rfl (lv_at hl 0 rfl) ?_
  refine zget (v := .int (M.1 3 3)) hF hSt hH 3 (by decide) rfl (zE_3 _ _ _) (C := RX3) (T := TX3) (N := 4) rfl znX3_gather_X3 3 (by decide) (List.mem_of_getElem? (i := 1) rfl) rfl dX3_gather_66 ?_
  exact hret _ _ _ _ _ _ dX3_gather_69 h hH
def pX3_gather_b15 (post : Int32 → zM → Prop) (ag15 : Int32 → Int32 → zM → Prop) (x1 : Int32) (x2 : Int32) (M : zM) : Prop :=
  vp_in x1 12 ∧ ((M.1 12 x1.toNatClampNeg) ≤ x2 → pX3_gather_b65 post M) ∧ (¬ ((M.1 12 x1.toNatClampNeg) ≤ x2) → ((M.1 1 2) ≤ (M.1 3 3) → pX3_gather_b65 post M) ∧ (¬ ((M.1 1 2) ≤ (M.1 3 3)) → pX5_slot x1 x2 (fun r52 => vp_in r52 360 ∧ pX3_take M (M.1 11 r52.toNatClampNeg) (fun M56 => ag15 x1 (x2 + (1 : Int32)) M56))))
set_option maxHeartbeats 4000000 in
set_option maxRecDepth 100000 in
theorem wX3_gather_b15 {post : Int32 → zM → Prop} {ag15 : Int32 → Int32 → zM → Prop} (hF : CallFix p m c cX3_gather 3 s args wsX3_gather RX3) (hSt : zSt G s) (hret : zRi p l e ({ frames := 3, cells := 0, slots := 0, locals := 80 } : Room) s m args below meth c Q cX3_gather G true O post) (hag15 : ∀ (x1 : Int32) (x2 : Int32) (M : zM) (H : Heap) (locs : List Loc) (ls : Array Slot), ag15 x1 x2 M → zH G true s H locs M O → lv_has ls 3 [(0, .ref (G.1 3)), (1, .int x1), (2, .int x2)] → W p l e ({ frames := 3, cells := 0, slots := 0, locals := 80 } : Room) s m args below meth c H locs 0 0 Q (F0 m 15 ls [])) (x1 : Int32) (x2 : Int32) (M : zM) (H : Heap) (locs : List Loc) (ls : Array Slot) (hH : zH G true s H locs M O) (hl : lv_has ls 3 [(0, .ref (G.1 3)), (1, .int x1), (2, .int x2)]) (h : pX3_gather_b15 post ag15 x1 x2 M) : W p l e ({ frames := 3, cells := 0, slots := 0, locals := 80 } : Room) s m args below meth c H locs 0 0 Q (F0 m 15 ls []) := by
  obtain ⟨hx, hb, hml, hown, hts⟩ := id hF
  unfold pX3_gather_b15 at h
  refine lv_iload_n hx hb dX3_gather_15 rfl (lv_at hl 2 rfl) ?_
  refine lv_aload_n hx hb dX3_gather_16 rfl (lv_at hl 0 rfl) ?_
  refine zget (v := .ref (G.1 1)) hF hSt hH 3 (by decide) rfl (zE_3 _ _ _) (C := RX3) (T := TX3) (N := 4) rfl znX3_gather_X3 0 (by decide) (List.mem_of_getElem? (i := 3) rfl) rfl dX3_gather_17 ?_
  refine zget (v := .ref (G.1 12)) hF hSt hH 1 (by decide) rfl (zE_1 _ _ _) (C := RX2) (T := TX2) (N := 16) rfl znX3_gather_X2 12 (by decide) (List.mem_of_getElem? (i := 4) rfl) rfl dX3_gather_20 ?_
  refine lv_iload_n hx hb dX3_gather_23 rfl (lv_at hl 1 rfl) ?_
  obtain ⟨q24, h⟩ := h
  refine zald hF hSt hH 12 (by decide) rfl (zE_12 _ _ _) q24 dX3_gather_24 ?_
  refine lv_icmp_ge (tgt := 65) hx hb dX3_gather_25 (by decide) (fun q25 => ?_) (fun q25 => ?_)
  · have h := h.1 q25
    exact wX3_gather_b65 hF hSt hret M H locs ls hH (lv_sub hl [0] rfl) h
  · have h := h.2 q25
    refine lv_aload_n hx hb dX3_gather_28 rfl (lv_at hl 0 rfl) ?_
    refine zget (v := .int (M.1 3 3)) hF hSt hH 3 (by decide) rfl (zE_3 _ _ _) (C := RX3) (T := TX3) (N := 4) rfl znX3_gather_X3 3 (by decide) (List.mem_of_getElem? (i := 1) rfl) rfl dX3_gather_29 ?_
    refine lv_aload_n hx hb dX3_gather_32 rfl (lv_at hl 0 rfl) ?_
    refine zget (v := .ref (G.1 1)) hF hSt hH 3 (by decide) rfl (zE_3 _ _ _) (C := RX3) (T := TX3) (N := 4) rfl znX3_gather_X3 0 (by decide) (List.mem_of_getElem? (i := 3) rfl) rfl dX3_gather_33 ?_
    refine zget (v := .int (M.1 1 2)) hF hSt hH 1 (by decide) rfl (zE_1 _ _ _) (C := RX2) (T := TX2) (N := 16) rfl znX3_gather_X2 2 (by decide) (List.mem_of_getElem? (i := 5) rfl) rfl dX3_gather_36 ?_
    refine lv_icmp_ge (tgt := 65) hx hb dX3_gather_39 (by decide) (fun q39 => ?_) (fun q39 => ?_)
    · have h := h.1 q39
      exact wX3_gather_b65 hF hSt hret M H locs ls hH (lv_sub hl [0] rfl) h
    · have h := h.2 q39
      refine lv_aload_n hx hb dX3_gather_42 rfl (lv_at hl 0 rfl) ?_
      refine lv_aload_n hx hb dX3_gather_43 rfl (lv_at hl 0 rfl) ?_
      refine zget (v := .ref (G.1 1)) hF hSt hH 3 (by decide) rfl (zE_3 _ _ _) (C := RX3) (T := TX3) (N := 4) rfl znX3_gather_X3 0 (by decide) (List.mem_of_getElem? (i := 3) rfl) rfl dX3_gather_44 ?_
      refine zget (v := .ref (G.1 11)) hF hSt hH 1 (by decide) rfl (zE_1 _ _ _) (C := RX2) (T := TX2) (N := 16) rfl znX3_gather_X2 11 (by decide) (List.mem_of_getElem? (i := 6) rfl) rfl dX3_gather_47 ?_
      refine lv_iload_n hx hb dX3_gather_50 rfl (lv_at hl 1 rfl) ?_
      refine lv_iload_n hx hb dX3_gather_51 rfl (lv_at hl 2 rfl) ?_
      refine zcalliP hH (va_runSN (As := [.int x1, .int x2]) (rest := [.ref (G.1 11), .ref (G.1 3)]) hF (kX5_slot l G M O x1 x2 _ h) ⟨va_cnB 2 hts gX3_gather_X5_slot_n55 rfl rfl rfl (hSt.2.2.1 _ zNest_X3_55) (hts _ (List.mem_of_getElem? (i := 12) rfl)) zdX5_slot ⟨Nat.le_of_ble_eq_true rfl, Nat.le_of_ble_eq_true rfl⟩, hts _ (List.mem_of_getElem? (i := 11) rfl), trivial⟩ (zpreS hSt hH [.int x1, .int x2]) rfl rfl hl.1 rfl (lv_room (Nat.le_of_ble_eq_true rfl)) dX3_gather_52 ⟨Nat.zero_le _, Nat.zero_le _⟩) (fun r52 H locs h hH => ?_)
      obtain ⟨q55, h⟩ := h
      refine zald hF hSt hH 11 (by decide) rfl (zE_11 _ _ _) q55 dX3_gather_55 ?_
      refine zcallv hH (va_runV (As := [.int (M.1 11 r52.toNatClampNeg)]) (rest := []) hF (kX3_take l G M O (M.1 11 r52.toNatClampNeg) _ h) (cwV 1 hts gX3_gather_X3_take rfl rfl rfl ⟨rfl, zdX3_take⟩ ⟨Nat.le_of_ble_eq_true rfl, Nat.le_of_ble_eq_true rfl⟩) (zpreV hSt hH 3 (by decide) rfl (zE_3 _ _ _) (q := (RX3, TX3, 4)) rfl [.int (M.1 11 r52.toNatClampNeg)]) rfl rfl hl.1 rfl (lv_room (Nat.le_of_ble_eq_true rfl)) dX3_gather_56 ⟨Nat.zero_le _, Nat.zero_le _⟩) (fun M56 H locs h hH => ?_)
      refine lv_iinc (v := (x2 + (1 : Int32))) (lv' := [(2, .int (x2 + (1 : Int32))), (0, .ref (G.1 3)), (1, .int x1)]) hx hb dX3_gather_59 hl (k := 2) rfl rfl (by decide) rfl (fun ls hl => ?_)
      refine lv_goto (tgt := 15) hx hb dX3_gather_62 (by decide) ?_
      exact hag15 x1 (x2 + (1 : Int32)) M56 H locs ls h hH (lv_sub hl [1, 2, 0] rfl)
def pX3_gather_L15 (post : Int32 → zM → Prop) (x1 : Int32) (x2 : Int32) (M : zM) : Prop :=
  ∃ I : Nat → Int32 → Int32 → zM → Prop, (∃ n, I n x1 x2 M) ∧ ∀ n x1 x2 M, I n x1 x2 M → pX3_gather_b15 post (fun x1 x2 M => ∃ k, k < n ∧ I k x1 x2 M) x1 x2 M
set_option maxHeartbeats 4000000 in
theorem wX3_gather_L15 {post : Int32 → zM → Prop}  (hF : CallFix p m c cX3_gather 3 s args wsX3_gather RX3) (hSt : zSt G s) (hret : zRi p l e ({ frames := 3, cells := 0, slots := 0, locals := 80 } : Room) s m args below meth c Q cX3_gather G true O post) (x1 : Int32) (x2 : Int32) (M : zM) (H : Heap) (locs : List Loc) (ls : Array Slot) (hH : zH G true s H locs M O) (hl : lv_has ls 3 [(0, .ref (G.1 3)), (1, .int x1), (2, .int x2)]) (h : pX3_gather_L15 post x1 x2 M) : W p l e ({ frames := 3, cells := 0, slots := 0, locals := 80 } : Room) s m args below meth c H locs 0 0 Q (F0 m 15 ls []) := by
  obtain ⟨I, ⟨n, hI⟩, hs⟩ := h
  have key : ∀ (n : Nat) (x1 : Int32) (x2 : Int32) (M : zM) (H : Heap) (locs : List Loc) (ls : Array Slot), I n x1 x2 M → zH G true s H locs M O → lv_has ls 3 [(0, .ref (G.1 3)), (1, .int x1), (2, .int x2)] → W p l e ({ frames := 3, cells := 0, slots := 0, locals := 80 } : Room) s m args below meth c H locs 0 0 Q (F0 m 15 ls []) := by
    intro n
    induction n using Nat.strongRecOn with
    | _ n ih =>
      intro x1 x2 M H locs ls hI hH hl
      exact wX3_gather_b15 hF hSt hret (fun x1 x2 M H locs ls h hH hl => by obtain ⟨k, hk, hI⟩ := h; exact ih k hk x1 x2 M H locs ls hI hH hl) x1 x2 M H locs ls hH hl (hs n x1 x2 M hI)
  exact key n x1 x2 M H locs ls hI hH hl
def pX3_gather (M : zM) (x1 : Int32) (post : Int32 → zM → Prop) : Prop :=
  pJ7_fill_d0a16_17 (zsi M 3 3 (0 : Int32)) (0 : Int64) (fun M10 => pX3_gather_L15 post x1 (0 : Int32) M10)
set_option maxHeartbeats 4000000 in
set_option maxRecDepth 100000 in
theorem wX3_gather {M : zM} {post : Int32 → zM → Prop} (hF : CallFix p m c cX3_gather 3 s args wsX3_gather RX3) (hSt : zSt G s) (hret : zRi p l e ({ frames := 3, cells := 0, slots := 0, locals := 80 } : Room) s m args below meth c Q cX3_gather G true O post) (x1 : Int32) (H : Heap) (locs : List Loc) (ls : Array Slot) (hH : zH G true s H locs M O) (hl : lv_has ls 3 [(0, .ref (G.1 3)), (1, .int x1)]) (h : pX3_gather M x1 post) : W p l e ({ frames := 3, cells := 0, slots := 0, locals := 80 } : Room) s m args below meth c H locs 0 0 Q (F0 m 0 ls []) := by
  obtain ⟨hx, hb, hml, hown, hts⟩ := id hF
  unfold pX3_gather at h
  refine lv_aload_n hx hb dX3_gather_0 rfl (lv_at hl 0 rfl) ?_
  refine lv_iconst (v := (0 : Int32)) hx hb dX3_gather_1 (by decide) ?_
  refine zput hF hSt hH 3 (by decide) rfl (zE_3 _ _ _) (C := RX3) (T := TX3) (N := 4) rfl znX3_gather_X3 tyX3 tyX3_ok nmX3 3 (by decide) (List.mem_of_getElem? (i := 1) rfl) rfl (by decide +kernel) (Nat.le_of_ble_eq_true rfl) (x := (0 : Int32)) rfl dX3_gather_2 (fun H locs hH => ?_)
  refine lv_aload_n hx hb dX3_gather_5 rfl (lv_at hl 0 rfl) ?_
  refine zget (v := .ref (G.1 17)) hF hSt hH 3 (by decide) rfl (zE_3 _ _ _) (C := RX3) (T := TX3) (N := 4) rfl znX3_gather_X3 1 (by decide) (List.mem_of_getElem? (i := 2) rfl) rfl dX3_gather_6 ?_
  refine lv_lconst (v := (0 : Int64)) hx hb dX3_gather_9 (by decide) ?_
  refine zcallv hH (va_runS (As := [.ref (G.1 17), .long (0 : Int64)]) (rest := []) hF (kJ7_fill_d0a16_17 l G (zsi M 3 3 (0 : Int32)) O (0 : Int64) _ h) (va_cwS 2 hts gX3_gather_J7_fill_d0a16 rfl rfl rfl zdJ7_fill_d0a16 ⟨Nat.le_of_ble_eq_true rfl, Nat.le_of_ble_eq_true rfl⟩) (zpreS hSt hH [.ref (G.1 17), .long (0 : Int64)]) rfl rfl hl.1 rfl (lv_room (Nat.le_of_ble_eq_true rfl)) dX3_gather_10 ⟨Nat.zero_le _, Nat.zero_le _⟩) (fun M10 H locs h hH => ?_)
  refine lv_iconst (v := (0 : Int32)) hx hb dX3_gather_13 (by decide) ?_
  refine lv_istore_n (lv' := [(2, .int (0 : Int32)), (0, .ref (G.1 3)), (1, .int x1)]) hx hb dX3_gather_14 rfl hl (by decide) rfl (fun ls hl => ?_)
  exact wX3_gather_L15 hF hSt hret x1 (0 : Int32) M10 H locs ls hH (lv_sub hl [1, 2, 0] rfl) h
set_option maxRecDepth 100000 in
theorem kX3_gather (l : Launch) (G : zG) (M O : zM) (x1 : Int32) (post : Int32 → zM → Prop) (h : pX3_gather M x1 post) : Met l yX3_gather wsX3_gather ({ frames := 3, cells := 0, slots := 0, locals := 80 } : Room) (zPc G true M O [.ref (G.1 3), .int x1]) (va_Qi post (zB G true O) (zAA G)) 0 0 (zAA G) :=
  zmet_i (by decide) rfl (Nat.le_of_ble_eq_true rfl) (fun hF hSt hret H locs ls hH hl => wX3_gather hF hSt hret x1 H locs ls hH hl h)
end
theorem znX3_rankNow_X3 : ∀ w ∈ wsX30, w ∈ wsX3_rankNow := fun _ h => List.mem_cons_of_mem _ (List.mem_append_left _ (List.mem_append_right _ h))
theorem znX3_rankNow_X2 : ∀ w ∈ wsX20, w ∈ wsX3_rankNow := fun _ h => List.mem_cons_of_mem _ (List.mem_append_right _ h)
theorem zdX3_rankNow : yX3_rankNow.cls ≠ "java/lang/invoke/MethodHandle" ∧ yX3_rankNow.cls ≠ "java/lang/invoke/VarHandle" ∧ (parseMethodDescriptor yX3_rankNow.desc).map (fun d => d.parameters.length) = some 1 := by decide +kernel
-- MixingRelays$Span rankNow(I)I
section
variable {p : Program} {l : Launch} {e : Env} {s : State} {m : MethodId} {args : Array Value} {below : List Frame} {meth : Method} {c : Code} {Q : State → Prop} {G : zG} {O : zM}
def pX3_rankNow (M : zM) (x1 : Int32) (post : Int32 → zM → Prop) : Prop :=
  pX2_spreadVectors M (M.1 1 5) (fun M11 => pX3_gather M11 x1 (fun r16 M16 => post r16 M16))
set_option maxHeartbeats 4000000 in
set_option maxRecDepth 100000 in
theorem wX3_rankNow {M : zM} {post : Int32 → zM → Prop} (hF : CallFix p m c cX3_rankNow 2 s args wsX3_rankNow RX3) (hSt : zSt G s) (hret : zRi p l e ({ frames := 4, cells := 0, slots := 0, locals := 102 } : Room) s m args below meth c Q cX3_rankNow G true O post) (x1 : Int32) (H : Heap) (locs : List Loc) (ls : Array Slot) (hH : zH G true s H locs M O) (hl : lv_has ls 2 [(0, .ref (G.1 3)), (1, .int x1)]) (h : pX3_rankNow M x1 post) : W p l e ({ frames := 4, cells := 0, slots := 0, locals := 102 } : Room) s m args below meth c H locs 0 0 Q (F0 m 0 ls []) := by
  obtain ⟨hx, hb, hml, hown, hts⟩ := id hF
  unfold pX3_rankNow at h
  refine lv_aload_n hx hb dX3_rankNow_0 rfl (lv_at hl 0 rfl) ?_
  refine zget (v := .ref (G.1 1)) hF hSt hH 3 (by decide) rfl (zE_3 _ _ _) (C := RX3) (T := TX3) (N := 4) rfl znX3_rankNow_X3 0 (by decide) (List.mem_of_getElem? (i := 1) rfl) rfl dX3_rankNow_1 ?_
  refine lv_aload_n hx hb dX3_rankNow_4 rfl (lv_at hl 0 rfl) ?_
  refine zget (v := .ref (G.1 1)) hF hSt hH 3 (by decide) rfl (zE_3 _ _ _) (C := RX3) (T := TX3) (N := 4) rfl znX3_rankNow_X3 0 (by decide) (List.mem_of_getElem? (i := 1) rfl) rfl dX3_rankNow_5 ?_
  refine zget (v := .int (M.1 1 5)) hF hSt hH 1 (by decide) rfl (zE_1 _ _ _) (C := RX2) (T := TX2) (N := 16) rfl znX3_rankNow_X2 5 (by decide) (List.mem_of_getElem? (i := 2) rfl) rfl dX3_rankNow_8 ?_
  refine zcallv hH (va_runV (As := [.int (M.1 1 5)]) (rest := []) hF (kX2_spreadVectors l G M O (M.1 1 5) _ h) (cwV 1 hts gX3_rankNow_X2_spreadVectors rfl rfl rfl ⟨rfl, zdX2_spreadVectors⟩ ⟨Nat.le_of_ble_eq_true rfl, Nat.le_of_ble_eq_true rfl⟩) (zpreV hSt hH 1 (by decide) rfl (zE_1 _ _ _) (q := (RX2, TX2, 16)) rfl [.int (M.1 1 5)]) rfl rfl hl.1 rfl (lv_room (Nat.le_of_ble_eq_true rfl)) dX3_rankNow_11 ⟨Nat.zero_le _, Nat.zero_le _⟩) (fun M11 H locs h hH => ?_)
  refine lv_aload_n hx hb dX3_rankNow_14 rfl (lv_at hl 0 rfl) ?_
  refine lv_iload_n hx hb dX3_rankNow_15 rfl (lv_at hl 1 rfl) ?_
  refine zcalli hH (va_runV (As := [.int x1]) (rest := []) hF (kX3_gather l G M11 O x1 _ h) (cwV 1 hts gX3_rankNow_X3_gather rfl rfl rfl ⟨rfl, zdX3_gather⟩ ⟨Nat.le_of_ble_eq_true rfl, Nat.le_of_ble_eq_true rfl⟩) (zpreV hSt hH 3 (by decide) rfl (zE_3 _ _ _) (q := (RX3, TX3, 4)) rfl [.int x1]) rfl rfl hl.1 rfl (lv_room (Nat.le_of_ble_eq_true rfl)) dX3_rankNow_16 ⟨Nat.zero_le _, Nat.zero_le _⟩) (fun r16 M16 H locs h hH => ?_)
  exact hret _ _ _ _ _ _ dX3_rankNow_19 h hH
set_option maxRecDepth 100000 in
theorem kX3_rankNow (l : Launch) (G : zG) (M O : zM) (x1 : Int32) (post : Int32 → zM → Prop) (h : pX3_rankNow M x1 post) : Met l yX3_rankNow wsX3_rankNow ({ frames := 4, cells := 0, slots := 0, locals := 102 } : Room) (zPc G true M O [.ref (G.1 3), .int x1]) (va_Qi post (zB G true O) (zAA G)) 0 0 (zAA G) :=
  zmet_i (by decide) rfl (Nat.le_of_ble_eq_true rfl) (fun hF hSt hret H locs ls hH hl => wX3_rankNow hF hSt hret x1 H locs ls hH hl h)
end
theorem znX5_rank_X5 : ∀ w ∈ wsX50, w ∈ wsX5_rank := fun _ h => List.mem_cons_of_mem _ (List.mem_append_left _ (List.mem_append_left _ (List.mem_append_right _ h)))
theorem znX5_rank_X2 : ∀ w ∈ wsX20, w ∈ wsX5_rank := fun _ h => List.mem_cons_of_mem _ (List.mem_append_left _ (List.mem_append_right _ h))
theorem znX5_rank_X3 : ∀ w ∈ wsX30, w ∈ wsX5_rank := fun _ h => List.mem_cons_of_mem _ (List.mem_append_right _ h)
theorem zdX5_rank : yX5_rank.cls ≠ "java/lang/invoke/MethodHandle" ∧ yX5_rank.cls ≠ "java/lang/invoke/VarHandle" ∧ (parseMethodDescriptor yX5_rank.desc).map (fun d => d.parameters.length) = some 1 := by decide +kernel
-- MixingRelays rank(I)I
section
variable {p : Program} {l : Launch} {e : Env} {s : State} {m : MethodId} {args : Array Value} {below : List Frame} {meth : Method} {c : Code} {Q : State → Prop} {G : zG} {O : zM}
def pX5_rank_b22 (post : Int32 → zM → Prop) (t0 : Int32) (M : zM) : Prop :=
  post t0 M
set_option maxHeartbeats 4000000 in
set_option maxRecDepth 100000 in
theorem wX5_rank_b22 {post : Int32 → zM → Prop}  (hF : CallFix p m c cX5_rank 3 s args wsX5_rank RX5) (hSt : zSt G s) (hret : zRi p l e ({ frames := 5, cells := 0, slots := 0, locals := 123 } : Room) s m args below meth c Q cX5_rank G true O post) (t0 : Int32) (M : zM) (H : Heap) (locs : List Loc) (ls : Array Slot) (hH : zH G true s H locs M O) (hl : lv_has ls 3 []) (h : pX5_rank_b22 post t0 M) : W p l e ({ frames := 5, cells := 0, slots := 0, locals := 123 } : Room) s m args below meth c H locs 0 0 Q (F0 m 22 ls [.int t0]) := by
  obtain ⟨hx, hb, hml, hown, hts⟩ := id hF
  unfold pX5_rank_b22 at h
  exact hret _ _ _ _ _ _ dX5_rank_22 h hH
def pX5_rank (M : zM) (x1 : Int32) (post : Int32 → zM → Prop) : Prop :=
  pX5_refusalOf M x1 (fun r2 => (r2 = 0 → pX3_rankNow M x1 (fun r19 M19 => pX5_rank_b22 post r19 M19)) ∧ (¬ (r2 = 0) → pX5_rank_b22 post r2 M))
set_option maxHeartbeats 4000000 in
set_option maxRecDepth 100000 in
theorem wX5_rank {M : zM} {post : Int32 → zM → Prop} (hF : CallFix p m c cX5_rank 3 s args wsX5_rank RX5) (hSt : zSt G s) (hret : zRi p l e ({ frames := 5, cells := 0, slots := 0, locals := 123 } : Room) s m args below meth c Q cX5_rank G true O post) (x1 : Int32) (H : Heap) (locs : List Loc) (ls : Array Slot) (hH : zH G true s H locs M O) (hl : lv_has ls 3 [(0, .ref (G.1 0)), (1, .int x1)]) (h : pX5_rank M x1 post) : W p l e ({ frames := 5, cells := 0, slots := 0, locals := 123 } : Room) s m args below meth c H locs 0 0 Q (F0 m 0 ls []) := by
  obtain ⟨hx, hb, hml, hown, hts⟩ := id hF
  unfold pX5_rank at h
  refine lv_aload_n hx hb dX5_rank_0 rfl (lv_at hl 0 rfl) ?_
  refine lv_iload_n hx hb dX5_rank_1 rfl (lv_at hl 1 rfl) ?_
  refine zcalliP hH (va_runV (As := [.int x1]) (rest := []) hF (kX5_refusalOf l G M O x1 _ h) (cwV 1 hts gX5_rank_X5_refusalOf rfl rfl rfl ⟨rfl, zdX5_refusalOf⟩ ⟨Nat.le_of_ble_eq_true rfl, Nat.le_of_ble_eq_true rfl⟩) (zpreV hSt hH 0 (by decide) rfl (zE_0 _ _ _) (q := (RX5, TX5, 5)) rfl [.int x1]) rfl rfl hl.1 rfl (lv_room (Nat.le_of_ble_eq_true rfl)) dX5_rank_2 ⟨Nat.zero_le _, Nat.zero_le _⟩) (fun r2 H locs h hH => ?_)
  refine lv_istore_n (lv' := [(2, .int r2), (0, .ref (G.1 0)), (1, .int x1)]) hx hb dX5_rank_5 rfl hl (by decide) rfl (fun ls hl => ?_)
  refine lv_iload_n hx hb dX5_rank_6 rfl (lv_at hl 0 rfl) ?_
  refine lv_if_eq (tgt := 14) hx hb dX5_rank_7 (by decide) (fun q7 => ?_) (fun q7 => ?_)
  · have h := h.1 q7
    refine lv_aload_n hx hb dX5_rank_14 rfl (lv_at hl 1 rfl) ?_
    refine zget (v := .ref (G.1 3)) hF hSt hH 0 (by decide) rfl (zE_0 _ _ _) (C := RX5) (T := TX5) (N := 5) rfl znX5_rank_X5 2 (by decide) (List.mem_of_getElem? (i := 1) rfl) rfl dX5_rank_15 ?_
    refine lv_iload_n hx hb dX5_rank_18 rfl (lv_at hl 2 rfl) ?_
    refine zcalli hH (va_runV (As := [.int x1]) (rest := []) hF (kX3_rankNow l G M O x1 _ h) (cwV 1 hts gX5_rank_X3_rankNow rfl rfl rfl ⟨rfl, zdX3_rankNow⟩ ⟨Nat.le_of_ble_eq_true rfl, Nat.le_of_ble_eq_true rfl⟩) (zpreV hSt hH 3 (by decide) rfl (zE_3 _ _ _) (q := (RX3, TX3, 4)) rfl [.int x1]) rfl rfl hl.1 rfl (lv_room (Nat.le_of_ble_eq_true rfl)) dX5_rank_19 ⟨Nat.zero_le _, Nat.zero_le _⟩) (fun r19 M19 H locs h hH => ?_)
    exact wX5_rank_b22 hF hSt hret r19 M19 H locs ls hH (lv_sub hl [] rfl) h
  · have h := h.2 q7
    refine lv_iload_n hx hb dX5_rank_10 rfl (lv_at hl 0 rfl) ?_
    refine lv_goto (tgt := 22) hx hb dX5_rank_11 (by decide) ?_
    exact wX5_rank_b22 hF hSt hret r2 M H locs ls hH (lv_sub hl [] rfl) h
set_option maxRecDepth 100000 in
theorem kX5_rank (l : Launch) (G : zG) (M O : zM) (x1 : Int32) (post : Int32 → zM → Prop) (h : pX5_rank M x1 post) : Met l yX5_rank wsX5_rank ({ frames := 5, cells := 0, slots := 0, locals := 123 } : Room) (zPc G true M O [.ref (G.1 0), .int x1]) (va_Qi post (zB G true O) (zAA G)) 0 0 (zAA G) :=
  zmet_i (by decide) rfl (Nat.le_of_ble_eq_true rfl) (fun hF hSt hret H locs ls hH hl => wX5_rank hF hSt hret x1 H locs ls hH hl h)
end
theorem znX5_fresh_X5 : ∀ w ∈ wsX50, w ∈ wsX5_fresh := fun _ h => List.mem_cons_of_mem _ (List.mem_append_left _ (List.mem_append_left _ (List.mem_append_right _ h)))
theorem znX5_fresh_X3 : ∀ w ∈ wsX30, w ∈ wsX5_fresh := fun _ h => List.mem_cons_of_mem _ (List.mem_append_left _ (List.mem_append_right _ h))
theorem znX5_fresh_X2 : ∀ w ∈ wsX20, w ∈ wsX5_fresh := fun _ h => List.mem_cons_of_mem _ (List.mem_append_right _ h)
theorem zdX5_fresh : yX5_fresh.cls ≠ "java/lang/invoke/MethodHandle" ∧ yX5_fresh.cls ≠ "java/lang/invoke/VarHandle" ∧ (parseMethodDescriptor yX5_fresh.desc).map (fun d => d.parameters.length) = some 2 := by decide +kernel
-- MixingRelays fresh(II)I
section
variable {p : Program} {l : Launch} {e : Env} {s : State} {m : MethodId} {args : Array Value} {below : List Frame} {meth : Method} {c : Code} {Q : State → Prop} {G : zG} {O : zM}
def pX5_fresh_b49 (post : Int32 → zM → Prop) (t0 : Int32) (M : zM) : Prop :=
  post t0 M
set_option maxHeartbeats 4000000 in
set_option maxRecDepth 100000 in
theorem wX5_fresh_b49 {post : Int32 → zM → Prop}  (hF : CallFix p m c cX5_fresh 5 s args wsX5_fresh RX5) (hSt : zSt G s) (hret : zRi p l e ({ frames := 5, cells := 0, slots := 0, locals := 123 } : Room) s m args below meth c Q cX5_fresh G true O post) (t0 : Int32) (M : zM) (H : Heap) (locs : List Loc) (ls : Array Slot) (hH : zH G true s H locs M O) (hl : lv_has ls 5 []) (h : pX5_fresh_b49 post t0 M) : W p l e ({ frames := 5, cells := 0, slots := 0, locals := 123 } : Room) s m args below meth c H locs 0 0 Q (F0 m 49 ls [.int t0]) := by
  obtain ⟨hx, hb, hml, hown, hts⟩ := id hF
  unfold pX5_fresh_b49 at h
  exact hret _ _ _ _ _ _ dX5_fresh_49 h hH
def pX5_fresh_b13 (post : Int32 → zM → Prop) (x1 : Int32) (x2 : Int32) (t0 : Int32) (M : zM) : Prop :=
  (t0 = 0 → pX3_rankNow M x1 (fun r25 M25 => (x2 < r25 → vp_in x2 4 ∧ pX5_fresh_b49 post (M25.1 18 x2.toNatClampNeg) M25) ∧ (¬ (x2 < r25) → pX5_fresh_b49 post (-1 : Int32) M25))) ∧ (¬ (t0 = 0) → post t0 M)
set_option maxHeartbeats 4000000 in
set_option maxRecDepth 100000 in
theorem wX5_fresh_b13 {post : Int32 → zM → Prop}  (hF : CallFix p m c cX5_fresh 5 s args wsX5_fresh RX5) (hSt : zSt G s) (hret : zRi p l e ({ frames := 5, cells := 0, slots := 0, locals := 123 } : Room) s m args below meth c Q cX5_fresh G true O post) (x1 : Int32) (x2 : Int32) (t0 : Int32) (M : zM) (H : Heap) (locs : List Loc) (ls : Array Slot) (hH : zH G true s H locs M O) (hl : lv_has ls 5 [(0, .ref (G.1 0)), (1, .int x1), (2, .int x2)]) (h : pX5_fresh_b13 post x1 x2 t0 M) : W p l e ({ frames := 5, cells := 0, slots := 0, locals := 123 } : Room) s m args below meth c H locs 0 0 Q (F0 m 13 ls [.int t0]) := by
  obtain ⟨hx, hb, hml, hown, hts⟩ := id hF
  unfold pX5_fresh_b13 at h
  refine lv_istore_n (lv' := [(3, .int t0), (0, .ref (G.1 0)), (1, .int x1), (2, .int x2)]) hx hb dX5_fresh_13 rfl hl (by decide) rfl (fun ls hl => ?_)
  refine lv_iload_n hx hb dX5_fresh_14 rfl (lv_at hl 0 rfl) ?_
  refine lv_if_eq (tgt := 20) hx hb dX5_fresh_15 (by decide) (fun q15 => ?_) (fun q15 => ?_)
  · have h := h.1 q15
    refine lv_aload_n hx hb dX5_fresh_20 rfl (lv_at hl 1 rfl) ?_
    refine zget (v := .ref (G.1 3)) hF hSt hH 0 (by decide) rfl (zE_0 _ _ _) (C := RX5) (T := TX5) (N := 5) rfl znX5_fresh_X5 2 (by decide) (List.mem_of_getElem? (i := 1) rfl) rfl dX5_fresh_21 ?_
    refine lv_iload_n hx hb dX5_fresh_24 rfl (lv_at hl 2 rfl) ?_
    refine zcalli hH (va_runV (As := [.int x1]) (rest := []) hF (kX3_rankNow l G M O x1 _ h) (cwV 1 hts gX5_fresh_X3_rankNow rfl rfl rfl ⟨rfl, zdX3_rankNow⟩ ⟨Nat.le_of_ble_eq_true rfl, Nat.le_of_ble_eq_true rfl⟩) (zpreV hSt hH 3 (by decide) rfl (zE_3 _ _ _) (q := (RX3, TX3, 4)) rfl [.int x1]) rfl rfl hl.1 rfl (lv_room (Nat.le_of_ble_eq_true rfl)) dX5_fresh_25 ⟨Nat.zero_le _, Nat.zero_le _⟩) (fun r25 M25 H locs h hH => ?_)
    refine lv_istore (lv' := [(4, .int r25), (3, .int t0), (0, .ref (G.1 0)), (1, .int x1), (2, .int x2)]) hx hb dX5_fresh_28 hl (by decide) rfl (fun ls hl => ?_)
    refine lv_iload_n hx hb dX5_fresh_30 rfl (lv_at hl 4 rfl) ?_
    refine lv_iload hx hb dX5_fresh_31 (lv_at hl 0 rfl) ?_
    refine lv_icmp_lt (tgt := 40) hx hb dX5_fresh_33 (by decide) (fun q33 => ?_) (fun q33 => ?_)
    · have h := h.1 q33
      refine lv_aload_n hx hb dX5_fresh_40 rfl (lv_at hl 2 rfl) ?_
      refine zget (v := .ref (G.1 3)) hF hSt hH 0 (by decide) rfl (zE_0 _ _ _) (C := RX5) (T := TX5) (N := 5) rfl znX5_fresh_X5 2 (by decide) (List.mem_of_getElem? (i := 1) rfl) rfl dX5_fresh_41 ?_
      refine zget (v := .ref (G.1 18)) hF hSt hH 3 (by decide) rfl (zE_3 _ _ _) (C := RX3) (T := TX3) (N := 4) rfl znX5_fresh_X3 2 (by decide) (List.mem_of_getElem? (i := 2) rfl) rfl dX5_fresh_44 ?_
      refine lv_iload_n hx hb dX5_fresh_47 rfl (lv_at hl 4 rfl) ?_
      obtain ⟨q48, h⟩ := h
      refine zald hF hSt hH 18 (by decide) rfl (zE_18 _ _ _) q48 dX5_fresh_48 ?_
      exact wX5_fresh_b49 hF hSt hret (M25.1 18 x2.toNatClampNeg) M25 H locs ls hH (lv_sub hl [] rfl) h
    · have h := h.2 q33
      refine lv_iconst (v := (-1 : Int32)) hx hb dX5_fresh_36 (by decide) ?_
      refine lv_goto (tgt := 49) hx hb dX5_fresh_37 (by decide) ?_
      exact wX5_fresh_b49 hF hSt hret (-1 : Int32) M25 H locs ls hH (lv_sub hl [] rfl) h
  · have h := h.2 q15
    refine lv_iload_n hx hb dX5_fresh_18 rfl (lv_at hl 0 rfl) ?_
    exact hret _ _ _ _ _ _ dX5_fresh_19 h hH
def pX5_fresh (M : zM) (x1 : Int32) (x2 : Int32) (post : Int32 → zM → Prop) : Prop :=
  (0 ≤ x2 → pX5_refusalOf M x1 (fun r10 => pX5_fresh_b13 post x1 x2 r10 M)) ∧ (¬ (0 ≤ x2) → pX5_fresh_b13 post x1 x2 (-1 : Int32) M)
set_option maxHeartbeats 4000000 in
set_option maxRecDepth 100000 in
theorem wX5_fresh {M : zM} {post : Int32 → zM → Prop} (hF : CallFix p m c cX5_fresh 5 s args wsX5_fresh RX5) (hSt : zSt G s) (hret : zRi p l e ({ frames := 5, cells := 0, slots := 0, locals := 123 } : Room) s m args below meth c Q cX5_fresh G true O post) (x1 : Int32) (x2 : Int32) (H : Heap) (locs : List Loc) (ls : Array Slot) (hH : zH G true s H locs M O) (hl : lv_has ls 5 [(0, .ref (G.1 0)), (1, .int x1), (2, .int x2)]) (h : pX5_fresh M x1 x2 post) : W p l e ({ frames := 5, cells := 0, slots := 0, locals := 123 } : Room) s m args below meth c H locs 0 0 Q (F0 m 0 ls []) := by
  obtain ⟨hx, hb, hml, hown, hts⟩ := id hF
  unfold pX5_fresh at h
  refine lv_iload_n hx hb dX5_fresh_0 rfl (lv_at hl 2 rfl) ?_
  refine lv_if_ge (tgt := 8) hx hb dX5_fresh_1 (by decide) (fun q1 => ?_) (fun q1 => ?_)
  · have h := h.1 q1
    refine lv_aload_n hx hb dX5_fresh_8 rfl (lv_at hl 0 rfl) ?_
    refine lv_iload_n hx hb dX5_fresh_9 rfl (lv_at hl 1 rfl) ?_
    refine zcalliP hH (va_runV (As := [.int x1]) (rest := []) hF (kX5_refusalOf l G M O x1 _ h) (cwV 1 hts gX5_fresh_X5_refusalOf rfl rfl rfl ⟨rfl, zdX5_refusalOf⟩ ⟨Nat.le_of_ble_eq_true rfl, Nat.le_of_ble_eq_true rfl⟩) (zpreV hSt hH 0 (by decide) rfl (zE_0 _ _ _) (q := (RX5, TX5, 5)) rfl [.int x1]) rfl rfl hl.1 rfl (lv_room (Nat.le_of_ble_eq_true rfl)) dX5_fresh_10 ⟨Nat.zero_le _, Nat.zero_le _⟩) (fun r10 H locs h hH => ?_)
    exact wX5_fresh_b13 hF hSt hret x1 x2 r10 M H locs ls hH (lv_sub hl [0, 1, 2] rfl) h
  · have h := h.2 q1
    refine lv_iconst (v := (-1 : Int32)) hx hb dX5_fresh_4 (by decide) ?_
    refine lv_goto (tgt := 13) hx hb dX5_fresh_5 (by decide) ?_
    exact wX5_fresh_b13 hF hSt hret x1 x2 (-1 : Int32) M H locs ls hH (lv_sub hl [0, 1, 2] rfl) h
set_option maxRecDepth 100000 in
theorem kX5_fresh (l : Launch) (G : zG) (M O : zM) (x1 : Int32) (x2 : Int32) (post : Int32 → zM → Prop) (h : pX5_fresh M x1 x2 post) : Met l yX5_fresh wsX5_fresh ({ frames := 5, cells := 0, slots := 0, locals := 123 } : Room) (zPc G true M O [.ref (G.1 0), .int x1, .int x2]) (va_Qi post (zB G true O) (zAA G)) 0 0 (zAA G) :=
  zmet_i (by decide) rfl (Nat.le_of_ble_eq_true rfl) (fun hF hSt hret H locs ls hH hl => wX5_fresh hF hSt hret x1 x2 H locs ls hH hl h)
end
theorem znX5_refusalOf__X5 : ∀ w ∈ wsX50, w ∈ wsX5_refusalOf_ := fun _ h => List.mem_cons_of_mem _ (List.mem_append_left _ (List.mem_append_right _ h))
theorem znX5_refusalOf__X2 : ∀ w ∈ wsX20, w ∈ wsX5_refusalOf_ := fun _ h => List.mem_cons_of_mem _ (List.mem_append_right _ h)
theorem zdX5_refusalOf_ : yX5_refusalOf_.cls ≠ "java/lang/invoke/MethodHandle" ∧ yX5_refusalOf_.cls ≠ "java/lang/invoke/VarHandle" ∧ (parseMethodDescriptor yX5_refusalOf_.desc).map (fun d => d.parameters.length) = some 2 := by decide +kernel
-- MixingRelays refusalOf(II)I
section
variable {p : Program} {l : Launch} {e : Env} {s : State} {m : MethodId} {args : Array Value} {below : List Frame} {meth : Method} {c : Code} {Q : State → Prop} {G : zG} {O : zM}
def pX5_refusalOf__b20 (M : zM) (post : Int32 → Prop) (t0 : Int32) : Prop :=
  post t0
set_option maxHeartbeats 4000000 in
set_option maxRecDepth 100000 in
theorem wX5_refusalOf__b20 {M : zM} {post : Int32 → Prop}  (hF : CallFix p m c cX5_refusalOf_ 3 s args wsX5_refusalOf_ RX5) (hSt : zSt G s) (hret : zRi p l e ({ frames := 2, cells := 0, slots := 0, locals := 42 } : Room) s m args below meth c Q cX5_refusalOf_ G true O (fun r M1 => M1 = M ∧ post r)) (t0 : Int32) (H : Heap) (locs : List Loc) (ls : Array Slot) (hH : zH G true s H locs M O) (hl : lv_has ls 3 []) (h : pX5_refusalOf__b20 M post t0) : W p l e ({ frames := 2, cells := 0, slots := 0, locals := 42 } : Room) s m args below meth c H locs 0 0 Q (F0 m 20 ls [.int t0]) := by
  obtain ⟨hx, hb, hml, hown, hts⟩ := id hF
  unfold pX5_refusalOf__b20 at h
  exact hret _ _ _ _ _ _ dX5_refusalOf__20 ⟨rfl, h⟩ hH
def pX5_refusalOf_ (M : zM) (x1 : Int32) (x2 : Int32) (post : Int32 → Prop) : Prop :=
  pX2_isPiece M x2 (fun r5 => (r5 = 0 → pX5_refusalOf__b20 M post (-1 : Int32)) ∧ (¬ (r5 = 0) → pX5_refusalOf M x1 (fun r13 => pX5_refusalOf__b20 M post r13)))
set_option maxHeartbeats 4000000 in
set_option maxRecDepth 100000 in
theorem wX5_refusalOf_ {M : zM} {post : Int32 → Prop} (hF : CallFix p m c cX5_refusalOf_ 3 s args wsX5_refusalOf_ RX5) (hSt : zSt G s) (hret : zRi p l e ({ frames := 2, cells := 0, slots := 0, locals := 42 } : Room) s m args below meth c Q cX5_refusalOf_ G true O (fun r M1 => M1 = M ∧ post r)) (x1 : Int32) (x2 : Int32) (H : Heap) (locs : List Loc) (ls : Array Slot) (hH : zH G true s H locs M O) (hl : lv_has ls 3 [(0, .ref (G.1 0)), (1, .int x1), (2, .int x2)]) (h : pX5_refusalOf_ M x1 x2 post) : W p l e ({ frames := 2, cells := 0, slots := 0, locals := 42 } : Room) s m args below meth c H locs 0 0 Q (F0 m 0 ls []) := by
  obtain ⟨hx, hb, hml, hown, hts⟩ := id hF
  unfold pX5_refusalOf_ at h
  refine lv_aload_n hx hb dX5_refusalOf__0 rfl (lv_at hl 0 rfl) ?_
  refine zget (v := .ref (G.1 1)) hF hSt hH 0 (by decide) rfl (zE_0 _ _ _) (C := RX5) (T := TX5) (N := 5) rfl znX5_refusalOf__X5 0 (by decide) (List.mem_of_getElem? (i := 1) rfl) rfl dX5_refusalOf__1 ?_
  refine lv_iload_n hx hb dX5_refusalOf__4 rfl (lv_at hl 2 rfl) ?_
  refine zcalliP hH (va_runV (As := [.int x2]) (rest := []) hF (kX2_isPiece l G M O x2 _ h) (cwV 1 hts gX5_refusalOf__X2_isPiece rfl rfl rfl ⟨rfl, zdX2_isPiece⟩ ⟨Nat.le_of_ble_eq_true rfl, Nat.le_of_ble_eq_true rfl⟩) (zpreV hSt hH 1 (by decide) rfl (zE_1 _ _ _) (q := (RX2, TX2, 16)) rfl [.int x2]) rfl rfl hl.1 rfl (lv_room (Nat.le_of_ble_eq_true rfl)) dX5_refusalOf__5 ⟨Nat.zero_le _, Nat.zero_le _⟩) (fun r5 H locs h hH => ?_)
  refine lv_if_eq (tgt := 19) hx hb dX5_refusalOf__8 (by decide) (fun q8 => ?_) (fun q8 => ?_)
  · have h := h.1 q8
    refine lv_iconst (v := (-1 : Int32)) hx hb dX5_refusalOf__19 (by decide) ?_
    exact wX5_refusalOf__b20 hF hSt hret (-1 : Int32) H locs ls hH (lv_sub hl [] rfl) h
  · have h := h.2 q8
    refine lv_aload_n hx hb dX5_refusalOf__11 rfl (lv_at hl 0 rfl) ?_
    refine lv_iload_n hx hb dX5_refusalOf__12 rfl (lv_at hl 1 rfl) ?_
    refine zcalliP hH (va_runV (As := [.int x1]) (rest := []) hF (kX5_refusalOf l G M O x1 _ h) (cwV 1 hts gX5_refusalOf__X5_refusalOf rfl rfl rfl ⟨rfl, zdX5_refusalOf⟩ ⟨Nat.le_of_ble_eq_true rfl, Nat.le_of_ble_eq_true rfl⟩) (zpreV hSt hH 0 (by decide) rfl (zE_0 _ _ _) (q := (RX5, TX5, 5)) rfl [.int x1]) rfl rfl hl.1 rfl (lv_room (Nat.le_of_ble_eq_true rfl)) dX5_refusalOf__13 ⟨Nat.zero_le _, Nat.zero_le _⟩) (fun r13 H locs h hH => ?_)
    refine lv_goto (tgt := 20) hx hb dX5_refusalOf__16 (by decide) ?_
    exact wX5_refusalOf__b20 hF hSt hret r13 H locs ls hH (lv_sub hl [] rfl) h
set_option maxRecDepth 100000 in
theorem kX5_refusalOf_ (l : Launch) (G : zG) (M O : zM) (x1 : Int32) (x2 : Int32) (post : Int32 → Prop) (h : pX5_refusalOf_ M x1 x2 post) : Met l yX5_refusalOf_ wsX5_refusalOf_ ({ frames := 2, cells := 0, slots := 0, locals := 42 } : Room) (zPc G true M O [.ref (G.1 0), .int x1, .int x2]) (va_Qi (fun r M1 => M1 = M ∧ post r) (zB G true O) (zAA G)) 0 0 (zAA G) :=
  zmet_i (by decide) rfl (Nat.le_of_ble_eq_true rfl) (fun hF hSt hret H locs ls hH hl => wX5_refusalOf_ hF hSt hret x1 x2 H locs ls hH hl h)
end
theorem znX3_worksOut_X3 : ∀ w ∈ wsX30, w ∈ wsX3_worksOut := fun _ h => List.mem_cons_of_mem _ (List.mem_append_right _ h)
theorem zdX3_worksOut : yX3_worksOut.cls ≠ "java/lang/invoke/MethodHandle" ∧ yX3_worksOut.cls ≠ "java/lang/invoke/VarHandle" ∧ (parseMethodDescriptor yX3_worksOut.desc).map (fun d => d.parameters.length) = some 1 := by decide +kernel
-- MixingRelays$Span worksOut(I)Z
section
variable {p : Program} {l : Launch} {e : Env} {s : State} {m : MethodId} {args : Array Value} {below : List Frame} {meth : Method} {c : Code} {Q : State → Prop} {G : zG} {O : zM}
def pX3_worksOut_b24 (M : zM) (post : Int32 → Prop) (t0 : Int32) : Prop :=
  (t0 = 0 ∨ t0 = 1) ∧ post t0
set_option maxHeartbeats 4000000 in
set_option maxRecDepth 100000 in
theorem wX3_worksOut_b24 {M : zM} {post : Int32 → Prop}  (hF : CallFix p m c cX3_worksOut 2 s args wsX3_worksOut RX3) (hSt : zSt G s) (hret : zRz p l e ({ frames := 0, cells := 0, slots := 0, locals := 0 } : Room) s m args below meth c Q cX3_worksOut G true O (fun r M1 => M1 = M ∧ post r)) (t0 : Int32) (H : Heap) (locs : List Loc) (ls : Array Slot) (hH : zH G true s H locs M O) (hl : lv_has ls 2 []) (h : pX3_worksOut_b24 M post t0) : W p l e ({ frames := 0, cells := 0, slots := 0, locals := 0 } : Room) s m args below meth c H locs 0 0 Q (F0 m 24 ls [.int t0]) := by
  obtain ⟨hx, hb, hml, hown, hts⟩ := id hF
  unfold pX3_worksOut_b24 at h
  exact hret _ _ _ _ _ _ dX3_worksOut_24 ⟨h.1, rfl, h.2⟩ hH
def pX3_worksOut (M : zM) (x1 : Int32) (post : Int32 → Prop) : Prop :=
  vp_in x1 4 ∧ vp_in x1 4 ∧ (¬ ((lg_cmp ((M.2 17 x1.toNatClampNeg) &&& (4294967295 : Int64)) (zU x1.toNatClampNeg)) = 0) → pX3_worksOut_b24 M post (0 : Int32)) ∧ ((lg_cmp ((M.2 17 x1.toNatClampNeg) &&& (4294967295 : Int64)) (zU x1.toNatClampNeg)) = 0 → pX3_worksOut_b24 M post (1 : Int32))
set_option maxHeartbeats 4000000 in
set_option maxRecDepth 100000 in
theorem wX3_worksOut {M : zM} {post : Int32 → Prop} (hF : CallFix p m c cX3_worksOut 2 s args wsX3_worksOut RX3) (hSt : zSt G s) (hret : zRz p l e ({ frames := 0, cells := 0, slots := 0, locals := 0 } : Room) s m args below meth c Q cX3_worksOut G true O (fun r M1 => M1 = M ∧ post r)) (x1 : Int32) (H : Heap) (locs : List Loc) (ls : Array Slot) (hH : zH G true s H locs M O) (hl : lv_has ls 2 [(0, .ref (G.1 3)), (1, .int x1)]) (h : pX3_worksOut M x1 post) : W p l e ({ frames := 0, cells := 0, slots := 0, locals := 0 } : Room) s m args below meth c H locs 0 0 Q (F0 m 0 ls []) := by
  obtain ⟨hx, hb, hml, hown, hts⟩ := id hF
  unfold pX3_worksOut at h
  refine lv_aload_n hx hb dX3_worksOut_0 rfl (lv_at hl 0 rfl) ?_
  refine zget (v := .ref (G.1 17)) hF hSt hH 3 (by decide) rfl (zE_3 _ _ _) (C := RX3) (T := TX3) (N := 4) rfl znX3_worksOut_X3 1 (by decide) (List.mem_of_getElem? (i := 1) rfl) rfl dX3_worksOut_1 ?_
  refine lv_iload_n hx hb dX3_worksOut_4 rfl (lv_at hl 1 rfl) ?_
  obtain ⟨q5, h⟩ := h
  refine zlald hF hSt hH 17 (by decide) rfl (zE_17 _ _ _) q5 dX3_worksOut_5 ?_
  refine lv_ldc2 (v := (4294967295 : Int64)) hx hb hown (hts _ (List.mem_of_getElem? (i := 2) rfl)) dX3_worksOut_6 ?_
  refine lv_land hx hb dX3_worksOut_9 ?_
  refine zugets hF hSt hH zNest_X3_65 dX3_worksOut_10 ?_
  refine lv_iload_n hx hb dX3_worksOut_13 rfl (lv_at hl 1 rfl) ?_
  obtain ⟨q14, h⟩ := h
  refine zuald hF hSt hH q14 dX3_worksOut_14 ?_
  refine W.lcmp hx hb dX3_worksOut_15 ?_
  refine lv_if_ne (tgt := 23) hx hb dX3_worksOut_16 (by decide) (fun q16 => ?_) (fun q16 => ?_)
  · have h := h.1 q16
    refine lv_iconst (v := (0 : Int32)) hx hb dX3_worksOut_23 (by decide) ?_
    exact wX3_worksOut_b24 hF hSt hret (0 : Int32) H locs ls hH (lv_sub hl [] rfl) h
  · have h := h.2 q16
    refine lv_iconst (v := (1 : Int32)) hx hb dX3_worksOut_19 (by decide) ?_
    refine lv_goto (tgt := 24) hx hb dX3_worksOut_20 (by decide) ?_
    exact wX3_worksOut_b24 hF hSt hret (1 : Int32) H locs ls hH (lv_sub hl [] rfl) h
set_option maxRecDepth 100000 in
theorem kX3_worksOut (l : Launch) (G : zG) (M O : zM) (x1 : Int32) (post : Int32 → Prop) (h : pX3_worksOut M x1 post) : Met l yX3_worksOut wsX3_worksOut ({ frames := 0, cells := 0, slots := 0, locals := 0 } : Room) (zPc G true M O [.ref (G.1 3), .int x1]) (va_Qi (fun r M1 => M1 = M ∧ post r) (zB G true O) (zAA G)) 0 0 (zAA G) :=
  zmet_z (by decide) rfl (Nat.le_of_ble_eq_true rfl) (fun hF hSt hret H locs ls hH hl => wX3_worksOut hF hSt hret x1 H locs ls hH hl h)
end
theorem znX5_solves_X5 : ∀ w ∈ wsX50, w ∈ wsX5_solves := fun _ h => List.mem_cons_of_mem _ (List.mem_append_left _ (List.mem_append_left _ (List.mem_append_right _ h)))
theorem znX5_solves_X2 : ∀ w ∈ wsX20, w ∈ wsX5_solves := fun _ h => List.mem_cons_of_mem _ (List.mem_append_left _ (List.mem_append_right _ h))
theorem znX5_solves_X3 : ∀ w ∈ wsX30, w ∈ wsX5_solves := fun _ h => List.mem_cons_of_mem _ (List.mem_append_right _ h)
theorem zdX5_solves : yX5_solves.cls ≠ "java/lang/invoke/MethodHandle" ∧ yX5_solves.cls ≠ "java/lang/invoke/VarHandle" ∧ (parseMethodDescriptor yX5_solves.desc).map (fun d => d.parameters.length) = some 2 := by decide +kernel
-- MixingRelays solves(II)I
section
variable {p : Program} {l : Launch} {e : Env} {s : State} {m : MethodId} {args : Array Value} {below : List Frame} {meth : Method} {c : Code} {Q : State → Prop} {G : zG} {O : zM}
def pX5_solves (M : zM) (x1 : Int32) (x2 : Int32) (post : Int32 → zM → Prop) : Prop :=
  pX5_refusalOf_ M x1 x2 (fun r3 => (r3 = 0 → pX3_rankNow M x1 (fun r18 M18 => pX3_worksOut M18 x2 (fun r27 => pX5_asFlag r27 (fun r30 => post r30 M18)))) ∧ (¬ (r3 = 0) → post r3 M))
set_option maxHeartbeats 4000000 in
set_option maxRecDepth 100000 in
theorem wX5_solves {M : zM} {post : Int32 → zM → Prop} (hF : CallFix p m c cX5_solves 4 s args wsX5_solves RX5) (hSt : zSt G s) (hret : zRi p l e ({ frames := 5, cells := 0, slots := 0, locals := 123 } : Room) s m args below meth c Q cX5_solves G true O post) (x1 : Int32) (x2 : Int32) (H : Heap) (locs : List Loc) (ls : Array Slot) (hH : zH G true s H locs M O) (hl : lv_has ls 4 [(0, .ref (G.1 0)), (1, .int x1), (2, .int x2)]) (h : pX5_solves M x1 x2 post) : W p l e ({ frames := 5, cells := 0, slots := 0, locals := 123 } : Room) s m args below meth c H locs 0 0 Q (F0 m 0 ls []) := by
  obtain ⟨hx, hb, hml, hown, hts⟩ := id hF
  unfold pX5_solves at h
  refine lv_aload_n hx hb dX5_solves_0 rfl (lv_at hl 0 rfl) ?_
  refine lv_iload_n hx hb dX5_solves_1 rfl (lv_at hl 1 rfl) ?_
  refine lv_iload_n hx hb dX5_solves_2 rfl (lv_at hl 2 rfl) ?_
  refine zcalliP hH (va_runV (As := [.int x1, .int x2]) (rest := []) hF (kX5_refusalOf_ l G M O x1 x2 _ h) (cwV 2 hts gX5_solves_X5_refusalOf_ rfl rfl rfl ⟨rfl, zdX5_refusalOf_⟩ ⟨Nat.le_of_ble_eq_true rfl, Nat.le_of_ble_eq_true rfl⟩) (zpreV hSt hH 0 (by decide) rfl (zE_0 _ _ _) (q := (RX5, TX5, 5)) rfl [.int x1, .int x2]) rfl rfl hl.1 rfl (lv_room (Nat.le_of_ble_eq_true rfl)) dX5_solves_3 ⟨Nat.zero_le _, Nat.zero_le _⟩) (fun r3 H locs h hH => ?_)
  refine lv_istore_n (lv' := [(3, .int r3), (0, .ref (G.1 0)), (1, .int x1), (2, .int x2)]) hx hb dX5_solves_6 rfl hl (by decide) rfl (fun ls hl => ?_)
  refine lv_iload_n hx hb dX5_solves_7 rfl (lv_at hl 0 rfl) ?_
  refine lv_if_eq (tgt := 13) hx hb dX5_solves_8 (by decide) (fun q8 => ?_) (fun q8 => ?_)
  · have h := h.1 q8
    refine lv_aload_n hx hb dX5_solves_13 rfl (lv_at hl 1 rfl) ?_
    refine zget (v := .ref (G.1 3)) hF hSt hH 0 (by decide) rfl (zE_0 _ _ _) (C := RX5) (T := TX5) (N := 5) rfl znX5_solves_X5 2 (by decide) (List.mem_of_getElem? (i := 1) rfl) rfl dX5_solves_14 ?_
    refine lv_iload_n hx hb dX5_solves_17 rfl (lv_at hl 2 rfl) ?_
    refine zcalli hH (va_runV (As := [.int x1]) (rest := []) hF (kX3_rankNow l G M O x1 _ h) (cwV 1 hts gX5_solves_X3_rankNow rfl rfl rfl ⟨rfl, zdX3_rankNow⟩ ⟨Nat.le_of_ble_eq_true rfl, Nat.le_of_ble_eq_true rfl⟩) (zpreV hSt hH 3 (by decide) rfl (zE_3 _ _ _) (q := (RX3, TX3, 4)) rfl [.int x1]) rfl rfl hl.1 rfl (lv_room (Nat.le_of_ble_eq_true rfl)) dX5_solves_18 ⟨Nat.zero_le _, Nat.zero_le _⟩) (fun r18 M18 H locs h hH => ?_)
    refine lv_pop hx hb dX5_solves_21 rfl ?_
    refine lv_aload_n hx hb dX5_solves_22 rfl (lv_at hl 1 rfl) ?_
    refine zget (v := .ref (G.1 3)) hF hSt hH 0 (by decide) rfl (zE_0 _ _ _) (C := RX5) (T := TX5) (N := 5) rfl znX5_solves_X5 2 (by decide) (List.mem_of_getElem? (i := 1) rfl) rfl dX5_solves_23 ?_
    refine lv_iload_n hx hb dX5_solves_26 rfl (lv_at hl 3 rfl) ?_
    refine zcalliP hH (va_runV (As := [.int x2]) (rest := []) hF (kX3_worksOut l G M18 O x2 _ h) (cwV 1 hts gX5_solves_X3_worksOut rfl rfl rfl ⟨rfl, zdX3_worksOut⟩ ⟨Nat.le_of_ble_eq_true rfl, Nat.le_of_ble_eq_true rfl⟩) (zpreV hSt hH 3 (by decide) rfl (zE_3 _ _ _) (q := (RX3, TX3, 4)) rfl [.int x2]) rfl rfl hl.1 rfl (lv_room (Nat.le_of_ble_eq_true rfl)) dX5_solves_27 ⟨Nat.zero_le _, Nat.zero_le _⟩) (fun r27 H locs h hH => ?_)
    refine zcalliP hH (va_runS (As := [.int r27]) (rest := []) hF (kX5_asFlag l G M18 O r27 _ h) (va_cwS 1 hts gX5_solves_X5_asFlag rfl rfl rfl zdX5_asFlag ⟨Nat.le_of_ble_eq_true rfl, Nat.le_of_ble_eq_true rfl⟩) (zpreS hSt hH [.int r27]) rfl rfl hl.1 rfl (lv_room (Nat.le_of_ble_eq_true rfl)) dX5_solves_30 ⟨Nat.zero_le _, Nat.zero_le _⟩) (fun r30 H locs h hH => ?_)
    exact hret _ _ _ _ _ _ dX5_solves_33 h hH
  · have h := h.2 q8
    refine lv_iload_n hx hb dX5_solves_11 rfl (lv_at hl 0 rfl) ?_
    exact hret _ _ _ _ _ _ dX5_solves_12 h hH
set_option maxRecDepth 100000 in
theorem kX5_solves (l : Launch) (G : zG) (M O : zM) (x1 : Int32) (x2 : Int32) (post : Int32 → zM → Prop) (h : pX5_solves M x1 x2 post) : Met l yX5_solves wsX5_solves ({ frames := 5, cells := 0, slots := 0, locals := 123 } : Room) (zPc G true M O [.ref (G.1 0), .int x1, .int x2]) (va_Qi post (zB G true O) (zAA G)) 0 0 (zAA G) :=
  zmet_i (by decide) rfl (Nat.le_of_ble_eq_true rfl) (fun hF hSt hret H locs ls hH hl => wX5_solves hF hSt hret x1 x2 H locs ls hH hl h)
end
theorem znX3_keyNumber_X3 : ∀ w ∈ wsX30, w ∈ wsX3_keyNumber := fun _ h => List.mem_cons_of_mem _ (List.mem_append_right _ h)
theorem zdX3_keyNumber : yX3_keyNumber.cls ≠ "java/lang/invoke/MethodHandle" ∧ yX3_keyNumber.cls ≠ "java/lang/invoke/VarHandle" ∧ (parseMethodDescriptor yX3_keyNumber.desc).map (fun d => d.parameters.length) = some 2 := by decide +kernel
-- MixingRelays$Span keyNumber(II)I
section
variable {p : Program} {l : Launch} {e : Env} {s : State} {m : MethodId} {args : Array Value} {below : List Frame} {meth : Method} {c : Code} {Q : State → Prop} {G : zG} {O : zM}
def pX3_keyNumber (M : zM) (x1 : Int32) (x2 : Int32) (post : Int32 → Prop) : Prop :=
  vp_in x1 4 ∧ pX5_byteOf (M.2 17 x1.toNatClampNeg) ((4 : Int32) + x2) (fun r9 => post r9)
set_option maxHeartbeats 4000000 in
set_option maxRecDepth 100000 in
theorem wX3_keyNumber {M : zM} {post : Int32 → Prop} (hF : CallFix p m c cX3_keyNumber 3 s args wsX3_keyNumber RX3) (hSt : zSt G s) (hret : zRi p l e ({ frames := 1, cells := 0, slots := 0, locals := 22 } : Room) s m args below meth c Q cX3_keyNumber G true O (fun r M1 => M1 = M ∧ post r)) (x1 : Int32) (x2 : Int32) (H : Heap) (locs : List Loc) (ls : Array Slot) (hH : zH G true s H locs M O) (hl : lv_has ls 3 [(0, .ref (G.1 3)), (1, .int x1), (2, .int x2)]) (h : pX3_keyNumber M x1 x2 post) : W p l e ({ frames := 1, cells := 0, slots := 0, locals := 22 } : Room) s m args below meth c H locs 0 0 Q (F0 m 0 ls []) := by
  obtain ⟨hx, hb, hml, hown, hts⟩ := id hF
  unfold pX3_keyNumber at h
  refine lv_aload_n hx hb dX3_keyNumber_0 rfl (lv_at hl 0 rfl) ?_
  refine zget (v := .ref (G.1 17)) hF hSt hH 3 (by decide) rfl (zE_3 _ _ _) (C := RX3) (T := TX3) (N := 4) rfl znX3_keyNumber_X3 1 (by decide) (List.mem_of_getElem? (i := 1) rfl) rfl dX3_keyNumber_1 ?_
  refine lv_iload_n hx hb dX3_keyNumber_4 rfl (lv_at hl 1 rfl) ?_
  obtain ⟨q5, h⟩ := h
  refine zlald hF hSt hH 17 (by decide) rfl (zE_17 _ _ _) q5 dX3_keyNumber_5 ?_
  refine lv_iconst (v := (4 : Int32)) hx hb dX3_keyNumber_6 (by decide) ?_
  refine lv_iload_n hx hb dX3_keyNumber_7 rfl (lv_at hl 2 rfl) ?_
  refine lv_iadd hx hb dX3_keyNumber_8 ?_
  refine zcalliP hH (va_runSN (As := [.long (M.2 17 x1.toNatClampNeg), .int ((4 : Int32) + x2)]) (rest := []) hF (kX5_byteOf l G M O (M.2 17 x1.toNatClampNeg) ((4 : Int32) + x2) _ h) ⟨va_cnB 2 hts gX3_keyNumber_X5_byteOf_n68 rfl rfl rfl (hSt.2.2.1 _ zNest_X3_68) (hts _ (List.mem_of_getElem? (i := 3) rfl)) zdX5_byteOf ⟨Nat.le_of_ble_eq_true rfl, Nat.le_of_ble_eq_true rfl⟩, hts _ (List.mem_of_getElem? (i := 2) rfl), trivial⟩ (zpreS hSt hH [.long (M.2 17 x1.toNatClampNeg), .int ((4 : Int32) + x2)]) rfl rfl hl.1 rfl (lv_room (Nat.le_of_ble_eq_true rfl)) dX3_keyNumber_9 ⟨Nat.zero_le _, Nat.zero_le _⟩) (fun r9 H locs h hH => ?_)
  exact hret _ _ _ _ _ _ dX3_keyNumber_12 ⟨rfl, h⟩ hH
set_option maxRecDepth 100000 in
theorem kX3_keyNumber (l : Launch) (G : zG) (M O : zM) (x1 : Int32) (x2 : Int32) (post : Int32 → Prop) (h : pX3_keyNumber M x1 x2 post) : Met l yX3_keyNumber wsX3_keyNumber ({ frames := 1, cells := 0, slots := 0, locals := 22 } : Room) (zPc G true M O [.ref (G.1 3), .int x1, .int x2]) (va_Qi (fun r M1 => M1 = M ∧ post r) (zB G true O) (zAA G)) 0 0 (zAA G) :=
  zmet_i (by decide) rfl (Nat.le_of_ble_eq_true rfl) (fun hF hSt hret H locs ls hH hl => wX3_keyNumber hF hSt hret x1 x2 H locs ls hH hl h)
end
