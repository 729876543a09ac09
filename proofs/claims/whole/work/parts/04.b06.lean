theorem znX6_gets_X6 : ∀ w ∈ wsX60, w ∈ wsX6_gets := fun _ h => List.mem_cons_of_mem _ (List.mem_append_right _ h)
theorem zdX6_gets : yX6_gets.cls ≠ "java/lang/invoke/MethodHandle" ∧ yX6_gets.cls ≠ "java/lang/invoke/VarHandle" ∧ (parseMethodDescriptor yX6_gets.desc).map (fun d => d.parameters.length) = some 2 := by decide +kernel
-- MixingRelaysModel gets(II)J
section
variable {p : Program} {l : Launch} {e : Env} {s : State} {m : MethodId} {args : Array Value} {below : List Frame} {meth : Method} {c : Code} {Q : State → Prop} {G : zG} {O : zM}
def pX6_gets_b26 (post : Int64 → zM → Prop) (M : zM) : Prop :=
  post (0 : Int64) M
set_option maxHeartbeats 4000000 in
set_option maxRecDepth 100000 in
theorem wX6_gets_b26 {post : Int64 → zM → Prop}  (hF : CallFix p m c cX6_gets 3 s args wsX6_gets RX6) (hSt : zSt G s) (hret : zRl p l e ({ frames := 4, cells := 0, slots := 0, locals := 97 } : Room) s m args below meth c Q cX6_gets G false O post) (M : zM) (H : Heap) (locs : List Loc) (ls : Array Slot) (hH : zH G false s H locs M O) (hl : lv_has ls 3 []) (h : pX6_gets_b26 post M) : W p l e ({ frames := 4, cells := 0, slots := 0, locals := 97 } : Room) s m args below meth c H locs 0 0 Q (F0 m 26 ls []) := by
  obtain ⟨hx, hb, hml, hown, hts⟩ := id hF
  unfold pX6_gets_b26 at h
  refine lv_lconst (v := (0 : Int64)) hx hb dX6_gets_26 (by decide) ?_
  exact hret _ _ _ _ _ _ dX6_gets_27 h hH
def pX6_gets (M : zM) (x1 : Int32) (x2 : Int32) (post : Int64 → zM → Prop) : Prop :=
  pX6_isRelay M x1 (fun r2 => (r2 = 0 → pX6_gets_b26 post M) ∧ (¬ (r2 = 0) → (x1 = 0 → pX6_gets_b26 post M) ∧ (¬ (x1 = 0) → pX6_in x2 (0 : Int32) ((M.1 21 3) - (1 : Int32)) (fun r20 => (¬ (r20 = 0) → pX6_work M  (fun M29 => pX6_study M29 x1 (fun M34 => pX6_getsOf M34 x2 (fun r39 M39 => post r39 M39)))) ∧ (r20 = 0 → pX6_gets_b26 post M)))))
set_option maxHeartbeats 4000000 in
set_option maxRecDepth 100000 in
theorem wX6_gets {M : zM} {post : Int64 → zM → Prop} (hF : CallFix p m c cX6_gets 3 s args wsX6_gets RX6) (hSt : zSt G s) (hret : zRl p l e ({ frames := 4, cells := 0, slots := 0, locals := 97 } : Room) s m args below meth c Q cX6_gets G false O post) (x1 : Int32) (x2 : Int32) (H : Heap) (locs : List Loc) (ls : Array Slot) (hH : zH G false s H locs M O) (hl : lv_has ls 3 [(0, .ref (G.1 21)), (1, .int x1), (2, .int x2)]) (h : pX6_gets M x1 x2 post) : W p l e ({ frames := 4, cells := 0, slots := 0, locals := 97 } : Room) s m args below meth c H locs 0 0 Q (F0 m 0 ls []) := by
  obtain ⟨hx, hb, hml, hown, hts⟩ := id hF
  unfold pX6_gets at h
  refine lv_aload_n hx hb dX6_gets_0 rfl (lv_at hl 0 rfl) ?_
  refine lv_iload_n hx hb dX6_gets_1 rfl (lv_at hl 1 rfl) ?_
  refine zcalliP hH (va_runV (As := [.int x1]) (rest := []) hF (kX6_isRelay l G M O x1 _ h) (cwV 1 hts gX6_gets_X6_isRelay rfl rfl rfl ⟨rfl, zdX6_isRelay⟩ ⟨Nat.le_of_ble_eq_true rfl, Nat.le_of_ble_eq_true rfl⟩) (zpreV hSt hH 21 (by decide) rfl (zE_21 _ _ _) (q := (RX6, TX6, 31)) rfl [.int x1]) rfl rfl hl.1 rfl (lv_room (Nat.le_of_ble_eq_true rfl)) dX6_gets_2 ⟨Nat.zero_le _, Nat.zero_le _⟩) (fun r2 H locs h hH => ?_)
  refine lv_if_eq (tgt := 26) hx hb dX6_gets_5 (by decide) (fun q5 => ?_) (fun q5 => ?_)
  · have h := h.1 q5
    exact wX6_gets_b26 hF hSt hret M H locs ls hH (lv_sub hl [] rfl) h
  · have h := h.2 q5
    refine lv_iload_n hx hb dX6_gets_8 rfl (lv_at hl 1 rfl) ?_
    refine lv_if_eq (tgt := 26) hx hb dX6_gets_9 (by decide) (fun q9 => ?_) (fun q9 => ?_)
    · have h := h.1 q9
      exact wX6_gets_b26 hF hSt hret M H locs ls hH (lv_sub hl [] rfl) h
    · have h := h.2 q9
      refine lv_iload_n hx hb dX6_gets_12 rfl (lv_at hl 2 rfl) ?_
      refine lv_iconst (v := (0 : Int32)) hx hb dX6_gets_13 (by decide) ?_
      refine lv_aload_n hx hb dX6_gets_14 rfl (lv_at hl 0 rfl) ?_
      refine zget (v := .int (M.1 21 3)) hF hSt hH 21 (by decide) rfl (zE_21 _ _ _) (C := RX6) (T := TX6) (N := 31) rfl znX6_gets_X6 3 (by decide) (List.mem_of_getElem? (i := 1) rfl) rfl dX6_gets_15 ?_
      refine lv_iconst (v := (1 : Int32)) hx hb dX6_gets_18 (by decide) ?_
      refine lv_isub hx hb dX6_gets_19 ?_
      refine zcalliP hH (va_runS (As := [.int x2, .int (0 : Int32), .int ((M.1 21 3) - (1 : Int32))]) (rest := []) hF (kX6_in l G M O x2 (0 : Int32) ((M.1 21 3) - (1 : Int32)) _ h) (va_cwS 3 hts gX6_gets_X6_in rfl rfl rfl zdX6_in ⟨Nat.le_of_ble_eq_true rfl, Nat.le_of_ble_eq_true rfl⟩) (zpreS hSt hH [.int x2, .int (0 : Int32), .int ((M.1 21 3) - (1 : Int32))]) rfl rfl hl.1 rfl (lv_room (Nat.le_of_ble_eq_true rfl)) dX6_gets_20 ⟨Nat.zero_le _, Nat.zero_le _⟩) (fun r20 H locs h hH => ?_)
      refine lv_if_ne (tgt := 28) hx hb dX6_gets_23 (by decide) (fun q23 => ?_) (fun q23 => ?_)
      · have h := h.1 q23
        refine lv_aload_n hx hb dX6_gets_28 rfl (lv_at hl 0 rfl) ?_
        refine zcallv hH (va_runV (As := []) (rest := []) hF (kX6_work l G M O _ h) (cwV 0 hts gX6_gets_X6_work rfl rfl rfl ⟨rfl, zdX6_work⟩ ⟨Nat.le_of_ble_eq_true rfl, Nat.le_of_ble_eq_true rfl⟩) (zpreV hSt hH 21 (by decide) rfl (zE_21 _ _ _) (q := (RX6, TX6, 31)) rfl []) rfl rfl hl.1 rfl (lv_room (Nat.le_of_ble_eq_true rfl)) dX6_gets_29 ⟨Nat.zero_le _, Nat.zero_le _⟩) (fun M29 H locs h hH => ?_)
        refine lv_aload_n hx hb dX6_gets_32 rfl (lv_at hl 0 rfl) ?_
        refine lv_iload_n hx hb dX6_gets_33 rfl (lv_at hl 1 rfl) ?_
        refine zcallv hH (va_runV (As := [.int x1]) (rest := []) hF (kX6_study l G M29 O x1 _ h) (cwV 1 hts gX6_gets_X6_study rfl rfl rfl ⟨rfl, zdX6_study⟩ ⟨Nat.le_of_ble_eq_true rfl, Nat.le_of_ble_eq_true rfl⟩) (zpreV hSt hH 21 (by decide) rfl (zE_21 _ _ _) (q := (RX6, TX6, 31)) rfl [.int x1]) rfl rfl hl.1 rfl (lv_room (Nat.le_of_ble_eq_true rfl)) dX6_gets_34 ⟨Nat.zero_le _, Nat.zero_le _⟩) (fun M34 H locs h hH => ?_)
        refine lv_aload_n hx hb dX6_gets_37 rfl (lv_at hl 0 rfl) ?_
        refine lv_iload_n hx hb dX6_gets_38 rfl (lv_at hl 2 rfl) ?_
        refine zcalll hH (va_runV (As := [.int x2]) (rest := []) hF (kX6_getsOf l G M34 O x2 _ h) (cwV 1 hts gX6_gets_X6_getsOf rfl rfl rfl ⟨rfl, zdX6_getsOf⟩ ⟨Nat.le_of_ble_eq_true rfl, Nat.le_of_ble_eq_true rfl⟩) (zpreV hSt hH 21 (by decide) rfl (zE_21 _ _ _) (q := (RX6, TX6, 31)) rfl [.int x2]) rfl rfl hl.1 rfl (lv_room (Nat.le_of_ble_eq_true rfl)) dX6_gets_39 ⟨Nat.zero_le _, Nat.zero_le _⟩) (fun r39 M39 H locs h hH => ?_)
        exact hret _ _ _ _ _ _ dX6_gets_42 h hH
      · have h := h.2 q23
        exact wX6_gets_b26 hF hSt hret M H locs ls hH (lv_sub hl [] rfl) h
set_option maxRecDepth 100000 in
theorem kX6_gets (l : Launch) (G : zG) (M O : zM) (x1 : Int32) (x2 : Int32) (post : Int64 → zM → Prop) (h : pX6_gets M x1 x2 post) : Met l yX6_gets wsX6_gets ({ frames := 4, cells := 0, slots := 0, locals := 97 } : Room) (zPc G false M O [.ref (G.1 21), .int x1, .int x2]) (va_Ql post (zB G false O) (zAA G)) 0 0 (zAA G) :=
  zmet_l (by decide) rfl (Nat.le_of_ble_eq_true rfl) (fun hF hSt hret H locs ls hH hl => wX6_gets hF hSt hret x1 x2 H locs ls hH hl h)
end
theorem znX6_isSolvable_X6 : ∀ w ∈ wsX60, w ∈ wsX6_isSolvable := fun _ h => List.mem_cons_of_mem _ (List.mem_append_right _ h)
theorem zdX6_isSolvable : yX6_isSolvable.cls ≠ "java/lang/invoke/MethodHandle" ∧ yX6_isSolvable.cls ≠ "java/lang/invoke/VarHandle" ∧ (parseMethodDescriptor yX6_isSolvable.desc).map (fun d => d.parameters.length) = some 1 := by decide +kernel
-- MixingRelaysModel isSolvable(I)Z
section
variable {p : Program} {l : Launch} {e : Env} {s : State} {m : MethodId} {args : Array Value} {below : List Frame} {meth : Method} {c : Code} {Q : State → Prop} {G : zG} {O : zM}
def pX6_isSolvable_b227 (post : Int32 → zM → Prop) (ag227 : Int32 → Int32 → zM → Prop) (x1 : Int32) (x3 : Int32) (M : zM) : Prop :=
  (x1 ≤ x3 → ((1 : Int32) = 0 ∨ (1 : Int32) = 1) ∧ post (1 : Int32) M) ∧ (¬ (x1 ≤ x3) → vp_in (((5 : Int32) * x3) + (4 : Int32)) 25 ∧ ((M.1 40 ((((5 : Int32) * x3) + (4 : Int32))).toNatClampNeg) = 0 → ag227 x1 (x3 + (1 : Int32)) M) ∧ (¬ ((M.1 40 ((((5 : Int32) * x3) + (4 : Int32))).toNatClampNeg) = 0) → ((0 : Int32) = 0 ∨ (0 : Int32) = 1) ∧ post (0 : Int32) M))
set_option maxHeartbeats 4000000 in
set_option maxRecDepth 100000 in
theorem wX6_isSolvable_b227 {post : Int32 → zM → Prop} {ag227 : Int32 → Int32 → zM → Prop} (hF : CallFix p m c cX6_isSolvable 9 s args wsX6_isSolvable RX6) (hSt : zSt G s) (hret : zRz p l e ({ frames := 2, cells := 0, slots := 0, locals := 45 } : Room) s m args below meth c Q cX6_isSolvable G false O post) (hag227 : ∀ (x1 : Int32) (x3 : Int32) (M : zM) (H : Heap) (locs : List Loc) (ls : Array Slot), ag227 x1 x3 M → zH G false s H locs M O → lv_has ls 9 [(0, .ref (G.1 21)), (1, .int x1), (3, .int x3)] → W p l e ({ frames := 2, cells := 0, slots := 0, locals := 45 } : Room) s m args below meth c H locs 0 0 Q (F0 m 227 ls [])) (x1 : Int32) (x3 : Int32) (M : zM) (H : Heap) (locs : List Loc) (ls : Array Slot) (hH : zH G false s H locs M O) (hl : lv_has ls 9 [(0, .ref (G.1 21)), (1, .int x1), (3, .int x3)]) (h : pX6_isSolvable_b227 post ag227 x1 x3 M) : W p l e ({ frames := 2, cells := 0, slots := 0, locals := 45 } : Room) s m args below meth c H locs 0 0 Q (F0 m 227 ls []) := by
  obtain ⟨hx, hb, hml, hown, hts⟩ := id hF
  unfold pX6_isSolvable_b227 at h
  refine lv_iload_n hx hb dX6_isSolvable_227 rfl (lv_at hl 2 rfl) ?_
  refine lv_iload_n hx hb dX6_isSolvable_228 rfl (lv_at hl 1 rfl) ?_
  refine lv_icmp_ge (tgt := 253) hx hb dX6_isSolvable_229 (by decide) (fun q229 => ?_) (fun q229 => ?_)
  · have h := h.1 q229
    refine lv_iconst (v := (1 : Int32)) hx hb dX6_isSolvable_253 (by decide) ?_
    exact hret _ _ _ _ _ _ dX6_isSolvable_254 h hH
  · have h := h.2 q229
    refine lv_aload_n hx hb dX6_isSolvable_232 rfl (lv_at hl 0 rfl) ?_
    refine zget (v := .ref (G.1 40)) hF hSt hH 21 (by decide) rfl (zE_21 _ _ _) (C := RX6) (T := TX6) (N := 31) rfl znX6_isSolvable_X6 25 (by decide) (List.mem_of_getElem? (i := 2) rfl) rfl dX6_isSolvable_233 ?_
    refine lv_iconst (v := (5 : Int32)) hx hb dX6_isSolvable_236 (by decide) ?_
    refine lv_iload_n hx hb dX6_isSolvable_237 rfl (lv_at hl 2 rfl) ?_
    refine lv_imul hx hb dX6_isSolvable_238 ?_
    refine lv_iconst (v := (4 : Int32)) hx hb dX6_isSolvable_239 (by decide) ?_
    refine lv_iadd hx hb dX6_isSolvable_240 ?_
    obtain ⟨q241, h⟩ := h
    refine zald hF hSt hH 40 (by decide) rfl (zE_40 _ _ _) q241 dX6_isSolvable_241 ?_
    refine lv_if_eq (tgt := 247) hx hb dX6_isSolvable_242 (by decide) (fun q242 => ?_) (fun q242 => ?_)
    · have h := h.1 q242
      refine lv_iinc (v := (x3 + (1 : Int32))) (lv' := [(3, .int (x3 + (1 : Int32))), (0, .ref (G.1 21)), (1, .int x1)]) hx hb dX6_isSolvable_247 hl (k := 2) rfl rfl (by decide) rfl (fun ls hl => ?_)
      refine lv_goto (tgt := 227) hx hb dX6_isSolvable_250 (by decide) ?_
      exact hag227 x1 (x3 + (1 : Int32)) M H locs ls h hH (lv_sub hl [1, 2, 0] rfl)
    · have h := h.2 q242
      refine lv_iconst (v := (0 : Int32)) hx hb dX6_isSolvable_245 (by decide) ?_
      exact hret _ _ _ _ _ _ dX6_isSolvable_246 h hH
def pX6_isSolvable_L227 (post : Int32 → zM → Prop) (x1 : Int32) (x3 : Int32) (M : zM) : Prop :=
  ∃ I : Nat → Int32 → Int32 → zM → Prop, (∃ n, I n x1 x3 M) ∧ ∀ n x1 x3 M, I n x1 x3 M → pX6_isSolvable_b227 post (fun x1 x3 M => ∃ k, k < n ∧ I k x1 x3 M) x1 x3 M
set_option maxHeartbeats 4000000 in
theorem wX6_isSolvable_L227 {post : Int32 → zM → Prop}  (hF : CallFix p m c cX6_isSolvable 9 s args wsX6_isSolvable RX6) (hSt : zSt G s) (hret : zRz p l e ({ frames := 2, cells := 0, slots := 0, locals := 45 } : Room) s m args below meth c Q cX6_isSolvable G false O post) (x1 : Int32) (x3 : Int32) (M : zM) (H : Heap) (locs : List Loc) (ls : Array Slot) (hH : zH G false s H locs M O) (hl : lv_has ls 9 [(0, .ref (G.1 21)), (1, .int x1), (3, .int x3)]) (h : pX6_isSolvable_L227 post x1 x3 M) : W p l e ({ frames := 2, cells := 0, slots := 0, locals := 45 } : Room) s m args below meth c H locs 0 0 Q (F0 m 227 ls []) := by
  obtain ⟨I, ⟨n, hI⟩, hs⟩ := h
  have key : ∀ (n : Nat) (x1 : Int32) (x3 : Int32) (M : zM) (H : Heap) (locs : List Loc) (ls : Array Slot), I n x1 x3 M → zH G false s H locs M O → lv_has ls 9 [(0, .ref (G.1 21)), (1, .int x1), (3, .int x3)] → W p l e ({ frames := 2, cells := 0, slots := 0, locals := 45 } : Room) s m args below meth c H locs 0 0 Q (F0 m 227 ls []) := by
    intro n
    induction n using Nat.strongRecOn with
    | _ n ih =>
      intro x1 x3 M H locs ls hI hH hl
      exact wX6_isSolvable_b227 hF hSt hret (fun x1 x3 M H locs ls h hH hl => by obtain ⟨k, hk, hI⟩ := h; exact ih k hk x1 x3 M H locs ls hI hH hl) x1 x3 M H locs ls hH hl (hs n x1 x3 M hI)
  exact key n x1 x3 M H locs ls hI hH hl
def pX6_isSolvable_b219 (post : Int32 → zM → Prop) (ag4 : Int32 → Int32 → Int32 → zM → Prop) (x1 : Int32) (x2 : Int32) (x3 : Int32) (M : zM) : Prop :=
  ag4 x1 x2 (x3 + (1 : Int32)) M
set_option maxHeartbeats 4000000 in
set_option maxRecDepth 100000 in
theorem wX6_isSolvable_b219 {post : Int32 → zM → Prop} {ag4 : Int32 → Int32 → Int32 → zM → Prop} (hF : CallFix p m c cX6_isSolvable 9 s args wsX6_isSolvable RX6) (hSt : zSt G s) (hret : zRz p l e ({ frames := 2, cells := 0, slots := 0, locals := 45 } : Room) s m args below meth c Q cX6_isSolvable G false O post) (hag4 : ∀ (x1 : Int32) (x2 : Int32) (x3 : Int32) (M : zM) (H : Heap) (locs : List Loc) (ls : Array Slot), ag4 x1 x2 x3 M → zH G false s H locs M O → lv_has ls 9 [(0, .ref (G.1 21)), (1, .int x1), (2, .int x2), (3, .int x3)] → W p l e ({ frames := 2, cells := 0, slots := 0, locals := 45 } : Room) s m args below meth c H locs 0 0 Q (F0 m 4 ls [])) (x1 : Int32) (x2 : Int32) (x3 : Int32) (M : zM) (H : Heap) (locs : List Loc) (ls : Array Slot) (hH : zH G false s H locs M O) (hl : lv_has ls 9 [(0, .ref (G.1 21)), (1, .int x1), (2, .int x2), (3, .int x3)]) (h : pX6_isSolvable_b219 post ag4 x1 x2 x3 M) : W p l e ({ frames := 2, cells := 0, slots := 0, locals := 45 } : Room) s m args below meth c H locs 0 0 Q (F0 m 219 ls []) := by
  obtain ⟨hx, hb, hml, hown, hts⟩ := id hF
  unfold pX6_isSolvable_b219 at h
  refine lv_iinc (v := (x3 + (1 : Int32))) (lv' := [(3, .int (x3 + (1 : Int32))), (0, .ref (G.1 21)), (1, .int x1), (2, .int x2)]) hx hb dX6_isSolvable_219 hl (k := 3) rfl rfl (by decide) rfl (fun ls hl => ?_)
  refine lv_goto (tgt := 4) hx hb dX6_isSolvable_222 (by decide) ?_
  exact hag4 x1 x2 (x3 + (1 : Int32)) M H locs ls h hH (lv_sub hl [1, 2, 3, 0] rfl)
def pX6_isSolvable_b210 (post : Int32 → zM → Prop) (ag4 : Int32 → Int32 → Int32 → zM → Prop) (ag135 : Int32 → Int32 → Int32 → Int32 → Int32 → zM → Prop) (x1 : Int32) (x2 : Int32) (x3 : Int32) (x5 : Int32) (x6 : Int32) (M : zM) : Prop :=
  ag135 x1 x2 x3 x5 (x6 + (1 : Int32)) M
set_option maxHeartbeats 4000000 in
set_option maxRecDepth 100000 in
theorem wX6_isSolvable_b210 {post : Int32 → zM → Prop} {ag4 : Int32 → Int32 → Int32 → zM → Prop} {ag135 : Int32 → Int32 → Int32 → Int32 → Int32 → zM → Prop} (hF : CallFix p m c cX6_isSolvable 9 s args wsX6_isSolvable RX6) (hSt : zSt G s) (hret : zRz p l e ({ frames := 2, cells := 0, slots := 0, locals := 45 } : Room) s m args below meth c Q cX6_isSolvable G false O post) (hag4 : ∀ (x1 : Int32) (x2 : Int32) (x3 : Int32) (M : zM) (H : Heap) (locs : List Loc) (ls : Array Slot), ag4 x1 x2 x3 M → zH G false s H locs M O → lv_has ls 9 [(0, .ref (G.1 21)), (1, .int x1), (2, .int x2), (3, .int x3)] → W p l e ({ frames := 2, cells := 0, slots := 0, locals := 45 } : Room) s m args below meth c H locs 0 0 Q (F0 m 4 ls [])) (hag135 : ∀ (x1 : Int32) (x2 : Int32) (x3 : Int32) (x5 : Int32) (x6 : Int32) (M : zM) (H : Heap) (locs : List Loc) (ls : Array Slot), ag135 x1 x2 x3 x5 x6 M → zH G false s H locs M O → lv_has ls 9 [(0, .ref (G.1 21)), (1, .int x1), (2, .int x2), (3, .int x3), (5, .int x5), (6, .int x6)] → W p l e ({ frames := 2, cells := 0, slots := 0, locals := 45 } : Room) s m args below meth c H locs 0 0 Q (F0 m 135 ls [])) (x1 : Int32) (x2 : Int32) (x3 : Int32) (x5 : Int32) (x6 : Int32) (M : zM) (H : Heap) (locs : List Loc) (ls : Array Slot) (hH : zH G false s H locs M O) (hl : lv_has ls 9 [(0, .ref (G.1 21)), (1, .int x1), (2, .int x2), (3, .int x3), (5, .int x5), (6, .int x6)]) (h : pX6_isSolvable_b210 post ag4 ag135 x1 x2 x3 x5 x6 M) : W p l e ({ frames := 2, cells := 0, slots := 0, locals := 45 } : Room) s m args below meth c H locs 0 0 Q (F0 m 210 ls []) := by
  obtain ⟨hx, hb, hml, hown, hts⟩ := id hF
  unfold pX6_isSolvable_b210 at h
  refine lv_iinc (v := (x6 + (1 : Int32))) (lv' := [(6, .int (x6 + (1 : Int32))), (0, .ref (G.1 21)), (1, .int x1), (2, .int x2), (3, .int x3), (5, .int x5)]) hx hb dX6_isSolvable_210 hl (k := 5) rfl rfl (by decide) rfl (fun ls hl => ?_)
  refine lv_goto (tgt := 135) hx hb dX6_isSolvable_213 (by decide) ?_
  exact hag135 x1 x2 x3 x5 (x6 + (1 : Int32)) M H locs ls h hH (lv_sub hl [1, 2, 3, 4, 5, 0] rfl)
def pX6_isSolvable_b162 (post : Int32 → zM → Prop) (ag4 : Int32 → Int32 → Int32 → zM → Prop) (ag135 : Int32 → Int32 → Int32 → Int32 → Int32 → zM → Prop) (ag162 : Int32 → Int32 → Int32 → Int32 → Int32 → Int32 → Int32 → zM → Prop) (x1 : Int32) (x2 : Int32) (x3 : Int32) (x5 : Int32) (x6 : Int32) (x7 : Int32) (x8 : Int32) (M : zM) : Prop :=
  ((5 : Int32) ≤ x8 → pX6_isSolvable_b210 post ag4 ag135 x1 x2 x3 x5 x6 M) ∧ (¬ ((5 : Int32) ≤ x8) → (x7 = 0 → pX6_isSolvable_b210 post ag4 ag135 x1 x2 x3 x5 x6 M) ∧ (¬ (x7 = 0) → vp_in (((5 : Int32) * x6) + x8) 25 ∧ vp_in (((5 : Int32) * x2) + x8) 25 ∧ pX6_product x7 (M.1 40 ((((5 : Int32) * x2) + x8)).toNatClampNeg) (fun r199 => vp_in (((5 : Int32) * x6) + x8) 25 ∧ ag162 x1 x2 x3 x5 x6 x7 (x8 + (1 : Int32)) (zsi M 40 ((((5 : Int32) * x6) + x8)).toNatClampNeg ((M.1 40 ((((5 : Int32) * x6) + x8)).toNatClampNeg) ^^^ r199)))))
set_option maxHeartbeats 4000000 in
set_option maxRecDepth 100000 in
theorem wX6_isSolvable_b162 {post : Int32 → zM → Prop} {ag4 : Int32 → Int32 → Int32 → zM → Prop} {ag135 : Int32 → Int32 → Int32 → Int32 → Int32 → zM → Prop} {ag162 : Int32 → Int32 → Int32 → Int32 → Int32 → Int32 → Int32 → zM → Prop} (hF : CallFix p m c cX6_isSolvable 9 s args wsX6_isSolvable RX6) (hSt : zSt G s) (hret : zRz p l e ({ frames := 2, cells := 0, slots := 0, locals := 45 } : Room) s m args below meth c Q cX6_isSolvable G false O post) (hag4 : ∀ (x1 : Int32) (x2 : Int32) (x3 : Int32) (M : zM) (H : Heap) (locs : List Loc) (ls : Array Slot), ag4 x1 x2 x3 M → zH G false s H locs M O → lv_has ls 9 [(0, .ref (G.1 21)), (1, .int x1), (2, .int x2), (3, .int x3)] → W p l e ({ frames := 2, cells := 0, slots := 0, locals := 45 } : Room) s m args below meth c H locs 0 0 Q (F0 m 4 ls [])) (hag135 : ∀ (x1 : Int32) (x2 : Int32) (x3 : Int32) (x5 : Int32) (x6 : Int32) (M : zM) (H : Heap) (locs : List Loc) (ls : Array Slot), ag135 x1 x2 x3 x5 x6 M → zH G false s H locs M O → lv_has ls 9 [(0, .ref (G.1 21)), (1, .int x1), (2, .int x2), (3, .int x3), (5, .int x5), (6, .int x6)] → W p l e ({ frames := 2, cells := 0, slots := 0, locals := 45 } : Room) s m args below meth c H locs 0 0 Q (F0 m 135 ls [])) (hag162 : ∀ (x1 : Int32) (x2 : Int32) (x3 : Int32) (x5 : Int32) (x6 : Int32) (x7 : Int32) (x8 : Int32) (M : zM) (H : Heap) (locs : List Loc) (ls : Array Slot), ag162 x1 x2 x3 x5 x6 x7 x8 M → zH G false s H locs M O → lv_has ls 9 [(0, .ref (G.1 21)), (1, .int x1), (2, .int x2), (3, .int x3), (5, .int x5), (6, .int x6), (7, .int x7), (8, .int x8)] → W p l e ({ frames := 2, cells := 0, slots := 0, locals := 45 } : Room) s m args below meth c H locs 0 0 Q (F0 m 162 ls [])) (x1 : Int32) (x2 : Int32) (x3 : Int32) (x5 : Int32) (x6 : Int32) (x7 : Int32) (x8 : Int32) (M : zM) (H : Heap) (locs : List Loc) (ls : Array Slot) (hH : zH G false s H locs M O) (hl : lv_has ls 9 [(0, .ref (G.1 21)), (1, .int x1), (2, .int x2), (3, .int x3), (5, .int x5), (6, .int x6), (7, .int x7), (8, .int x8)]) (h : pX6_isSolvable_b162 post ag4 ag135 ag162 x1 x2 x3 x5 x6 x7 x8 M) : W p l e ({ frames := 2, cells := 0, slots := 0, locals := 45 } : Room) s m args below meth c H locs 0 0 Q (F0 m 162 ls []) := by
  obtain ⟨hx, hb, hml, hown, hts⟩ := id hF
  unfold pX6_isSolvable_b162 at h
  refine lv_iload hx hb dX6_isSolvable_162 (lv_at hl 7 rfl) ?_
  refine lv_iconst (v := (5 : Int32)) hx hb dX6_isSolvable_164 (by decide) ?_
  refine lv_icmp_ge (tgt := 210) hx hb dX6_isSolvable_165 (by decide) (fun q165 => ?_) (fun q165 => ?_)
  · have h := h.1 q165
    exact wX6_isSolvable_b210 hF hSt hret hag4 hag135 x1 x2 x3 x5 x6 M H locs ls hH (lv_sub hl [0, 1, 2, 3, 4, 5] rfl) h
  · have h := h.2 q165
    refine lv_iload hx hb dX6_isSolvable_168 (lv_at hl 6 rfl) ?_
    refine lv_if_eq (tgt := 210) hx hb dX6_isSolvable_170 (by decide) (fun q170 => ?_) (fun q170 => ?_)
    · have h := h.1 q170
      exact wX6_isSolvable_b210 hF hSt hret hag4 hag135 x1 x2 x3 x5 x6 M H locs ls hH (lv_sub hl [0, 1, 2, 3, 4, 5] rfl) h
    · have h := h.2 q170
      refine lv_aload_n hx hb dX6_isSolvable_173 rfl (lv_at hl 0 rfl) ?_
      refine zget (v := .ref (G.1 40)) hF hSt hH 21 (by decide) rfl (zE_21 _ _ _) (C := RX6) (T := TX6) (N := 31) rfl znX6_isSolvable_X6 25 (by decide) (List.mem_of_getElem? (i := 2) rfl) rfl dX6_isSolvable_174 ?_
      refine lv_iconst (v := (5 : Int32)) hx hb dX6_isSolvable_177 (by decide) ?_
      refine lv_iload hx hb dX6_isSolvable_178 (lv_at hl 5 rfl) ?_
      refine lv_imul hx hb dX6_isSolvable_180 ?_
      refine lv_iload hx hb dX6_isSolvable_181 (lv_at hl 7 rfl) ?_
      refine lv_iadd hx hb dX6_isSolvable_183 ?_
      refine lv_dup2_11 hx hb dX6_isSolvable_184 rfl rfl ?_
      obtain ⟨q185, h⟩ := h
      refine zald hF hSt hH 40 (by decide) rfl (zE_40 _ _ _) q185 dX6_isSolvable_185 ?_
      refine lv_iload hx hb dX6_isSolvable_186 (lv_at hl 6 rfl) ?_
      refine lv_aload_n hx hb dX6_isSolvable_188 rfl (lv_at hl 0 rfl) ?_
      refine zget (v := .ref (G.1 40)) hF hSt hH 21 (by decide) rfl (zE_21 _ _ _) (C := RX6) (T := TX6) (N := 31) rfl znX6_isSolvable_X6 25 (by decide) (List.mem_of_getElem? (i := 2) rfl) rfl dX6_isSolvable_189 ?_
      refine lv_iconst (v := (5 : Int32)) hx hb dX6_isSolvable_192 (by decide) ?_
      refine lv_iload_n hx hb dX6_isSolvable_193 rfl (lv_at hl 2 rfl) ?_
      refine lv_imul hx hb dX6_isSolvable_194 ?_
      refine lv_iload hx hb dX6_isSolvable_195 (lv_at hl 7 rfl) ?_
      refine lv_iadd hx hb dX6_isSolvable_197 ?_
      obtain ⟨q198, h⟩ := h
      refine zald hF hSt hH 40 (by decide) rfl (zE_40 _ _ _) q198 dX6_isSolvable_198 ?_
      refine zcalliP hH (va_runS (As := [.int x7, .int (M.1 40 ((((5 : Int32) * x2) + x8)).toNatClampNeg)]) (rest := [.int (M.1 40 ((((5 : Int32) * x6) + x8)).toNatClampNeg), .int (((5 : Int32) * x6) + x8), .ref (G.1 40)]) hF (kX6_product l G M O x7 (M.1 40 ((((5 : Int32) * x2) + x8)).toNatClampNeg) _ h) (va_cwS 2 hts gX6_isSolvable_X6_product rfl rfl rfl zdX6_product ⟨Nat.le_of_ble_eq_true rfl, Nat.le_of_ble_eq_true rfl⟩) (zpreS hSt hH [.int x7, .int (M.1 40 ((((5 : Int32) * x2) + x8)).toNatClampNeg)]) rfl rfl hl.1 rfl (lv_room (Nat.le_of_ble_eq_true rfl)) dX6_isSolvable_199 ⟨Nat.zero_le _, Nat.zero_le _⟩) (fun r199 H locs h hH => ?_)
      refine lv_ixor hx hb dX6_isSolvable_202 ?_
      obtain ⟨q203, h⟩ := h
      refine zast hF hSt hH 40 (by decide) rfl (zE_40 _) (x := ((M.1 40 ((((5 : Int32) * x6) + x8)).toNatClampNeg) ^^^ r199)) q203 dX6_isSolvable_203 (fun H locs hH => ?_)
      refine lv_iinc (v := (x8 + (1 : Int32))) (lv' := [(8, .int (x8 + (1 : Int32))), (0, .ref (G.1 21)), (1, .int x1), (2, .int x2), (3, .int x3), (5, .int x5), (6, .int x6), (7, .int x7)]) hx hb dX6_isSolvable_204 hl (k := 7) rfl rfl (by decide) rfl (fun ls hl => ?_)
      refine lv_goto (tgt := 162) hx hb dX6_isSolvable_207 (by decide) ?_
      exact hag162 x1 x2 x3 x5 x6 x7 (x8 + (1 : Int32)) (zsi M 40 ((((5 : Int32) * x6) + x8)).toNatClampNeg ((M.1 40 ((((5 : Int32) * x6) + x8)).toNatClampNeg) ^^^ r199)) H locs ls h hH (lv_sub hl [1, 2, 3, 4, 5, 6, 7, 0] rfl)
def pX6_isSolvable_L162 (post : Int32 → zM → Prop) (ag4 : Int32 → Int32 → Int32 → zM → Prop) (ag135 : Int32 → Int32 → Int32 → Int32 → Int32 → zM → Prop) (x1 : Int32) (x2 : Int32) (x3 : Int32) (x5 : Int32) (x6 : Int32) (x7 : Int32) (x8 : Int32) (M : zM) : Prop :=
  ∃ I : Nat → Int32 → Int32 → Int32 → Int32 → Int32 → Int32 → Int32 → zM → Prop, (∃ n, I n x1 x2 x3 x5 x6 x7 x8 M) ∧ ∀ n x1 x2 x3 x5 x6 x7 x8 M, I n x1 x2 x3 x5 x6 x7 x8 M → pX6_isSolvable_b162 post ag4 ag135 (fun x1 x2 x3 x5 x6 x7 x8 M => ∃ k, k < n ∧ I k x1 x2 x3 x5 x6 x7 x8 M) x1 x2 x3 x5 x6 x7 x8 M
set_option maxHeartbeats 4000000 in
theorem wX6_isSolvable_L162 {post : Int32 → zM → Prop} {ag4 : Int32 → Int32 → Int32 → zM → Prop} {ag135 : Int32 → Int32 → Int32 → Int32 → Int32 → zM → Prop} (hF : CallFix p m c cX6_isSolvable 9 s args wsX6_isSolvable RX6) (hSt : zSt G s) (hret : zRz p l e ({ frames := 2, cells := 0, slots := 0, locals := 45 } : Room) s m args below meth c Q cX6_isSolvable G false O post) (hag4 : ∀ (x1 : Int32) (x2 : Int32) (x3 : Int32) (M : zM) (H : Heap) (locs : List Loc) (ls : Array Slot), ag4 x1 x2 x3 M → zH G false s H locs M O → lv_has ls 9 [(0, .ref (G.1 21)), (1, .int x1), (2, .int x2), (3, .int x3)] → W p l e ({ frames := 2, cells := 0, slots := 0, locals := 45 } : Room) s m args below meth c H locs 0 0 Q (F0 m 4 ls [])) (hag135 : ∀ (x1 : Int32) (x2 : Int32) (x3 : Int32) (x5 : Int32) (x6 : Int32) (M : zM) (H : Heap) (locs : List Loc) (ls : Array Slot), ag135 x1 x2 x3 x5 x6 M → zH G false s H locs M O → lv_has ls 9 [(0, .ref (G.1 21)), (1, .int x1), (2, .int x2), (3, .int x3), (5, .int x5), (6, .int x6)] → W p l e ({ frames := 2, cells := 0, slots := 0, locals := 45 } : Room) s m args below meth c H locs 0 0 Q (F0 m 135 ls [])) (x1 : Int32) (x2 : Int32) (x3 : Int32) (x5 : Int32) (x6 : Int32) (x7 : Int32) (x8 : Int32) (M : zM) (H : Heap) (locs : List Loc) (ls : Array Slot) (hH : zH G false s H locs M O) (hl : lv_has ls 9 [(0, .ref (G.1 21)), (1, .int x1), (2, .int x2), (3, .int x3), (5, .int x5), (6, .int x6), (7, .int x7), (8, .int x8)]) (h : pX6_isSolvable_L162 post ag4 ag135 x1 x2 x3 x5 x6 x7 x8 M) : W p l e ({ frames := 2, cells := 0, slots := 0, locals := 45 } : Room) s m args below meth c H locs 0 0 Q (F0 m 162 ls []) := by
  obtain ⟨I, ⟨n, hI⟩, hs⟩ := h
  have key : ∀ (n : Nat) (x1 : Int32) (x2 : Int32) (x3 : Int32) (x5 : Int32) (x6 : Int32) (x7 : Int32) (x8 : Int32) (M : zM) (H : Heap) (locs : List Loc) (ls : Array Slot), I n x1 x2 x3 x5 x6 x7 x8 M → zH G false s H locs M O → lv_has ls 9 [(0, .ref (G.1 21)), (1, .int x1), (2, .int x2), (3, .int x3), (5, .int x5), (6, .int x6), (7, .int x7), (8, .int x8)] → W p l e ({ frames := 2, cells := 0, slots := 0, locals := 45 } : Room) s m args below meth c H locs 0 0 Q (F0 m 162 ls []) := by
    intro n
    induction n using Nat.strongRecOn with
    | _ n ih =>
      intro x1 x2 x3 x5 x6 x7 x8 M H locs ls hI hH hl
      exact wX6_isSolvable_b162 hF hSt hret hag4 hag135 (fun x1 x2 x3 x5 x6 x7 x8 M H locs ls h hH hl => by obtain ⟨k, hk, hI⟩ := h; exact ih k hk x1 x2 x3 x5 x6 x7 x8 M H locs ls hI hH hl) x1 x2 x3 x5 x6 x7 x8 M H locs ls hH hl (hs n x1 x2 x3 x5 x6 x7 x8 M hI)
  exact key n x1 x2 x3 x5 x6 x7 x8 M H locs ls hI hH hl
def pX6_isSolvable_b135 (post : Int32 → zM → Prop) (ag4 : Int32 → Int32 → Int32 → zM → Prop) (ag135 : Int32 → Int32 → Int32 → Int32 → Int32 → zM → Prop) (x1 : Int32) (x2 : Int32) (x3 : Int32) (x5 : Int32) (x6 : Int32) (M : zM) : Prop :=
  (x1 ≤ x6 → pX6_isSolvable_b219 post ag4 x1 (x2 + (1 : Int32)) x3 M) ∧ (¬ (x1 ≤ x6) → vp_in (((5 : Int32) * x6) + x3) 25 ∧ pX6_product x5 (M.1 40 ((((5 : Int32) * x6) + x3)).toNatClampNeg) (fun r154 => pX6_isSolvable_L162 post ag4 ag135 x1 x2 x3 x5 x6 r154 (0 : Int32) M))
set_option maxHeartbeats 4000000 in
set_option maxRecDepth 100000 in
theorem wX6_isSolvable_b135 {post : Int32 → zM → Prop} {ag4 : Int32 → Int32 → Int32 → zM → Prop} {ag135 : Int32 → Int32 → Int32 → Int32 → Int32 → zM → Prop} (hF : CallFix p m c cX6_isSolvable 9 s args wsX6_isSolvable RX6) (hSt : zSt G s) (hret : zRz p l e ({ frames := 2, cells := 0, slots := 0, locals := 45 } : Room) s m args below meth c Q cX6_isSolvable G false O post) (hag4 : ∀ (x1 : Int32) (x2 : Int32) (x3 : Int32) (M : zM) (H : Heap) (locs : List Loc) (ls : Array Slot), ag4 x1 x2 x3 M → zH G false s H locs M O → lv_has ls 9 [(0, .ref (G.1 21)), (1, .int x1), (2, .int x2), (3, .int x3)] → W p l e ({ frames := 2, cells := 0, slots := 0, locals := 45 } : Room) s m args below meth c H locs 0 0 Q (F0 m 4 ls [])) (hag135 : ∀ (x1 : Int32) (x2 : Int32) (x3 : Int32) (x5 : Int32) (x6 : Int32) (M : zM) (H : Heap) (locs : List Loc) (ls : Array Slot), ag135 x1 x2 x3 x5 x6 M → zH G false s H locs M O → lv_has ls 9 [(0, .ref (G.1 21)), (1, .int x1), (2, .int x2), (3, .int x3), (5, .int x5), (6, .int x6)] → W p l e ({ frames := 2, cells := 0, slots := 0, locals := 45 } : Room) s m args below meth c H locs 0 0 Q (F0 m 135 ls [])) (x1 : Int32) (x2 : Int32) (x3 : Int32) (x5 : Int32) (x6 : Int32) (M : zM) (H : Heap) (locs : List Loc) (ls : Array Slot) (hH : zH G false s H locs M O) (hl : lv_has ls 9 [(0, .ref (G.1 21)), (1, .int x1), (2, .int x2), (3, .int x3), (5, .int x5), (6, .int x6)]) (h : pX6_isSolvable_b135 post ag4 ag135 x1 x2 x3 x5 x6 M) : W p l e ({ frames := 2, cells := 0, slots := 0, locals := 45 } : Room) s m args below meth c H locs 0 0 Q (F0 m 135 ls []) := by
  obtain ⟨hx, hb, hml, hown, hts⟩ := id hF
  unfold pX6_isSolvable_b135 at h
  refine lv_iload hx hb dX6_isSolvable_135 (lv_at hl 5 rfl) ?_
  refine lv_iload_n hx hb dX6_isSolvable_137 rfl (lv_at hl 1 rfl) ?_
  refine lv_icmp_ge (tgt := 216) hx hb dX6_isSolvable_138 (by decide) (fun q138 => ?_) (fun q138 => ?_)
  · have h := h.1 q138
    refine lv_iinc (v := (x2 + (1 : Int32))) (lv' := [(2, .int (x2 + (1 : Int32))), (0, .ref (G.1 21)), (1, .int x1), (3, .int x3), (5, .int x5), (6, .int x6)]) hx hb dX6_isSolvable_216 hl (k := 2) rfl rfl (by decide) rfl (fun ls hl => ?_)
    exact wX6_isSolvable_b219 hF hSt hret hag4 x1 (x2 + (1 : Int32)) x3 M H locs ls hH (lv_sub hl [1, 2, 0, 3] rfl) h
  · have h := h.2 q138
    refine lv_iload hx hb dX6_isSolvable_141 (lv_at hl 4 rfl) ?_
    refine lv_aload_n hx hb dX6_isSolvable_143 rfl (lv_at hl 0 rfl) ?_
    refine zget (v := .ref (G.1 40)) hF hSt hH 21 (by decide) rfl (zE_21 _ _ _) (C := RX6) (T := TX6) (N := 31) rfl znX6_isSolvable_X6 25 (by decide) (List.mem_of_getElem? (i := 2) rfl) rfl dX6_isSolvable_144 ?_
    refine lv_iconst (v := (5 : Int32)) hx hb dX6_isSolvable_147 (by decide) ?_
    refine lv_iload hx hb dX6_isSolvable_148 (lv_at hl 5 rfl) ?_
    refine lv_imul hx hb dX6_isSolvable_150 ?_
    refine lv_iload_n hx hb dX6_isSolvable_151 rfl (lv_at hl 3 rfl) ?_
    refine lv_iadd hx hb dX6_isSolvable_152 ?_
    obtain ⟨q153, h⟩ := h
    refine zald hF hSt hH 40 (by decide) rfl (zE_40 _ _ _) q153 dX6_isSolvable_153 ?_
    refine zcalliP hH (va_runS (As := [.int x5, .int (M.1 40 ((((5 : Int32) * x6) + x3)).toNatClampNeg)]) (rest := []) hF (kX6_product l G M O x5 (M.1 40 ((((5 : Int32) * x6) + x3)).toNatClampNeg) _ h) (va_cwS 2 hts gX6_isSolvable_X6_product rfl rfl rfl zdX6_product ⟨Nat.le_of_ble_eq_true rfl, Nat.le_of_ble_eq_true rfl⟩) (zpreS hSt hH [.int x5, .int (M.1 40 ((((5 : Int32) * x6) + x3)).toNatClampNeg)]) rfl rfl hl.1 rfl (lv_room (Nat.le_of_ble_eq_true rfl)) dX6_isSolvable_154 ⟨Nat.zero_le _, Nat.zero_le _⟩) (fun r154 H locs h hH => ?_)
    refine lv_istore (lv' := [(7, .int r154), (0, .ref (G.1 21)), (1, .int x1), (2, .int x2), (3, .int x3), (5, .int x5), (6, .int x6)]) hx hb dX6_isSolvable_157 hl (by decide) rfl (fun ls hl => ?_)
    refine lv_iconst (v := (0 : Int32)) hx hb dX6_isSolvable_159 (by decide) ?_
    refine lv_istore (lv' := [(8, .int (0 : Int32)), (7, .int r154), (0, .ref (G.1 21)), (1, .int x1), (2, .int x2), (3, .int x3), (5, .int x5), (6, .int x6)]) hx hb dX6_isSolvable_160 hl (by decide) rfl (fun ls hl => ?_)
    exact wX6_isSolvable_L162 hF hSt hret hag4 hag135 x1 x2 x3 x5 x6 r154 (0 : Int32) M H locs ls hH (lv_sub hl [2, 3, 4, 5, 6, 7, 1, 0] rfl) h
def pX6_isSolvable_L135 (post : Int32 → zM → Prop) (ag4 : Int32 → Int32 → Int32 → zM → Prop) (x1 : Int32) (x2 : Int32) (x3 : Int32) (x5 : Int32) (x6 : Int32) (M : zM) : Prop :=
  ∃ I : Nat → Int32 → Int32 → Int32 → Int32 → Int32 → zM → Prop, (∃ n, I n x1 x2 x3 x5 x6 M) ∧ ∀ n x1 x2 x3 x5 x6 M, I n x1 x2 x3 x5 x6 M → pX6_isSolvable_b135 post ag4 (fun x1 x2 x3 x5 x6 M => ∃ k, k < n ∧ I k x1 x2 x3 x5 x6 M) x1 x2 x3 x5 x6 M
set_option maxHeartbeats 4000000 in
theorem wX6_isSolvable_L135 {post : Int32 → zM → Prop} {ag4 : Int32 → Int32 → Int32 → zM → Prop} (hF : CallFix p m c cX6_isSolvable 9 s args wsX6_isSolvable RX6) (hSt : zSt G s) (hret : zRz p l e ({ frames := 2, cells := 0, slots := 0, locals := 45 } : Room) s m args below meth c Q cX6_isSolvable G false O post) (hag4 : ∀ (x1 : Int32) (x2 : Int32) (x3 : Int32) (M : zM) (H : Heap) (locs : List Loc) (ls : Array Slot), ag4 x1 x2 x3 M → zH G false s H locs M O → lv_has ls 9 [(0, .ref (G.1 21)), (1, .int x1), (2, .int x2), (3, .int x3)] → W p l e ({ frames := 2, cells := 0, slots := 0, locals := 45 } : Room) s m args below meth c H locs 0 0 Q (F0 m 4 ls [])) (x1 : Int32) (x2 : Int32) (x3 : Int32) (x5 : Int32) (x6 : Int32) (M : zM) (H : Heap) (locs : List Loc) (ls : Array Slot) (hH : zH G false s H locs M O) (hl : lv_has ls 9 [(0, .ref (G.1 21)), (1, .int x1), (2, .int x2), (3, .int x3), (5, .int x5), (6, .int x6)]) (h : pX6_isSolvable_L135 post ag4 x1 x2 x3 x5 x6 M) : W p l e ({ frames := 2, cells := 0, slots := 0, locals := 45 } : Room) s m args below meth c H locs 0 0 Q (F0 m 135 ls []) := by
  obtain ⟨I, ⟨n, hI⟩, hs⟩ := h
  have key : ∀ (n : Nat) (x1 : Int32) (x2 : Int32) (x3 : Int32) (x5 : Int32) (x6 : Int32) (M : zM) (H : Heap) (locs : List Loc) (ls : Array Slot), I n x1 x2 x3 x5 x6 M → zH G false s H locs M O → lv_has ls 9 [(0, .ref (G.1 21)), (1, .int x1), (2, .int x2), (3, .int x3), (5, .int x5), (6, .int x6)] → W p l e ({ frames := 2, cells := 0, slots := 0, locals := 45 } : Room) s m args below meth c H locs 0 0 Q (F0 m 135 ls []) := by
    intro n
    induction n using Nat.strongRecOn with
    | _ n ih =>
      intro x1 x2 x3 x5 x6 M H locs ls hI hH hl
      exact wX6_isSolvable_b135 hF hSt hret hag4 (fun x1 x2 x3 x5 x6 M H locs ls h hH hl => by obtain ⟨k, hk, hI⟩ := h; exact ih k hk x1 x2 x3 x5 x6 M H locs ls hI hH hl) x1 x2 x3 x5 x6 M H locs ls hH hl (hs n x1 x2 x3 x5 x6 M hI)
  exact key n x1 x2 x3 x5 x6 M H locs ls hI hH hl
def pX6_isSolvable_b53 (post : Int32 → zM → Prop) (ag4 : Int32 → Int32 → Int32 → zM → Prop) (ag53 : Int32 → Int32 → Int32 → Int32 → Int32 → zM → Prop) (x1 : Int32) (x2 : Int32) (x3 : Int32) (x4 : Int32) (x5 : Int32) (M : zM) : Prop :=
  ((5 : Int32) ≤ x5 → vp_in (((5 : Int32) * x2) + x3) 25 ∧ pX6_inverseOf (M.1 40 ((((5 : Int32) * x2) + x3)).toNatClampNeg) (fun r125 => pX6_isSolvable_L135 post ag4 x1 x2 x3 r125 (x2 + (1 : Int32)) M)) ∧ (¬ ((5 : Int32) ≤ x5) → vp_in (((5 : Int32) * x4) + x5) 25 ∧ vp_in (((5 : Int32) * x2) + x5) 25 ∧ vp_in (((5 : Int32) * x4) + x5) 25 ∧ vp_in (((5 : Int32) * x2) + x5) 25 ∧ ag53 x1 x2 x3 x4 (x5 + (1 : Int32)) (zsi (zsi M 40 ((((5 : Int32) * x4) + x5)).toNatClampNeg (M.1 40 ((((5 : Int32) * x2) + x5)).toNatClampNeg)) 40 ((((5 : Int32) * x2) + x5)).toNatClampNeg (M.1 40 ((((5 : Int32) * x4) + x5)).toNatClampNeg)))
set_option maxHeartbeats 4000000 in
set_option maxRecDepth 100000 in
theorem wX6_isSolvable_b53 {post : Int32 → zM → Prop} {ag4 : Int32 → Int32 → Int32 → zM → Prop} {ag53 : Int32 → Int32 → Int32 → Int32 → Int32 → zM → Prop} (hF : CallFix p m c cX6_isSolvable 9 s args wsX6_isSolvable RX6) (hSt : zSt G s) (hret : zRz p l e ({ frames := 2, cells := 0, slots := 0, locals := 45 } : Room) s m args below meth c Q cX6_isSolvable G false O post) (hag4 : ∀ (x1 : Int32) (x2 : Int32) (x3 : Int32) (M : zM) (H : Heap) (locs : List Loc) (ls : Array Slot), ag4 x1 x2 x3 M → zH G false s H locs M O → lv_has ls 9 [(0, .ref (G.1 21)), (1, .int x1), (2, .int x2), (3, .int x3)] → W p l e ({ frames := 2, cells := 0, slots := 0, locals := 45 } : Room) s m args below meth c H locs 0 0 Q (F0 m 4 ls [])) (hag53 : ∀ (x1 : Int32) (x2 : Int32) (x3 : Int32) (x4 : Int32) (x5 : Int32) (M : zM) (H : Heap) (locs : List Loc) (ls : Array Slot), ag53 x1 x2 x3 x4 x5 M → zH G false s H locs M O → lv_has ls 9 [(0, .ref (G.1 21)), (1, .int x1), (2, .int x2), (3, .int x3), (4, .int x4), (5, .int x5)] → W p l e ({ frames := 2, cells := 0, slots := 0, locals := 45 } : Room) s m args below meth c H locs 0 0 Q (F0 m 53 ls [])) (x1 : Int32) (x2 : Int32) (x3 : Int32) (x4 : Int32) (x5 : Int32) (M : zM) (H : Heap) (locs : List Loc) (ls : Array Slot) (hH : zH G false s H locs M O) (hl : lv_has ls 9 [(0, .ref (G.1 21)), (1, .int x1), (2, .int x2), (3, .int x3), (4, .int x4), (5, .int x5)]) (h : pX6_isSolvable_b53 post ag4 ag53 x1 x2 x3 x4 x5 M) : W p l e ({ frames := 2, cells := 0, slots := 0, locals := 45 } : Room) s m args below meth c H locs 0 0 Q (F0 m 53 ls []) := by
  obtain ⟨hx, hb, hml, hown, hts⟩ := id hF
  unfold pX6_isSolvable_b53 at h
  refine lv_iload hx hb dX6_isSolvable_53 (lv_at hl 5 rfl) ?_
  refine lv_iconst (v := (5 : Int32)) hx hb dX6_isSolvable_55 (by decide) ?_
  refine lv_icmp_ge (tgt := 115) hx hb dX6_isSolvable_56 (by decide) (fun q56 => ?_) (fun q56 => ?_)
  · have h := h.1 q56
    refine lv_aload_n hx hb dX6_isSolvable_115 rfl (lv_at hl 0 rfl) ?_
    refine zget (v := .ref (G.1 40)) hF hSt hH 21 (by decide) rfl (zE_21 _ _ _) (C := RX6) (T := TX6) (N := 31) rfl znX6_isSolvable_X6 25 (by decide) (List.mem_of_getElem? (i := 2) rfl) rfl dX6_isSolvable_116 ?_
    refine lv_iconst (v := (5 : Int32)) hx hb dX6_isSolvable_119 (by decide) ?_
    refine lv_iload_n hx hb dX6_isSolvable_120 rfl (lv_at hl 2 rfl) ?_
    refine lv_imul hx hb dX6_isSolvable_121 ?_
    refine lv_iload_n hx hb dX6_isSolvable_122 rfl (lv_at hl 3 rfl) ?_
    refine lv_iadd hx hb dX6_isSolvable_123 ?_
    obtain ⟨q124, h⟩ := h
    refine zald hF hSt hH 40 (by decide) rfl (zE_40 _ _ _) q124 dX6_isSolvable_124 ?_
    refine zcalliP hH (va_runS (As := [.int (M.1 40 ((((5 : Int32) * x2) + x3)).toNatClampNeg)]) (rest := []) hF (kX6_inverseOf l G M O (M.1 40 ((((5 : Int32) * x2) + x3)).toNatClampNeg) _ h) (va_cwS 1 hts gX6_isSolvable_X6_inverseOf rfl rfl rfl zdX6_inverseOf ⟨Nat.le_of_ble_eq_true rfl, Nat.le_of_ble_eq_true rfl⟩) (zpreS hSt hH [.int (M.1 40 ((((5 : Int32) * x2) + x3)).toNatClampNeg)]) rfl rfl hl.1 rfl (lv_room (Nat.le_of_ble_eq_true rfl)) dX6_isSolvable_125 ⟨Nat.zero_le _, Nat.zero_le _⟩) (fun r125 H locs h hH => ?_)
    refine lv_istore (lv' := [(5, .int r125), (0, .ref (G.1 21)), (1, .int x1), (2, .int x2), (3, .int x3), (4, .int x4)]) hx hb dX6_isSolvable_128 hl (by decide) rfl (fun ls hl => ?_)
    refine lv_iload_n hx hb dX6_isSolvable_130 rfl (lv_at hl 3 rfl) ?_
    refine lv_iconst (v := (1 : Int32)) hx hb dX6_isSolvable_131 (by decide) ?_
    refine lv_iadd hx hb dX6_isSolvable_132 ?_
    refine lv_istore (lv' := [(6, .int (x2 + (1 : Int32))), (5, .int r125), (0, .ref (G.1 21)), (1, .int x1), (2, .int x2), (3, .int x3), (4, .int x4)]) hx hb dX6_isSolvable_133 hl (by decide) rfl (fun ls hl => ?_)
    exact wX6_isSolvable_L135 hF hSt hret hag4 x1 x2 x3 r125 (x2 + (1 : Int32)) M H locs ls hH (lv_sub hl [2, 3, 4, 5, 1, 0] rfl) h
  · have h := h.2 q56
    refine lv_aload_n hx hb dX6_isSolvable_59 rfl (lv_at hl 0 rfl) ?_
    refine zget (v := .ref (G.1 40)) hF hSt hH 21 (by decide) rfl (zE_21 _ _ _) (C := RX6) (T := TX6) (N := 31) rfl znX6_isSolvable_X6 25 (by decide) (List.mem_of_getElem? (i := 2) rfl) rfl dX6_isSolvable_60 ?_
    refine lv_iconst (v := (5 : Int32)) hx hb dX6_isSolvable_63 (by decide) ?_
    refine lv_iload hx hb dX6_isSolvable_64 (lv_at hl 4 rfl) ?_
    refine lv_imul hx hb dX6_isSolvable_66 ?_
    refine lv_iload hx hb dX6_isSolvable_67 (lv_at hl 5 rfl) ?_
    refine lv_iadd hx hb dX6_isSolvable_69 ?_
    obtain ⟨q70, h⟩ := h
    refine zald hF hSt hH 40 (by decide) rfl (zE_40 _ _ _) q70 dX6_isSolvable_70 ?_
    refine lv_istore (lv' := [(6, .int (M.1 40 ((((5 : Int32) * x4) + x5)).toNatClampNeg)), (0, .ref (G.1 21)), (1, .int x1), (2, .int x2), (3, .int x3), (4, .int x4), (5, .int x5)]) hx hb dX6_isSolvable_71 hl (by decide) rfl (fun ls hl => ?_)
    refine lv_aload_n hx hb dX6_isSolvable_73 rfl (lv_at hl 1 rfl) ?_
    refine zget (v := .ref (G.1 40)) hF hSt hH 21 (by decide) rfl (zE_21 _ _ _) (C := RX6) (T := TX6) (N := 31) rfl znX6_isSolvable_X6 25 (by decide) (List.mem_of_getElem? (i := 2) rfl) rfl dX6_isSolvable_74 ?_
    refine lv_iconst (v := (5 : Int32)) hx hb dX6_isSolvable_77 (by decide) ?_
    refine lv_iload hx hb dX6_isSolvable_78 (lv_at hl 5 rfl) ?_
    refine lv_imul hx hb dX6_isSolvable_80 ?_
    refine lv_iload hx hb dX6_isSolvable_81 (lv_at hl 6 rfl) ?_
    refine lv_iadd hx hb dX6_isSolvable_83 ?_
    refine lv_aload_n hx hb dX6_isSolvable_84 rfl (lv_at hl 1 rfl) ?_
    refine zget (v := .ref (G.1 40)) hF hSt hH 21 (by decide) rfl (zE_21 _ _ _) (C := RX6) (T := TX6) (N := 31) rfl znX6_isSolvable_X6 25 (by decide) (List.mem_of_getElem? (i := 2) rfl) rfl dX6_isSolvable_85 ?_
    refine lv_iconst (v := (5 : Int32)) hx hb dX6_isSolvable_88 (by decide) ?_
    refine lv_iload_n hx hb dX6_isSolvable_89 rfl (lv_at hl 3 rfl) ?_
    refine lv_imul hx hb dX6_isSolvable_90 ?_
    refine lv_iload hx hb dX6_isSolvable_91 (lv_at hl 6 rfl) ?_
    refine lv_iadd hx hb dX6_isSolvable_93 ?_
    obtain ⟨q94, h⟩ := h
    refine zald hF hSt hH 40 (by decide) rfl (zE_40 _ _ _) q94 dX6_isSolvable_94 ?_
    obtain ⟨q95, h⟩ := h
    refine zast hF hSt hH 40 (by decide) rfl (zE_40 _) (x := (M.1 40 ((((5 : Int32) * x2) + x5)).toNatClampNeg)) q95 dX6_isSolvable_95 (fun H locs hH => ?_)
    refine lv_aload_n hx hb dX6_isSolvable_96 rfl (lv_at hl 1 rfl) ?_
    refine zget (v := .ref (G.1 40)) hF hSt hH 21 (by decide) rfl (zE_21 _ _ _) (C := RX6) (T := TX6) (N := 31) rfl znX6_isSolvable_X6 25 (by decide) (List.mem_of_getElem? (i := 2) rfl) rfl dX6_isSolvable_97 ?_
    refine lv_iconst (v := (5 : Int32)) hx hb dX6_isSolvable_100 (by decide) ?_
    refine lv_iload_n hx hb dX6_isSolvable_101 rfl (lv_at hl 3 rfl) ?_
    refine lv_imul hx hb dX6_isSolvable_102 ?_
    refine lv_iload hx hb dX6_isSolvable_103 (lv_at hl 6 rfl) ?_
    refine lv_iadd hx hb dX6_isSolvable_105 ?_
    refine lv_iload hx hb dX6_isSolvable_106 (lv_at hl 0 rfl) ?_
    obtain ⟨q108, h⟩ := h
    refine zast hF hSt hH 40 (by decide) rfl (zE_40 _) (x := (M.1 40 ((((5 : Int32) * x4) + x5)).toNatClampNeg)) q108 dX6_isSolvable_108 (fun H locs hH => ?_)
    refine lv_iinc (v := (x5 + (1 : Int32))) (lv' := [(5, .int (x5 + (1 : Int32))), (6, .int (M.1 40 ((((5 : Int32) * x4) + x5)).toNatClampNeg)), (0, .ref (G.1 21)), (1, .int x1), (2, .int x2), (3, .int x3), (4, .int x4)]) hx hb dX6_isSolvable_109 hl (k := 6) rfl rfl (by decide) rfl (fun ls hl => ?_)
    refine lv_goto (tgt := 53) hx hb dX6_isSolvable_112 (by decide) ?_
    exact hag53 x1 x2 x3 x4 (x5 + (1 : Int32)) (zsi (zsi M 40 ((((5 : Int32) * x4) + x5)).toNatClampNeg (M.1 40 ((((5 : Int32) * x2) + x5)).toNatClampNeg)) 40 ((((5 : Int32) * x2) + x5)).toNatClampNeg (M.1 40 ((((5 : Int32) * x4) + x5)).toNatClampNeg)) H locs ls h hH (lv_sub hl [2, 3, 4, 5, 6, 0] rfl)
def pX6_isSolvable_L53 (post : Int32 → zM → Prop) (ag4 : Int32 → Int32 → Int32 → zM → Prop) (x1 : Int32) (x2 : Int32) (x3 : Int32) (x4 : Int32) (x5 : Int32) (M : zM) : Prop :=
  ∃ I : Nat → Int32 → Int32 → Int32 → Int32 → Int32 → zM → Prop, (∃ n, I n x1 x2 x3 x4 x5 M) ∧ ∀ n x1 x2 x3 x4 x5 M, I n x1 x2 x3 x4 x5 M → pX6_isSolvable_b53 post ag4 (fun x1 x2 x3 x4 x5 M => ∃ k, k < n ∧ I k x1 x2 x3 x4 x5 M) x1 x2 x3 x4 x5 M
set_option maxHeartbeats 4000000 in
theorem wX6_isSolvable_L53 {post : Int32 → zM → Prop} {ag4 : Int32 → Int32 → Int32 → zM → Prop} (hF : CallFix p m c cX6_isSolvable 9 s args wsX6_isSolvable RX6) (hSt : zSt G s) (hret : zRz p l e ({ frames := 2, cells := 0, slots := 0, locals := 45 } : Room) s m args below meth c Q cX6_isSolvable G false O post) (hag4 : ∀ (x1 : Int32) (x2 : Int32) (x3 : Int32) (M : zM) (H : Heap) (locs : List Loc) (ls : Array Slot), ag4 x1 x2 x3 M → zH G false s H locs M O → lv_has ls 9 [(0, .ref (G.1 21)), (1, .int x1), (2, .int x2), (3, .int x3)] → W p l e ({ frames := 2, cells := 0, slots := 0, locals := 45 } : Room) s m args below meth c H locs 0 0 Q (F0 m 4 ls [])) (x1 : Int32) (x2 : Int32) (x3 : Int32) (x4 : Int32) (x5 : Int32) (M : zM) (H : Heap) (locs : List Loc) (ls : Array Slot) (hH : zH G false s H locs M O) (hl : lv_has ls 9 [(0, .ref (G.1 21)), (1, .int x1), (2, .int x2), (3, .int x3), (4, .int x4), (5, .int x5)]) (h : pX6_isSolvable_L53 post ag4 x1 x2 x3 x4 x5 M) : W p l e ({ frames := 2, cells := 0, slots := 0, locals := 45 } : Room) s m args below meth c H locs 0 0 Q (F0 m 53 ls []) := by
  obtain ⟨I, ⟨n, hI⟩, hs⟩ := h
  have key : ∀ (n : Nat) (x1 : Int32) (x2 : Int32) (x3 : Int32) (x4 : Int32) (x5 : Int32) (M : zM) (H : Heap) (locs : List Loc) (ls : Array Slot), I n x1 x2 x3 x4 x5 M → zH G false s H locs M O → lv_has ls 9 [(0, .ref (G.1 21)), (1, .int x1), (2, .int x2), (3, .int x3), (4, .int x4), (5, .int x5)] → W p l e ({ frames := 2, cells := 0, slots := 0, locals := 45 } : Room) s m args below meth c H locs 0 0 Q (F0 m 53 ls []) := by
    intro n
    induction n using Nat.strongRecOn with
    | _ n ih =>
      intro x1 x2 x3 x4 x5 M H locs ls hI hH hl
      exact wX6_isSolvable_b53 hF hSt hret hag4 (fun x1 x2 x3 x4 x5 M H locs ls h hH hl => by obtain ⟨k, hk, hI⟩ := h; exact ih k hk x1 x2 x3 x4 x5 M H locs ls hI hH hl) x1 x2 x3 x4 x5 M H locs ls hH hl (hs n x1 x2 x3 x4 x5 M hI)
  exact key n x1 x2 x3 x4 x5 M H locs ls hI hH hl
def pX6_isSolvable_b41 (post : Int32 → zM → Prop) (ag4 : Int32 → Int32 → Int32 → zM → Prop) (x1 : Int32) (x2 : Int32) (x3 : Int32) (x4 : Int32) (M : zM) : Prop :=
  (¬ (x4 = x1) → pX6_isSolvable_L53 post ag4 x1 x2 x3 x4 (0 : Int32) M) ∧ (x4 = x1 → pX6_isSolvable_b219 post ag4 x1 x2 x3 M)
set_option maxHeartbeats 4000000 in
set_option maxRecDepth 100000 in
theorem wX6_isSolvable_b41 {post : Int32 → zM → Prop} {ag4 : Int32 → Int32 → Int32 → zM → Prop} (hF : CallFix p m c cX6_isSolvable 9 s args wsX6_isSolvable RX6) (hSt : zSt G s) (hret : zRz p l e ({ frames := 2, cells := 0, slots := 0, locals := 45 } : Room) s m args below meth c Q cX6_isSolvable G false O post) (hag4 : ∀ (x1 : Int32) (x2 : Int32) (x3 : Int32) (M : zM) (H : Heap) (locs : List Loc) (ls : Array Slot), ag4 x1 x2 x3 M → zH G false s H locs M O → lv_has ls 9 [(0, .ref (G.1 21)), (1, .int x1), (2, .int x2), (3, .int x3)] → W p l e ({ frames := 2, cells := 0, slots := 0, locals := 45 } : Room) s m args below meth c H locs 0 0 Q (F0 m 4 ls [])) (x1 : Int32) (x2 : Int32) (x3 : Int32) (x4 : Int32) (M : zM) (H : Heap) (locs : List Loc) (ls : Array Slot) (hH : zH G false s H locs M O) (hl : lv_has ls 9 [(0, .ref (G.1 21)), (1, .int x1), (2, .int x2), (3, .int x3), (4, .int x4)]) (h : pX6_isSolvable_b41 post ag4 x1 x2 x3 x4 M) : W p l e ({ frames := 2, cells := 0, slots := 0, locals := 45 } : Room) s m args below meth c H locs 0 0 Q (F0 m 41 ls []) := by
  obtain ⟨hx, hb, hml, hown, hts⟩ := id hF
  unfold pX6_isSolvable_b41 at h
  refine lv_iload hx hb dX6_isSolvable_41 (lv_at hl 4 rfl) ?_
  refine lv_iload_n hx hb dX6_isSolvable_43 rfl (lv_at hl 1 rfl) ?_
  refine lv_icmp_ne (tgt := 50) hx hb dX6_isSolvable_44 (by decide) (fun q44 => ?_) (fun q44 => ?_)
  · have h := h.1 q44
    refine lv_iconst (v := (0 : Int32)) hx hb dX6_isSolvable_50 (by decide) ?_
    refine lv_istore (lv' := [(5, .int (0 : Int32)), (0, .ref (G.1 21)), (1, .int x1), (2, .int x2), (3, .int x3), (4, .int x4)]) hx hb dX6_isSolvable_51 hl (by decide) rfl (fun ls hl => ?_)
    exact wX6_isSolvable_L53 hF hSt hret hag4 x1 x2 x3 x4 (0 : Int32) M H locs ls hH (lv_sub hl [1, 2, 3, 4, 5, 0] rfl) h
  · have h := h.2 q44
    refine lv_goto (tgt := 219) hx hb dX6_isSolvable_47 (by decide) ?_
    exact wX6_isSolvable_b219 hF hSt hret hag4 x1 x2 x3 M H locs ls hH (lv_sub hl [0, 1, 2, 3] rfl) h
def pX6_isSolvable_b15 (post : Int32 → zM → Prop) (ag4 : Int32 → Int32 → Int32 → zM → Prop) (ag15 : Int32 → Int32 → Int32 → Int32 → zM → Prop) (x1 : Int32) (x2 : Int32) (x3 : Int32) (x4 : Int32) (M : zM) : Prop :=
  (x1 ≤ x4 → pX6_isSolvable_b41 post ag4 x1 x2 x3 x4 M) ∧ (¬ (x1 ≤ x4) → vp_in (((5 : Int32) * x4) + x3) 25 ∧ (¬ ((M.1 40 ((((5 : Int32) * x4) + x3)).toNatClampNeg) = 0) → pX6_isSolvable_b41 post ag4 x1 x2 x3 x4 M) ∧ ((M.1 40 ((((5 : Int32) * x4) + x3)).toNatClampNeg) = 0 → ag15 x1 x2 x3 (x4 + (1 : Int32)) M))
set_option maxHeartbeats 4000000 in
set_option maxRecDepth 100000 in
theorem wX6_isSolvable_b15 {post : Int32 → zM → Prop} {ag4 : Int32 → Int32 → Int32 → zM → Prop} {ag15 : Int32 → Int32 → Int32 → Int32 → zM → Prop} (hF : CallFix p m c cX6_isSolvable 9 s args wsX6_isSolvable RX6) (hSt : zSt G s) (hret : zRz p l e ({ frames := 2, cells := 0, slots := 0, locals := 45 } : Room) s m args below meth c Q cX6_isSolvable G false O post) (hag4 : ∀ (x1 : Int32) (x2 : Int32) (x3 : Int32) (M : zM) (H : Heap) (locs : List Loc) (ls : Array Slot), ag4 x1 x2 x3 M → zH G false s H locs M O → lv_has ls 9 [(0, .ref (G.1 21)), (1, .int x1), (2, .int x2), (3, .int x3)] → W p l e ({ frames := 2, cells := 0, slots := 0, locals := 45 } : Room) s m args below meth c H locs 0 0 Q (F0 m 4 ls [])) (hag15 : ∀ (x1 : Int32) (x2 : Int32) (x3 : Int32) (x4 : Int32) (M : zM) (H : Heap) (locs : List Loc) (ls : Array Slot), ag15 x1 x2 x3 x4 M → zH G false s H locs M O → lv_has ls 9 [(0, .ref (G.1 21)), (1, .int x1), (2, .int x2), (3, .int x3), (4, .int x4)] → W p l e ({ frames := 2, cells := 0, slots := 0, locals := 45 } : Room) s m args below meth c H locs 0 0 Q (F0 m 15 ls [])) (x1 : Int32) (x2 : Int32) (x3 : Int32) (x4 : Int32) (M : zM) (H : Heap) (locs : List Loc) (ls : Array Slot) (hH : zH G false s H locs M O) (hl : lv_has ls 9 [(0, .ref (G.1 21)), (1, .int x1), (2, .int x2), (3, .int x3), (4, .int x4)]) (h : pX6_isSolvable_b15 post ag4 ag15 x1 x2 x3 x4 M) : W p l e ({ frames := 2, cells := 0, slots := 0, locals := 45 } : Room) s m args below meth c H locs 0 0 Q (F0 m 15 ls []) := by
  obtain ⟨hx, hb, hml, hown, hts⟩ := id hF
  unfold pX6_isSolvable_b15 at h
  refine lv_iload hx hb dX6_isSolvable_15 (lv_at hl 4 rfl) ?_
  refine lv_iload_n hx hb dX6_isSolvable_17 rfl (lv_at hl 1 rfl) ?_
  refine lv_icmp_ge (tgt := 41) hx hb dX6_isSolvable_18 (by decide) (fun q18 => ?_) (fun q18 => ?_)
  · have h := h.1 q18
    exact wX6_isSolvable_b41 hF hSt hret hag4 x1 x2 x3 x4 M H locs ls hH (lv_sub hl [0, 1, 2, 3, 4] rfl) h
  · have h := h.2 q18
    refine lv_aload_n hx hb dX6_isSolvable_21 rfl (lv_at hl 0 rfl) ?_
    refine zget (v := .ref (G.1 40)) hF hSt hH 21 (by decide) rfl (zE_21 _ _ _) (C := RX6) (T := TX6) (N := 31) rfl znX6_isSolvable_X6 25 (by decide) (List.mem_of_getElem? (i := 2) rfl) rfl dX6_isSolvable_22 ?_
    refine lv_iconst (v := (5 : Int32)) hx hb dX6_isSolvable_25 (by decide) ?_
    refine lv_iload hx hb dX6_isSolvable_26 (lv_at hl 4 rfl) ?_
    refine lv_imul hx hb dX6_isSolvable_28 ?_
    refine lv_iload_n hx hb dX6_isSolvable_29 rfl (lv_at hl 3 rfl) ?_
    refine lv_iadd hx hb dX6_isSolvable_30 ?_
    obtain ⟨q31, h⟩ := h
    refine zald hF hSt hH 40 (by decide) rfl (zE_40 _ _ _) q31 dX6_isSolvable_31 ?_
    refine lv_if_ne (tgt := 41) hx hb dX6_isSolvable_32 (by decide) (fun q32 => ?_) (fun q32 => ?_)
    · have h := h.1 q32
      exact wX6_isSolvable_b41 hF hSt hret hag4 x1 x2 x3 x4 M H locs ls hH (lv_sub hl [0, 1, 2, 3, 4] rfl) h
    · have h := h.2 q32
      refine lv_iinc (v := (x4 + (1 : Int32))) (lv' := [(4, .int (x4 + (1 : Int32))), (0, .ref (G.1 21)), (1, .int x1), (2, .int x2), (3, .int x3)]) hx hb dX6_isSolvable_35 hl (k := 4) rfl rfl (by decide) rfl (fun ls hl => ?_)
      refine lv_goto (tgt := 15) hx hb dX6_isSolvable_38 (by decide) ?_
      exact hag15 x1 x2 x3 (x4 + (1 : Int32)) M H locs ls h hH (lv_sub hl [1, 2, 3, 4, 0] rfl)
def pX6_isSolvable_L15 (post : Int32 → zM → Prop) (ag4 : Int32 → Int32 → Int32 → zM → Prop) (x1 : Int32) (x2 : Int32) (x3 : Int32) (x4 : Int32) (M : zM) : Prop :=
  ∃ I : Nat → Int32 → Int32 → Int32 → Int32 → zM → Prop, (∃ n, I n x1 x2 x3 x4 M) ∧ ∀ n x1 x2 x3 x4 M, I n x1 x2 x3 x4 M → pX6_isSolvable_b15 post ag4 (fun x1 x2 x3 x4 M => ∃ k, k < n ∧ I k x1 x2 x3 x4 M) x1 x2 x3 x4 M
set_option maxHeartbeats 4000000 in
theorem wX6_isSolvable_L15 {post : Int32 → zM → Prop} {ag4 : Int32 → Int32 → Int32 → zM → Prop} (hF : CallFix p m c cX6_isSolvable 9 s args wsX6_isSolvable RX6) (hSt : zSt G s) (hret : zRz p l e ({ frames := 2, cells := 0, slots := 0, locals := 45 } : Room) s m args below meth c Q cX6_isSolvable G false O post) (hag4 : ∀ (x1 : Int32) (x2 : Int32) (x3 : Int32) (M : zM) (H : Heap) (locs : List Loc) (ls : Array Slot), ag4 x1 x2 x3 M → zH G false s H locs M O → lv_has ls 9 [(0, .ref (G.1 21)), (1, .int x1), (2, .int x2), (3, .int x3)] → W p l e ({ frames := 2, cells := 0, slots := 0, locals := 45 } : Room) s m args below meth c H locs 0 0 Q (F0 m 4 ls [])) (x1 : Int32) (x2 : Int32) (x3 : Int32) (x4 : Int32) (M : zM) (H : Heap) (locs : List Loc) (ls : Array Slot) (hH : zH G false s H locs M O) (hl : lv_has ls 9 [(0, .ref (G.1 21)), (1, .int x1), (2, .int x2), (3, .int x3), (4, .int x4)]) (h : pX6_isSolvable_L15 post ag4 x1 x2 x3 x4 M) : W p l e ({ frames := 2, cells := 0, slots := 0, locals := 45 } : Room) s m args below meth c H locs 0 0 Q (F0 m 15 ls []) := by
  obtain ⟨I, ⟨n, hI⟩, hs⟩ := h
  have key : ∀ (n : Nat) (x1 : Int32) (x2 : Int32) (x3 : Int32) (x4 : Int32) (M : zM) (H : Heap) (locs : List Loc) (ls : Array Slot), I n x1 x2 x3 x4 M → zH G false s H locs M O → lv_has ls 9 [(0, .ref (G.1 21)), (1, .int x1), (2, .int x2), (3, .int x3), (4, .int x4)] → W p l e ({ frames := 2, cells := 0, slots := 0, locals := 45 } : Room) s m args below meth c H locs 0 0 Q (F0 m 15 ls []) := by
    intro n
    induction n using Nat.strongRecOn with
    | _ n ih =>
      intro x1 x2 x3 x4 M H locs ls hI hH hl
      exact wX6_isSolvable_b15 hF hSt hret hag4 (fun x1 x2 x3 x4 M H locs ls h hH hl => by obtain ⟨k, hk, hI⟩ := h; exact ih k hk x1 x2 x3 x4 M H locs ls hI hH hl) x1 x2 x3 x4 M H locs ls hH hl (hs n x1 x2 x3 x4 M hI)
  exact key n x1 x2 x3 x4 M H locs ls hI hH hl
def pX6_isSolvable_b4 (post : Int32 → zM → Prop) (ag4 : Int32 → Int32 → Int32 → zM → Prop) (x1 : Int32) (x2 : Int32) (x3 : Int32) (M : zM) : Prop :=
  ((M.1 21 3) ≤ x3 → pX6_isSolvable_L227 post x1 x2 M) ∧ (¬ ((M.1 21 3) ≤ x3) → pX6_isSolvable_L15 post ag4 x1 x2 x3 x2 M)
set_option maxHeartbeats 4000000 in
set_option maxRecDepth 100000 in
theorem wX6_isSolvable_b4 {post : Int32 → zM → Prop} {ag4 : Int32 → Int32 → Int32 → zM → Prop} (hF : CallFix p m c cX6_isSolvable 9 s args wsX6_isSolvable RX6) (hSt : zSt G s) (hret : zRz p l e ({ frames := 2, cells := 0, slots := 0, locals := 45 } : Room) s m args below meth c Q cX6_isSolvable G false O post) (hag4 : ∀ (x1 : Int32) (x2 : Int32) (x3 : Int32) (M : zM) (H : Heap) (locs : List Loc) (ls : Array Slot), ag4 x1 x2 x3 M → zH G false s H locs M O → lv_has ls 9 [(0, .ref (G.1 21)), (1, .int x1), (2, .int x2), (3, .int x3)] → W p l e ({ frames := 2, cells := 0, slots := 0, locals := 45 } : Room) s m args below meth c H locs 0 0 Q (F0 m 4 ls [])) (x1 : Int32) (x2 : Int32) (x3 : Int32) (M : zM) (H : Heap) (locs : List Loc) (ls : Array Slot) (hH : zH G false s H locs M O) (hl : lv_has ls 9 [(0, .ref (G.1 21)), (1, .int x1), (2, .int x2), (3, .int x3)]) (h : pX6_isSolvable_b4 post ag4 x1 x2 x3 M) : W p l e ({ frames := 2, cells := 0, slots := 0, locals := 45 } : Room) s m args below meth c H locs 0 0 Q (F0 m 4 ls []) := by
  obtain ⟨hx, hb, hml, hown, hts⟩ := id hF
  unfold pX6_isSolvable_b4 at h
  refine lv_iload_n hx hb dX6_isSolvable_4 rfl (lv_at hl 3 rfl) ?_
  refine lv_aload_n hx hb dX6_isSolvable_5 rfl (lv_at hl 0 rfl) ?_
  refine zget (v := .int (M.1 21 3)) hF hSt hH 21 (by decide) rfl (zE_21 _ _ _) (C := RX6) (T := TX6) (N := 31) rfl znX6_isSolvable_X6 3 (by decide) (List.mem_of_getElem? (i := 1) rfl) rfl dX6_isSolvable_6 ?_
  refine lv_icmp_ge (tgt := 225) hx hb dX6_isSolvable_9 (by decide) (fun q9 => ?_) (fun q9 => ?_)
  · have h := h.1 q9
    refine lv_iload_n hx hb dX6_isSolvable_225 rfl (lv_at hl 2 rfl) ?_
    refine lv_istore_n (lv' := [(3, .int x2), (0, .ref (G.1 21)), (1, .int x1), (2, .int x2)]) hx hb dX6_isSolvable_226 rfl hl (by decide) rfl (fun ls hl => ?_)
    exact wX6_isSolvable_L227 hF hSt hret x1 x2 M H locs ls hH (lv_sub hl [1, 2, 0] rfl) h
  · have h := h.2 q9
    refine lv_iload_n hx hb dX6_isSolvable_12 rfl (lv_at hl 2 rfl) ?_
    refine lv_istore (lv' := [(4, .int x2), (0, .ref (G.1 21)), (1, .int x1), (2, .int x2), (3, .int x3)]) hx hb dX6_isSolvable_13 hl (by decide) rfl (fun ls hl => ?_)
    exact wX6_isSolvable_L15 hF hSt hret hag4 x1 x2 x3 x2 M H locs ls hH (lv_sub hl [1, 2, 3, 4, 0] rfl) h
def pX6_isSolvable_L4 (post : Int32 → zM → Prop) (x1 : Int32) (x2 : Int32) (x3 : Int32) (M : zM) : Prop :=
  ∃ I : Nat → Int32 → Int32 → Int32 → zM → Prop, (∃ n, I n x1 x2 x3 M) ∧ ∀ n x1 x2 x3 M, I n x1 x2 x3 M → pX6_isSolvable_b4 post (fun x1 x2 x3 M => ∃ k, k < n ∧ I k x1 x2 x3 M) x1 x2 x3 M
set_option maxHeartbeats 4000000 in
theorem wX6_isSolvable_L4 {post : Int32 → zM → Prop}  (hF : CallFix p m c cX6_isSolvable 9 s args wsX6_isSolvable RX6) (hSt : zSt G s) (hret : zRz p l e ({ frames := 2, cells := 0, slots := 0, locals := 45 } : Room) s m args below meth c Q cX6_isSolvable G false O post) (x1 : Int32) (x2 : Int32) (x3 : Int32) (M : zM) (H : Heap) (locs : List Loc) (ls : Array Slot) (hH : zH G false s H locs M O) (hl : lv_has ls 9 [(0, .ref (G.1 21)), (1, .int x1), (2, .int x2), (3, .int x3)]) (h : pX6_isSolvable_L4 post x1 x2 x3 M) : W p l e ({ frames := 2, cells := 0, slots := 0, locals := 45 } : Room) s m args below meth c H locs 0 0 Q (F0 m 4 ls []) := by
  obtain ⟨I, ⟨n, hI⟩, hs⟩ := h
  have key : ∀ (n : Nat) (x1 : Int32) (x2 : Int32) (x3 : Int32) (M : zM) (H : Heap) (locs : List Loc) (ls : Array Slot), I n x1 x2 x3 M → zH G false s H locs M O → lv_has ls 9 [(0, .ref (G.1 21)), (1, .int x1), (2, .int x2), (3, .int x3)] → W p l e ({ frames := 2, cells := 0, slots := 0, locals := 45 } : Room) s m args below meth c H locs 0 0 Q (F0 m 4 ls []) := by
    intro n
    induction n using Nat.strongRecOn with
    | _ n ih =>
      intro x1 x2 x3 M H locs ls hI hH hl
      exact wX6_isSolvable_b4 hF hSt hret (fun x1 x2 x3 M H locs ls h hH hl => by obtain ⟨k, hk, hI⟩ := h; exact ih k hk x1 x2 x3 M H locs ls hI hH hl) x1 x2 x3 M H locs ls hH hl (hs n x1 x2 x3 M hI)
  exact key n x1 x2 x3 M H locs ls hI hH hl
def pX6_isSolvable (M : zM) (x1 : Int32) (post : Int32 → zM → Prop) : Prop :=
  pX6_isSolvable_L4 post x1 (0 : Int32) (0 : Int32) M
set_option maxHeartbeats 4000000 in
set_option maxRecDepth 100000 in
theorem wX6_isSolvable {M : zM} {post : Int32 → zM → Prop} (hF : CallFix p m c cX6_isSolvable 9 s args wsX6_isSolvable RX6) (hSt : zSt G s) (hret : zRz p l e ({ frames := 2, cells := 0, slots := 0, locals := 45 } : Room) s m args below meth c Q cX6_isSolvable G false O post) (x1 : Int32) (H : Heap) (locs : List Loc) (ls : Array Slot) (hH : zH G false s H locs M O) (hl : lv_has ls 9 [(0, .ref (G.1 21)), (1, .int x1)]) (h : pX6_isSolvable M x1 post) : W p l e ({ frames := 2, cells := 0, slots := 0, locals := 45 } : Room) s m args below meth c H locs 0 0 Q (F0 m 0 ls []) := by
  obtain ⟨hx, hb, hml, hown, hts⟩ := id hF
  unfold pX6_isSolvable at h
  refine lv_iconst (v := (0 : Int32)) hx hb dX6_isSolvable_0 (by decide) ?_
  refine lv_istore_n (lv' := [(2, .int (0 : Int32)), (0, .ref (G.1 21)), (1, .int x1)]) hx hb dX6_isSolvable_1 rfl hl (by decide) rfl (fun ls hl => ?_)
  refine lv_iconst (v := (0 : Int32)) hx hb dX6_isSolvable_2 (by decide) ?_
  refine lv_istore_n (lv' := [(3, .int (0 : Int32)), (2, .int (0 : Int32)), (0, .ref (G.1 21)), (1, .int x1)]) hx hb dX6_isSolvable_3 rfl hl (by decide) rfl (fun ls hl => ?_)
  exact wX6_isSolvable_L4 hF hSt hret x1 (0 : Int32) (0 : Int32) M H locs ls hH (lv_sub hl [2, 3, 1, 0] rfl) h
set_option maxRecDepth 100000 in
theorem kX6_isSolvable (l : Launch) (G : zG) (M O : zM) (x1 : Int32) (post : Int32 → zM → Prop) (h : pX6_isSolvable M x1 post) : Met l yX6_isSolvable wsX6_isSolvable ({ frames := 2, cells := 0, slots := 0, locals := 45 } : Room) (zPc G false M O [.ref (G.1 21), .int x1]) (va_Qi post (zB G false O) (zAA G)) 0 0 (zAA G) :=
  zmet_z (by decide) rfl (Nat.le_of_ble_eq_true rfl) (fun hF hSt hret H locs ls hH hl => wX6_isSolvable hF hSt hret x1 H locs ls hH hl h)
end
